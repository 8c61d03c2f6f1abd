/-! the shaft; what only looks at the works -/
theorem goAt_step {n i : Nat} {h : aw_H} {x : Int32} (e1 : ¬ h.1 1 1 ≤ o3 i) (hi : i < 6) {H : aw_H} (ht : FX3_tune n (3 + 4 * i) x h = some H) : BX4_goAt_7 n x (o3 i, h) = some (Sum.inl (o3 (i + 1), H)) := by
  unfold BX4_goAt_7
  rw [if_neg e1, if_pos ((o3_inb (by omega)).mpr hi)]
  simp only [o3_clamp (show i < 2147483648 by omega)]
  rw [ht, n1]
  simp only [Option.bind_some, o3_add]
def goI (h : aw_H) (v : St) (u : Int32 × aw_H) : Prop := ∃ i : Nat, u.1 = o3 i ∧ i ≤ v 66 ∧ u.2.1 = h.1 ∧ Same (fun q => 3 ≤ q ∧ q < 27) h u.2 ∧ ∀ j, j < i → Spd u.2 (3 + 4 * j) v j
theorem goAt5 {n : Nat} {h : aw_H} {v : St} (ok : Ok v) (w1 : h.1 1 1 = o3 (v 66)) (wh : ∀ j, j < 6 → Whl h (3 + 4 * j) v j) (hn : 300 ≤ n) : ∃ H, aw_loop (BX4_goAt_7 n (o3 (v 67))) n (o3 0, h) = some H ∧ H.1 = h.1 ∧ Same (fun q => 3 ≤ q ∧ q < 27) h H ∧ ∀ j, j < v 66 → Spd H (3 + 4 * j) v j := by
  have h66 := ok.1
  refine lp_wp (goI h v) (fun u => 10 - u.1.toNatClampNeg) ?_ n (o3 0, h) ⟨0, rfl, by omega, rfl, Same.rfl, fun j hj => absurd hj (by omega)⟩ (by show 10 - _ < n; omega)
  rintro ⟨i', u⟩ ⟨i, hi, h1, h2, h3, h4⟩
  have hi : i' = o3 i := hi
  have h2 : u.1 = h.1 := h2
  subst hi
  have e1 : u.1 1 1 = o3 (v 66) := by rw [h2]; exact w1
  by_cases hl : i = v 66
  · refine Or.inr ⟨u, ?_, h2, h3, fun j hj => h4 j (by omega)⟩
    unfold BX4_goAt_7
    rw [if_pos (show u.1 1 1 ≤ o3 i by rw [e1, o3_le (by omega) (by omega)]; omega)]
  · have whi : Whl u (3 + 4 * i) v i := by
      unfold Whl
      rw [h2]; exact wh i (by omega)
    have ht := tune5 (n := n) whi (ok.2.2.2 i (by omega)) ok.2.1.2 hn
    refine Or.inl ⟨(o3 (i + 1), tuned u (3 + 4 * i) v i), goAt_step (by rw [e1, o3_le (by omega) (by omega)]; omega) (by omega) ht, ⟨i + 1, rfl, by omega, h2, h3.trans (tuned_same (by omega)), fun j hj => ?_⟩, ?_⟩
    · by_cases e : j = i
      · subst e; exact tuned_spd
      · exact (h4 j (by omega)).fr (tuned_same (S := fun q => q = 3 + 4 * i) rfl) (by omega)
    · show 10 - (o3 (i + 1)).toNatClampNeg < 10 - (o3 i).toNatClampNeg
      rw [o3_clamp (by omega), o3_clamp (by omega)]; omega
theorem c_shaft {n : Nat} {h : aw_H} (k : Rel h) (hn : 300 ≤ n) (a1 : Int32) : Sim (FX5_shaft n a1 h) (FX6_shaft a1) := by
  obtain ⟨v, ok, w, md⟩ := k.1
  rcases rng a1 1 999 1 999 1 999 rfl rfl rfl rfl (by omega) (by omega) with ⟨f1, f2, -⟩ | ⟨x, c1, c2, c3, c4, c5⟩
  · exact ⟨-2, h, h, by simp only [FX5_shaft, f1, if_true], by simp only [FX6_shaft, f2, if_true], k⟩
  subst c1
  obtain ⟨w1, w2, w3, w4⟩ := w
  obtain ⟨v', hv'⟩ : ∃ v', v' = upv v 67 x := ⟨_, rfl⟩
  have e67 : v' 67 = x := by rw [hv', upv_eq]
  have e66 : v' 66 = v 66 := by rw [hv', upv_ne (by omega)]
  have e68 : v' 68 = v 68 := by rw [hv', upv_ne (by omega)]
  have ok' : Ok v' := ⟨by rw [e66]; exact ok.1, by rw [e67]; exact ⟨c2, c3⟩, by rw [e68]; exact ok.2.2.1, fun j hj => (ok.2.2.2 j hj).congr fun i hi => by rw [hv', upv_ne (by omega)]⟩
  have hs0 : Same (fun q => q = 1) h (aw_sI h 1 2 (o3 x)) := Same.sI rfl
  obtain ⟨H, g1, g2, g3, g4⟩ := goAt5 (n := n) (h := aw_sI h 1 2 (o3 x)) ok' (by rw [sI_nk (by omega), e66]; exact w1) (fun j hj => ((w4 j hj).1.fr hs0 (fun i hi => by omega)).congr fun i hi => by rw [hv', upv_ne (by omega)]) hn
  rw [e67] at g1
  have hs1 : Same (fun q => q = 1 ∨ (3 ≤ q ∧ q < 27)) h H := (hs0.mono (fun q hq => Or.inl hq)).trans (g3.mono (fun q hq => Or.inr hq))
  have mt := md.fr hs1 (by omega)
  refine ⟨o3 (v 67), H, aw_sI H 72 67 (o3 x), ?_, ?_, ?_⟩
  · unfold FX5_shaft FX4_goAt
    rw [if_neg c4, n0, g1, w2]; rfl
  · unfold FX6_shaft
    rw [if_neg c5, mt 67 (by omega)]
  · refine k.works ((hs1.mono (fun q hq => ?_)).trans (Same.sI (Or.inr (Or.inr rfl)))) v' ok' ?_ ?_
    · unfold WrkS; omega
    · refine ⟨by rw [sI_ne (by omega), g2, sI_nk (by omega), e66]; exact w1, by rw [sI_ne (by omega), g2, sI_eq, e67], by rw [sI_ne (by omega), g2, sI_nk (by omega), e68]; exact w3, fun j hj => ⟨?_, fun hj2 => ?_⟩⟩
      · have : Whl H (3 + 4 * j) v' j := by
          unfold Whl
          rw [g2]
          exact ((w4 j hj).1.fr hs0 (fun i hi => by omega)).congr fun i hi => by rw [hv', upv_ne (by omega)]
        exact this.fr (Same.sI (S := fun q => q = 72) rfl) (fun i hi => by omega)
      · exact (g4 j hj2).fr (Same.sI (S := fun q => q = 72) rfl) (by omega)
    · rw [hv']; exact mt.upv _ _
/-- both answer alike, and nothing is changed -/
def Sv {α : Type} (a b : Option α) : Prop := ∃ x, a = some x ∧ b = some x
theorem ro1_above : ∀ a : Fin 6, ∀ b : Fin 6, (if o3 b.1 = o3 a.1 then (1 : Int32) else if o3 b.1 = aw_ro 1 a.1 then 1 else if o3 b.1 = 0 then 1 else 0) = (if b.1 = a.1 ∨ b.1 = 0 ∨ (a.1 = 4 ∧ b.1 = 1) ∨ (a.1 = 5 ∧ b.1 = 3) then 1 else 0) := by decide
theorem isA5 {h : aw_H} {w a b : Nat} (e : h.1 (w + 1) 0 = o3 a) (ha : a ≤ 5) (hb : b ≤ 5) : FX3_isA w (o3 b) h = some (if b = a ∨ b = 0 ∨ (a = 4 ∧ b = 1) ∨ (a = 5 ∧ b = 3) then 1 else 0) := by
  have key := ro1_above ⟨a, by omega⟩ ⟨b, by omega⟩
  simp only at key
  rw [← key]
  unfold FX3_isA
  rw [e, if_pos ((o3_inb (by omega)).mpr (by omega)), o3_clamp (by omega)]
  split
  · rfl
  · split
    · rfl
    · split <;> rfl
theorem above6' : ∀ a : Fin 6, FX6_above (o3 a.1) = o3 ([0, 0, 0, 0, 1, 3].getD a.1 0) := by decide
theorem taken_step {h : aw_H} {v : St} {p b : Nat} (md : Mod h v) (hp : p < 6) {a : Nat} (ha : a ≤ 5) (hb : b ≤ 5) : BX6_taken_26 (o3 p) (o3 b) h (o3 a) = some (if a = b then Sum.inr (o3 (v (11 * p + 3))) else if a = 0 then Sum.inr (-13) else Sum.inl (FX6_above (o3 a))) := by
  have a3 : FX6_at (o3 p) 3 h = some (o3 (v (11 * p + 3))) := at6 (k := 3) md hp (by omega)
  unfold BX6_taken_26
  simp only [a3, Option.bind_some]
  by_cases e : a = b
  · rw [if_pos (show o3 a = o3 b by rw [e]), if_pos (show o3 a = o3 b by rw [e]), if_pos e]
  · have e' : ¬ o3 a = o3 b := by rw [o3_eq (by omega) (by omega)]; exact e
    rw [if_neg e', if_neg e]
    by_cases e0 : a = 0
    · rw [if_pos (show o3 a = 0 by rw [e0]; rfl), if_neg e', if_pos e0]
    · rw [if_neg (show ¬ o3 a = 0 by rw [n0, o3_eq (by omega) (by omega)]; exact e0), if_neg e0]
theorem taken6 {n : Nat} {h : aw_H} {v : St} {p b : Nat} (md : Mod h v) (hp : p < 6) {a : Nat} (ha : a ≤ 5) (hb : b ≤ 5) (hn : 10 ≤ n) : aw_loop (BX6_taken_26 (o3 p) (o3 b) h) n (o3 a) = some (if b = a ∨ b = 0 ∨ (a = 4 ∧ b = 1) ∨ (a = 5 ∧ b = 3) then o3 (v (11 * p + 3)) else -13) := by
  have st := fun a ha => taken_step (b := b) md hp (a := a) ha hb
  obtain ⟨n, rfl⟩ : ∃ j, n = j + 3 := ⟨n - 3, by omega⟩
  have z0 : ∀ m, aw_loop (BX6_taken_26 (o3 p) (o3 b) h) (m + 1) (o3 0) = some (if b = 0 then o3 (v (11 * p + 3)) else -13) := fun m => by
    rw [aw_loop, st 0 (by omega)]
    by_cases e : b = 0
    · rw [if_pos e.symm, if_pos e]
    · rw [if_neg (fun q => e q.symm), if_pos rfl, if_neg e]
  have ab : ∀ a, a ≤ 5 → FX6_above (o3 a) = o3 ([0, 0, 0, 0, 1, 3].getD a 0) := fun a ha => above6' ⟨a, by omega⟩
  have z1 : ∀ a, a ≤ 3 → ∀ m, aw_loop (BX6_taken_26 (o3 p) (o3 b) h) (m + 2) (o3 a) = some (if b = a ∨ b = 0 then o3 (v (11 * p + 3)) else -13) := fun a ha m => by
    rw [aw_loop, st a (by omega)]
    by_cases e : a = b
    · rw [if_pos e, if_pos (Or.inl e.symm)]
    · rw [if_neg e]
      by_cases e0 : a = 0
      · rw [if_pos e0, if_neg (by omega)]
      · rw [if_neg e0, ab a (by omega), show [0, 0, 0, 0, 1, 3].getD a 0 = 0 by
          rcases (show a = 1 ∨ a = 2 ∨ a = 3 by omega) with rfl | rfl | rfl <;> rfl]
        show aw_loop (BX6_taken_26 (o3 p) (o3 b) h) (m + 1) (o3 0) = _
        rw [z0 m]
        by_cases eb : b = 0
        · rw [if_pos eb, if_pos (Or.inr eb)]
        · rw [if_neg eb, if_neg (by omega)]
  by_cases h3 : a ≤ 3
  · rw [z1 a h3 (n + 1)]
    by_cases hc : b = a ∨ b = 0
    · rw [if_pos hc, if_pos (by omega)]
    · rw [if_neg hc, if_neg (by omega)]
  · rw [aw_loop, st a ha]
    by_cases e : a = b
    · rw [if_pos e, if_pos (Or.inl e.symm)]
    · rw [if_neg e, if_neg (by omega), ab a ha]
      rcases (show a = 4 ∨ a = 5 by omega) with rfl | rfl
      · show aw_loop (BX6_taken_26 (o3 p) (o3 b) h) (n + 2) (o3 1) = _
        rw [z1 1 (by omega) n]
        by_cases hc : b = 1 ∨ b = 0
        · rw [if_pos hc, if_pos (by omega)]
        · rw [if_neg hc, if_neg (by omega)]
      · show aw_loop (BX6_taken_26 (o3 p) (o3 b) h) (n + 2) (o3 3) = _
        rw [z1 3 (by omega) n]
        by_cases hc : b = 3 ∨ b = 0
        · rw [if_pos hc, if_pos (by omega)]
        · rw [if_neg hc, if_neg (by omega)]
theorem c_taken {n : Nat} {h : aw_H} (k : Rel h) (hn : 300 ≤ n) (a1 a2 : Int32) : Sv (FX5_taken a1 a2 h) (FX6_taken n a1 a2 h) := by
  obtain ⟨v, ok, w, md⟩ := k.1
  rcases part_g (h := h) (h' := h) a1 w.1 (md 66 (by omega)) ok.1 with ⟨f1, f2⟩ | ⟨p, b1, b2, b3, b4⟩
  · exact ⟨-2, by simp only [FX5_taken, f1, Option.bind_some, aw_on_none], by simp only [FX6_taken, f2, if_true]⟩
  have hp : p < 6 := by have := ok.1; omega
  have t1 : (FX5_allows 0 a2 = some 0 ∧ FX6_mayBe 0 a2 = 0) ∨ (∃ x : Nat, a2 = o3 x ∧ x ≤ 5 ∧ FX5_allows 0 a2 = some 1 ∧ ¬ FX6_mayBe 0 a2 = 0) := trait_g 0 (by omega) a2
  rcases t1 with ⟨f1, f2⟩ | ⟨x, c1, c2, c3, c4⟩
  · exact ⟨-2, by simp only [FX5_taken, b3, f1, Option.bind_some, aw_on_some, isW_of hp, if_true], by simp only [FX6_taken, b4, f2, if_true, if_false]⟩
  subst b1 c1
  obtain ⟨wh, -⟩ := w.2.2.2 p hp
  have okp := ok.2.2.2 p hp
  have e0 : h.1 (3 + 4 * p + 1) 0 = o3 (v (11 * p)) := wh.1 0 (by omega)
  have e3 := wh.1 3 (by omega)
  have a0 : FX6_at (o3 p) 0 h = some (o3 (v (11 * p))) := at6 (k := 0) md hp (by omega)
  have t6 := taken6 (n := n) (b := x) md hp (a := v (11 * p)) okp.1 c2 (by omega)
  have t5 := isA5 (b := x) e0 okp.1 c2
  refine ⟨if x = v (11 * p) ∨ x = 0 ∨ (v (11 * p) = 4 ∧ x = 1) ∨ (v (11 * p) = 5 ∧ x = 3) then o3 (v (11 * p + 3)) else -13, ?_, ?_⟩
  · simp only [FX5_taken, b3, c3, Option.bind_some, aw_on_some, isW_of hp, if_true, one_ne, if_false, t5]
    by_cases hc : x = v (11 * p) ∨ x = 0 ∨ (v (11 * p) = 4 ∧ x = 1) ∨ (v (11 * p) = 5 ∧ x = 3)
    · rw [if_pos hc, if_pos hc, if_neg one_ne, e3]
    · rw [if_neg hc, if_neg hc, if_pos rfl]
  · simp only [FX6_taken, b4, c4, if_false, a0, Option.bind_some, t6]

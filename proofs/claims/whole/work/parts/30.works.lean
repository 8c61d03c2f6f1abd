/-! the calls that change the works -/
def mostN (k : Nat) : Nat := [5, 9, 999, 1023].getD k 0
theorem most_lt (k : Nat) (hk : k < 4) : mostN k ≤ 1023 := by
  rcases (show k = 0 ∨ k = 1 ∨ k = 2 ∨ k = 3 by omega) with rfl | rfl | rfl | rfl <;> decide
theorem trait_g (k : Nat) (hk : k < 4) (a : Int32) : (FX5_allows (o3 k) a = some 0 ∧ FX6_mayBe (o3 k) a = 0) ∨ (∃ x : Nat, a = o3 x ∧ x ≤ mostN k ∧ FX5_allows (o3 k) a = some 1 ∧ ¬ FX6_mayBe (o3 k) a = 0) := by
  have key : ∀ (hi : Nat) (U : Int32) (V : Int64), U = o3 hi → V = o6 hi → hi < 2000 → FX5_allows (o3 k) a = (if FX5_within a 0 U = 0 then some 0 else some 1) → FX6_mayBe (o3 k) a = FX6_isIn a.toInt64 0 V → hi = mostN k → (FX5_allows (o3 k) a = some 0 ∧ FX6_mayBe (o3 k) a = 0) ∨ (∃ x : Nat, a = o3 x ∧ x ≤ mostN k ∧ FX5_allows (o3 k) a = some 1 ∧ ¬ FX6_mayBe (o3 k) a = 0) := by
    intro hi U V hU hV hh e1 e2 e3
    rw [e1, e2, ← e3]
    rcases rng a 0 U 0 V 0 hi rfl hU rfl hV (by omega) (by omega) with ⟨g1, g2, -⟩ | ⟨x, g1, -, g3, g4, g5⟩
    · exact Or.inl ⟨by rw [if_pos g1], g2⟩
    · exact Or.inr ⟨x, g1, g3, by rw [if_neg g4], g5⟩
  rcases (show k = 0 ∨ k = 1 ∨ k = 2 ∨ k = 3 by omega) with rfl | rfl | rfl | rfl
  · exact key 5 5 5 rfl rfl (by omega) (by
      unfold FX5_allows
      rw [if_neg (by decide), if_pos (by decide)]; rfl) (by
      unfold FX6_mayBe
      rw [if_pos (by decide)]) rfl
  · exact key 9 9 9 rfl rfl (by omega) (by
      unfold FX5_allows
      rw [if_neg (by decide), if_pos (by decide)]; rfl) (by
      unfold FX6_mayBe
      rw [if_neg (by decide), if_pos (by decide)]) rfl
  · exact key 999 999 999 rfl rfl (by omega) (by
      unfold FX5_allows
      rw [if_neg (by decide), if_pos (by decide)]; rfl) (by
      unfold FX6_mayBe
      rw [if_neg (by decide), if_neg (by decide), if_pos (by decide)]) rfl
  · exact key 1023 1023 1023 rfl rfl (by omega) (by
      unfold FX5_allows
      rw [if_neg (by decide), if_pos (by decide)]; rfl) (by
      unfold FX6_mayBe
      rw [if_neg (by decide), if_neg (by decide), if_neg (by decide)]) rfl
def WrkS (q : Nat) : Prop := q = 1 ∨ (3 ≤ q ∧ q < 27) ∨ q = 72
theorem Rel.works {h h' : aw_H} (k : Rel h) (hs : Same WrkS h h') (v' : St) (k1 : Ok v') (k2 : Wks h' 1 3 v') (k3 : Mod h' v') : Rel h' := by
  obtain ⟨-, k4, k5, k6⟩ := k
  refine ⟨⟨v', k1, k2, k3⟩, k4.fr hs ?_ ?_ ?_ ?_, k5.fr hs ?_ ?_ ?_ ?_, k6.fr hs ?_ ?_ ?_ ?_⟩
  all_goals first | (rw [(hs 71 (by unfold WrkS; omega)).1]; done) | (rw [(hs 54 (by unfold WrkS; omega)).1]; done) | (try intro q q1 q2); unfold WrkS; omega
theorem Mod.upv {h : aw_H} {v : St} (k : Mod h v) (i x : Nat) : Mod (aw_sI h 72 i (o3 x)) (upv v i x) := by
  intro j hj
  by_cases e : j = i
  · subst e
    rw [sI_eq, upv_eq]
  · rw [sI_nk e, upv_ne e]; exact k j hj
theorem Wks.set {h h' : aw_H} {v v' : St} {p : Nat} (k : Wks h 1 3 v) (hp : p < 6) (ok : Ok v) (hs : Same (fun q => q = 1 ∨ q = 72 ∨ (3 + 4 * p ≤ q ∧ q < 3 + 4 * p + 4)) h h') (c1 : h'.1 1 1 = o3 (v' 66)) (c2 : h'.1 1 2 = o3 (v' 67)) (c3 : h'.1 1 3 = o3 (v' 68)) (e7 : v' 67 = v 67) (agr : ∀ j, j < 6 → j ≠ p → ∀ i, i < 11 → v' (11 * j + i) = v (11 * j + i)) (hw : Whl h' (3 + 4 * p) v' p) (hsp : p < v' 66 → Spd h' (3 + 4 * p) v' p) (h66 : ∀ j, j < v' 66 → j ≠ p → j < v 66) : Wks h' 1 3 v' := by
  obtain ⟨-, -, -, k4⟩ := k
  refine ⟨c1, c2, c3, fun j hj => ?_⟩
  by_cases e : j = p
  · subst e
    exact ⟨hw, hsp⟩
  · obtain ⟨a1, a2⟩ := k4 j hj
    have hq : ∀ i, i < 4 → ¬ (3 + 4 * j + i = 1 ∨ 3 + 4 * j + i = 72 ∨ (3 + 4 * p ≤ 3 + 4 * j + i ∧ 3 + 4 * j + i < 3 + 4 * p + 4)) := fun i hi => by omega
    refine ⟨(a1.fr hs hq).congr (agr j hj e), fun hv => ?_⟩
    exact ((a2 (h66 j hv e)).fr hs (hq 0 (by omega))).congr (ok.2.2.2 j hj).2.2.2.2.1 e7 (fun i _ hi => agr j hj e i hi)
/-- what is asked of a pair of calls -/
def Sim (o5 : Option (Int32 × aw_H)) (f6 : aw_H → Option (Int32 × aw_H)) : Prop := ∃ (x : Int32) (h1 h2 : aw_H), o5 = some (x, h1) ∧ f6 h1 = some (x, h2) ∧ Rel h2
theorem c_drop {h : aw_H} (k : Rel h) : Sim (FX5_drop h) FX6_drop := by
  obtain ⟨v, ok, w, md⟩ := k.1
  have h66 := ok.1
  have e1 := w.1
  have e2 := md 66 (by omega)
  unfold FX5_drop
  by_cases h0 : v 66 = 0
  · rw [if_neg (show ¬ 0 < h.1 1 1 by rw [e1, h0]; decide)]
    refine ⟨_, _, _, rfl, ?_, k⟩
    unfold FX6_drop
    rw [if_pos (by rw [e2, h0]; rfl)]
  · rw [if_pos (show 0 < h.1 1 1 by rw [e1, n0, o3_lt (by omega) (by omega)]; omega)]
    have e3 : (aw_sI h 1 1 (o3 (v 66 - 1))).1 72 = h.1 72 := sI_ne (by omega)
    refine ⟨o3 (v 66 - 1), _, aw_sI (aw_sI h 1 1 (o3 (v 66 - 1))) 72 66 (o3 (v 66 - 1)), by rw [sI_eq, e1, n1, o3_sub (by omega) (by omega)], ?_, ?_⟩
    · unfold FX6_drop
      rw [if_neg (by rw [e3, e2, n0, o3_eq (by omega) (by omega)]; exact h0), sI_eq, e3, e2, n1, o3_sub (by omega) (by omega)]
    · refine k.works ((Same.sI (Or.inl rfl)).trans (Same.sI (Or.inr (Or.inr rfl)))) (upv v 66 (v 66 - 1)) ?_ ?_ ?_
      · refine ⟨by rw [upv_eq]; omega, by rw [upv_ne (by omega)]; exact ok.2.1, by rw [upv_ne (by omega)]; exact ok.2.2.1, fun j hj => (ok.2.2.2 j hj).congr fun i hi => upv_ne (by omega)⟩
      · obtain ⟨w1, w2, w3, w4⟩ := w
        refine ⟨by rw [sI_ne (by omega), sI_eq, upv_eq], by rw [sI_ne (by omega), sI_nk (by omega), upv_ne (by omega)]; exact w2, by rw [sI_ne (by omega), sI_nk (by omega), upv_ne (by omega)]; exact w3, fun j hj => ?_⟩
        have hs : Same (fun q => q = 1 ∨ q = 72) h (aw_sI (aw_sI h 1 1 (o3 (v 66 - 1))) 72 66 (o3 (v 66 - 1))) := (Same.sI (Or.inl rfl)).trans (Same.sI (Or.inr rfl))
        refine ⟨((w4 j hj).1.fr hs (fun i hi => by omega)).congr fun i hi => upv_ne (by omega), fun hj2 => ?_⟩
        rw [upv_eq] at hj2
        exact (((w4 j hj).2 (by omega)).fr hs (by omega)).congr (ok.2.2.2 j hj).2.2.2.2.1 (upv_ne (by omega)) fun i _ hi => upv_ne (by omega)
      · exact (md.fr (Same.sI (S := fun q => q = 1) rfl) (by omega)).upv 66 (v 66 - 1)
theorem one_ne : ¬ (1 : Int32) = 0 := by decide
theorem tuned_1 {h : aw_H} {w p : Nat} {v : St} : (tuned h w v p).1 = h.1 := rfl
theorem tuned_same {h : aw_H} {w p : Nat} {v : St} {S : Nat → Prop} (hw : S w) : Same S h (tuned h w v p) := (Same.sL hw).trans (Same.sL hw)
theorem tuned_spd {h : aw_H} {w p : Nat} {v : St} : Spd (tuned h w v p) w v p := ⟨(sL_nk (by omega)).trans sL_eq, sL_eq⟩
theorem lays60 {h : aw_H} {p : Nat} {x : Int32} (hp : p < 6) : FX6_lays (o3 p) 0 x h = some (aw_sI h 72 (11 * p + 0) x) := lays6 (k := 0) hp (by omega)
theorem lays61 {h : aw_H} {p : Nat} {x : Int32} (hp : p < 6) : FX6_lays (o3 p) 1 x h = some (aw_sI h 72 (11 * p + 1) x) := lays6 (k := 1) hp (by omega)
theorem lays62 {h : aw_H} {p : Nat} {x : Int32} (hp : p < 6) : FX6_lays (o3 p) 2 x h = some (aw_sI h 72 (11 * p + 2) x) := lays6 (k := 2) hp (by omega)
theorem lays63 {h : aw_H} {p : Nat} {x : Int32} (hp : p < 6) : FX6_lays (o3 p) 3 x h = some (aw_sI h 72 (11 * p + 3) x) := lays6 (k := 3) hp (by omega)
theorem lays64 {h : aw_H} {p : Nat} {x : Int32} (hp : p < 6) : FX6_lays (o3 p) 4 x h = some (aw_sI h 72 (11 * p + 4) x) := lays6 (k := 4) hp (by omega)
def vPart (v : St) (x1 x2 x3 x4 : Nat) : St := upv (upv (upv (upv (upv (upv v 66 (v 66 + 1)) (11 * v 66 + 0) x1) (11 * v 66 + 1) x2) (11 * v 66 + 2) x3) (11 * v 66 + 3) x4) (11 * v 66 + 4) 0
def hPart (h : aw_H) (P : Nat) (x1 x2 x3 x4 : Nat) : aw_H := aw_sI (aw_sI (aw_sI (aw_sI (aw_sI h (3 + 4 * P + 1) 0 (o3 x1)) (3 + 4 * P + 1) 1 (o3 x2)) (3 + 4 * P + 1) 2 (o3 x3)) (3 + 4 * P + 1) 3 (o3 x4)) (3 + 4 * P) 3 0
theorem vPart_ok {v : St} {x1 x2 x3 x4 : Nat} (ok : Ok v) (hP : v 66 < 6) (g1 : x1 ≤ 5) (g2 : x2 ≤ 9) (g3 : x3 ≤ 999) (g4 : x4 ≤ 1023) : Ok (vPart v x1 x2 x3 x4) := by
  unfold vPart
  refine ⟨?_, ?_, ?_, fun j hj => ?_⟩
  · rw [upv_ne (by omega), upv_ne (by omega), upv_ne (by omega), upv_ne (by omega), upv_ne (by omega), upv_eq]; omega
  · rw [upv_ne (by omega), upv_ne (by omega), upv_ne (by omega), upv_ne (by omega), upv_ne (by omega), upv_ne (by omega)]; exact ok.2.1
  · rw [upv_ne (by omega), upv_ne (by omega), upv_ne (by omega), upv_ne (by omega), upv_ne (by omega), upv_ne (by omega)]; exact ok.2.2.1
  · by_cases e : j = v 66
    · subst e
      unfold OkP
      have e0 : 11 * v 66 = 11 * v 66 + 0 := rfl
      rw [e0, upv_ne (by omega), upv_ne (by omega), upv_ne (by omega), upv_ne (by omega), upv_eq, ← e0]
      rw [upv_ne (j := 11 * v 66 + 1) (by omega), upv_ne (j := 11 * v 66 + 1) (by omega), upv_ne (j := 11 * v 66 + 1) (by omega), upv_eq]
      rw [upv_ne (j := 11 * v 66 + 2) (by omega), upv_ne (j := 11 * v 66 + 2) (by omega), upv_eq]
      rw [upv_ne (j := 11 * v 66 + 3) (by omega), upv_eq, upv_eq]
      exact ⟨g1, g2, g3, g4, by omega, fun k hk => absurd hk (by omega)⟩
    · exact (ok.2.2.2 j hj).congr fun i hi => by
        rw [upv_ne (by omega), upv_ne (by omega), upv_ne (by omega), upv_ne (by omega), upv_ne (by omega), upv_ne (by omega)]
theorem vPart_whl {h : aw_H} {v : St} {x1 x2 x3 x4 : Nat} (w : Wks h 1 3 v) (hP : v 66 < 6) : Whl (hPart h (v 66) x1 x2 x3 x4) (3 + 4 * v 66) (vPart v x1 x2 x3 x4) (v 66) := by
  obtain ⟨-, -, -, w4⟩ := w
  obtain ⟨⟨-, -, w5⟩, -⟩ := w4 (v 66) hP
  unfold hPart vPart
  refine ⟨fun k hk => ?_, ?_, fun k hk => ?_⟩
  · rcases (show k = 0 ∨ k = 1 ∨ k = 2 ∨ k = 3 by omega) with rfl | rfl | rfl | rfl <;> simp (disch := omega) only [sI_ne, sI_nk, sI_eq, upv_ne, upv_eq]
  · rw [sI_eq, upv_eq]; rfl
  · have := w5 k hk
    simp (disch := omega) only [sI_ne, upv_ne]
    exact this
theorem hPart_same {h : aw_H} {P : Nat} {x1 x2 x3 x4 : Nat} {S : Nat → Prop} (h0 : S (3 + 4 * P)) (h1 : S (3 + 4 * P + 1)) : Same S h (hPart h P x1 x2 x3 x4) :=
  ((((Same.sI h1).trans (Same.sI h1)).trans (Same.sI h1)).trans (Same.sI h1)).trans (Same.sI h0)
theorem addWheel5 {n : Nat} {h : aw_H} {v : St} {x1 x2 x3 x4 : Nat} (w : Wks h 1 3 v) (ok : Ok v) (hn : 300 ≤ n) (g1 : x1 ≤ 5) (g2 : x2 ≤ 9) (g3 : x3 ≤ 999) (g4 : x4 ≤ 1023) (hP : v 66 < 6) : FX4_addWheel n (o3 x1) (o3 x2) (o3 x3) (o3 x4) h = some (o3 (v 66), aw_sI (tuned (hPart h (v 66) x1 x2 x3 x4) (3 + 4 * v 66) (vPart v x1 x2 x3 x4) (v 66)) 1 1 (o3 (v 66 + 1))) := by
  have ok' := vPart_ok ok hP g1 g2 g3 g4
  have wh := vPart_whl (x1 := x1) (x2 := x2) (x3 := x3) (x4 := x4) w hP
  have e67 : vPart v x1 x2 x3 x4 67 = v 67 := by
    unfold vPart
    simp (disch := omega) only [upv_ne]
  have e1 := w.1
  have e2 := w.2.1
  have hc : (hPart h (v 66) x1 x2 x3 x4).1 1 = h.1 1 := by
    unfold hPart
    simp (disch := omega) only [sI_ne]
  have ht := tune5 (n := n) wh (ok'.2.2.2 _ hP) ok'.2.1.2 hn
  rw [e67] at ht
  unfold FX4_addWheel
  rw [e1, if_pos (show o3 (v 66) < 6 by rw [n6, o3_lt (by omega) (by omega)]; exact hP), if_pos ((o3_inb (by omega)).mpr hP), o3_clamp (by omega)]
  show (Option.bind (FX3_tune n (3 + 4 * v 66) ((hPart h (v 66) x1 x2 x3 x4).1 1 2) (hPart h (v 66) x1 x2 x3 x4)) _) = _
  rw [hc, e2, ht]
  simp only [Option.bind_some]
  rw [tuned_1, hc, e1, sI_eq, n1, o3_add, o3_sub (by omega) (by omega)]
  rfl
theorem c_part {n : Nat} {h : aw_H} (k : Rel h) (hn : 300 ≤ n) (a1 a2 a3 a4 : Int32) : Sim (FX5_part n a1 a2 a3 a4 h) (FX6_part a1 a2 a3 a4) := by
  obtain ⟨v, ok, w, md⟩ := k.1
  have h66 := ok.1
  have t1 : (FX5_allows 0 a1 = some 0 ∧ FX6_mayBe 0 a1 = 0) ∨ (∃ x : Nat, a1 = o3 x ∧ x ≤ 5 ∧ FX5_allows 0 a1 = some 1 ∧ ¬ FX6_mayBe 0 a1 = 0) := trait_g 0 (by omega) a1
  have t2 : (FX5_allows 1 a2 = some 0 ∧ FX6_mayBe 1 a2 = 0) ∨ (∃ x : Nat, a2 = o3 x ∧ x ≤ 9 ∧ FX5_allows 1 a2 = some 1 ∧ ¬ FX6_mayBe 1 a2 = 0) := trait_g 1 (by omega) a2
  have t3 : (FX5_allows 2 a3 = some 0 ∧ FX6_mayBe 2 a3 = 0) ∨ (∃ x : Nat, a3 = o3 x ∧ x ≤ 999 ∧ FX5_allows 2 a3 = some 1 ∧ ¬ FX6_mayBe 2 a3 = 0) := trait_g 2 (by omega) a3
  have t4 : (FX5_allows 3 a4 = some 0 ∧ FX6_mayBe 3 a4 = 0) ∨ (∃ x : Nat, a4 = o3 x ∧ x ≤ 1023 ∧ FX5_allows 3 a4 = some 1 ∧ ¬ FX6_mayBe 3 a4 = 0) := trait_g 3 (by omega) a4
  rcases t1 with ⟨f1, f2⟩ | ⟨x1, b1, b2, b3, b4⟩
  · exact ⟨-2, h, h, by simp only [FX5_part, f1, Option.bind_some, if_true], by simp only [FX6_part, f2, if_true], k⟩
  rcases t2 with ⟨f1, f2⟩ | ⟨x2, c1, c2, c3, c4⟩
  · exact ⟨-2, h, h, by simp only [FX5_part, b3, f1, Option.bind_some, if_true, one_ne, if_false], by simp only [FX6_part, b4, f2, if_true, if_false], k⟩
  rcases t3 with ⟨f1, f2⟩ | ⟨x3, d1, d2, d3, d4⟩
  · exact ⟨-2, h, h, by simp only [FX5_part, b3, c3, f1, Option.bind_some, if_true, one_ne, if_false], by simp only [FX6_part, b4, c4, f2, if_true, if_false], k⟩
  rcases t4 with ⟨f1, f2⟩ | ⟨x4, f1, f2, f3, f4⟩
  · exact ⟨-2, h, h, by simp only [FX5_part, b3, c3, d3, f1, Option.bind_some, if_true, one_ne, if_false], by simp only [FX6_part, b4, c4, d4, f2, if_true, if_false], k⟩
  by_cases hP : v 66 < 6
  · subst b1 c1 d1 f1
    have ha := addWheel5 (n := n) w ok hn b2 c2 d2 f2 hP
    obtain ⟨H, hH⟩ : ∃ H, H = aw_sI (tuned (hPart h (v 66) x1 x2 x3 x4) (3 + 4 * v 66) (vPart v x1 x2 x3 x4) (v 66)) 1 1 (o3 (v 66 + 1)) := ⟨_, rfl⟩
    rw [← hH] at ha
    have hs : Same (fun q => q = 1 ∨ q = 72 ∨ (3 + 4 * v 66 ≤ q ∧ q < 3 + 4 * v 66 + 4)) h H := by
      rw [hH]
      exact ((hPart_same (by omega) (by omega)).trans (tuned_same (by omega))).trans (Same.sI (by omega))
    have hs2 : Same (fun q => q = 1 ∨ (3 + 4 * v 66 ≤ q ∧ q < 3 + 4 * v 66 + 4)) h H := by
      rw [hH]
      exact ((hPart_same (by omega) (by omega)).trans (tuned_same (by omega))).trans (Same.sI (by omega))
    have mdH : Mod H v := md.fr hs2 (by omega)
    have e72 : H.1 72 66 = o3 (v 66) := mdH 66 (by omega)
    refine ⟨o3 (v 66), H, aw_sI (aw_sI (aw_sI (aw_sI (aw_sI (aw_sI H 72 66 (o3 (v 66 + 1))) 72 (11 * v 66 + 0) (o3 x1)) 72 (11 * v 66 + 1) (o3 x2)) 72 (11 * v 66 + 2) (o3 x3)) 72 (11 * v 66 + 3) (o3 x4)) 72 (11 * v 66 + 4) (o3 0), by simp only [FX5_part, b3, c3, d3, f3, Option.bind_some, one_ne, if_false, ha], ?_, ?_⟩
    · have e6 : ¬ o3 (v 66) = 6 := by rw [n6, o3_eq (by omega) (by omega)]; omega
      simp only [FX6_part, b4, c4, d4, f4, e72, e6, if_false, lays60 hP, lays61 hP, lays62 hP, lays63 hP, lays64 hP, Option.bind_some]
      rw [n1, o3_add]
      rfl
    · refine k.works (v' := vPart v x1 x2 x3 x4) ((hs.trans ((((((Same.sI (Or.inr (Or.inl rfl))).trans (Same.sI (Or.inr (Or.inl rfl)))).trans (Same.sI (Or.inr (Or.inl rfl)))).trans (Same.sI (Or.inr (Or.inl rfl)))).trans (Same.sI (Or.inr (Or.inl rfl)))).trans (Same.sI (Or.inr (Or.inl rfl))))).mono (fun q hq => by unfold WrkS; omega)) (vPart_ok ok hP b2 c2 d2 f2) ?_ ?_
      · have hd : Same (fun q => q = 72) H (aw_sI (aw_sI (aw_sI (aw_sI (aw_sI (aw_sI H 72 66 (o3 (v 66 + 1))) 72 (11 * v 66 + 0) (o3 x1)) 72 (11 * v 66 + 1) (o3 x2)) 72 (11 * v 66 + 2) (o3 x3)) 72 (11 * v 66 + 3) (o3 x4)) 72 (11 * v 66 + 4) (o3 0)) := (((((Same.sI (S := fun q => q = 72) rfl).trans (Same.sI (S := fun q => q = 72) rfl)).trans (Same.sI (S := fun q => q = 72) rfl)).trans (Same.sI (S := fun q => q = 72) rfl)).trans (Same.sI (S := fun q => q = 72) rfl)).trans (Same.sI (S := fun q => q = 72) rfl)
        have hw : Wks H 1 3 (vPart v x1 x2 x3 x4) := by
          have hH1 : H.1 1 1 = o3 (v 66 + 1) := by rw [hH, sI_eq]
          have hH2 : H.1 1 2 = o3 (v 67) := by
            rw [hH, sI_nk (by omega), tuned_1]
            unfold hPart
            simp (disch := omega) only [sI_ne]
            exact w.2.1
          have hH3 : H.1 1 3 = o3 (v 68) := by
            rw [hH, sI_nk (by omega), tuned_1]
            unfold hPart
            simp (disch := omega) only [sI_ne]
            exact w.2.2.1
          have q66 : vPart v x1 x2 x3 x4 66 = v 66 + 1 := by
            unfold vPart
            simp (disch := omega) only [upv_ne, upv_eq]
          refine w.set hP ok hs (by rw [q66]; exact hH1) ?_ ?_ ?_ ?_ ?_ ?_ ?_
          · rw [hH2]; unfold vPart; simp (disch := omega) only [upv_ne]
          · rw [hH3]; unfold vPart; simp (disch := omega) only [upv_ne]
          · unfold vPart; simp (disch := omega) only [upv_ne]
          · intro j hj hne i hi
            unfold vPart; simp (disch := omega) only [upv_ne]
          · rw [hH]
            exact (show Whl (tuned (hPart h (v 66) x1 x2 x3 x4) (3 + 4 * v 66) (vPart v x1 x2 x3 x4) (v 66)) (3 + 4 * v 66) (vPart v x1 x2 x3 x4) (v 66) from vPart_whl w hP).fr (Same.sI (S := fun q => q = 1) rfl) (fun i hi => by omega)
          · intro _
            rw [hH]
            exact tuned_spd.fr (Same.sI (S := fun q => q = 1) rfl) (by omega)
          · intro j hj hne
            rw [q66] at hj; omega
        exact hw.fr hd (by omega) (fun q q1 q2 => by omega)
      · exact (((((mdH.upv _ _).upv _ _).upv _ _).upv _ _).upv _ _).upv _ _
  · have h6 : v 66 = 6 := by omega
    refine ⟨-4, h, h, ?_, ?_, k⟩
    · have : FX4_addWheel n a1 a2 a3 a4 h = some (-4, h) := by
        unfold FX4_addWheel
        rw [if_neg (show ¬ h.1 1 1 < 6 by rw [w.1, h6]; decide)]
      simp only [FX5_part, b3, c3, d3, f3, Option.bind_some, one_ne, if_false, this]
    · have e6 : h.1 72 66 = 6 := by rw [md 66 (by omega), h6]; rfl
      simp only [FX6_part, b4, c4, d4, f4, e6, if_false, if_true]

/-! the calls that change the works, each side by itself -/
def WcS (q : Nat) : Prop := q = 1 ∨ (3 ≤ q ∧ q < 27)
def Par (v : St) (f5 f6 : aw_H → Option (Int32 × aw_H)) : Prop := ∃ (x : Int32) (v' : St), Ok v' ∧ (∀ h, Wks h 1 3 v → ∃ h1, f5 h = some (x, h1) ∧ Wks h1 1 3 v' ∧ Same WcS h h1) ∧ (∀ h, Mod h v → ∃ h2, f6 h = some (x, h2) ∧ Mod h2 v' ∧ Same (fun q => q = 72) h h2)
theorem part_gv {P : Nat} (a : Int32) (hP : P ≤ 6) : ((∀ h : aw_H, h.1 1 1 = o3 P → FX4_wheelOf a h = some none) ∧ (∀ h : aw_H, h.1 72 66 = o3 P → FX6_isPart a h = 0)) ∨ (∃ p : Nat, a = o3 p ∧ p < P ∧ (∀ h : aw_H, h.1 1 1 = o3 P → FX4_wheelOf a h = some (some (3 + 4 * p))) ∧ (∀ h : aw_H, h.1 72 66 = o3 P → ¬ FX6_isPart a h = 0)) := by
  by_cases hc : ∃ p, a = o3 p ∧ p < P
  · obtain ⟨p, rfl, hp⟩ := hc
    refine Or.inr ⟨p, rfl, hp, fun h e => ?_, fun h e => isPart6 e hP hp⟩
    rcases part_g (h := h) (h' := aw_sI h 72 66 (o3 P)) (o3 p) e sI_eq hP with ⟨-, f2⟩ | ⟨q, q1, q2, q3, -⟩
    · exact absurd f2 (isPart6 sI_eq hP hp)
    · have := (o3_eq (by omega) (by omega)).mp q1
      subst this
      exact q3
  · refine Or.inl ⟨fun h e => ?_, fun h e => ?_⟩
    · rcases part_g (h := h) (h' := aw_sI h 72 66 (o3 P)) a e sI_eq hP with ⟨f1, -⟩ | ⟨q, q1, q2, -, -⟩
      · exact f1
      · exact absurd ⟨q, q1, q2⟩ hc
    · rcases part_g (h := aw_sI h 1 1 (o3 P)) (h' := h) a sI_eq e hP with ⟨-, f2⟩ | ⟨q, q1, q2, -, -⟩
      · exact f2
      · exact absurd ⟨q, q1, q2⟩ hc
theorem Wks.whl {h h1 : aw_H} {v v' : St} {p : Nat} (w : Wks h 1 3 v) (ok : Ok v) (hp : p < 6) (e66 : v' 66 = v 66) (e67 : v' 67 = v 67) (e68 : v' 68 = v 68) (agr : ∀ j, j < 6 → j ≠ p → ∀ i, i < 11 → v' (11 * j + i) = v (11 * j + i)) (hs1 : Same (fun q => 3 + 4 * p ≤ q ∧ q < 3 + 4 * p + 4) h h1) (hw : Whl h1 (3 + 4 * p) v' p) (hsp : p < v 66 → Spd h1 (3 + 4 * p) v' p) : Wks h1 1 3 v' := by
  have c1 : h1.1 1 = h.1 1 := (hs1 1 (by omega)).1
  exact w.set hp ok (hs1.mono (fun q hq => Or.inr (Or.inr hq))) (by rw [c1, e66]; exact w.1) (by rw [c1, e67]; exact w.2.1) (by rw [c1, e68]; exact w.2.2.1) e67 agr hw (fun hv => hsp (by omega)) (fun j hj _ => by omega)
theorem Ok.whl {v v' : St} {p : Nat} (ok : Ok v) (e66 : v' 66 = v 66) (e67 : v' 67 = v 67) (e68 : v' 68 = v 68) (agr : ∀ j, j < 6 → j ≠ p → ∀ i, i < 11 → v' (11 * j + i) = v (11 * j + i)) (okp : OkP v' p) : Ok v' := by
  refine ⟨by rw [e66]; exact ok.1, by rw [e67]; exact ok.2.1, by rw [e68]; exact ok.2.2.1, fun j hj => ?_⟩
  by_cases e : j = p
  · rw [e]; exact okp
  · exact (ok.2.2.2 j hj).congr (agr j hj e)
theorem wc_mono {p : Nat} (hp : p < 6) {h h' : aw_H} (hs : Same (fun q => 3 + 4 * p ≤ q ∧ q < 3 + 4 * p + 4) h h') : Same WcS h h' := hs.mono (fun q hq => by unfold WcS; omega)
theorem p_part {n : Nat} {v : St} (ok : Ok v) (hn : 300 ≤ n) (a1 a2 a3 a4 : Int32) : Par v (FX5_part n a1 a2 a3 a4) (FX6_part a1 a2 a3 a4) := by
  have h66 := ok.1
  have t1 : (FX5_allows 0 a1 = some 0 ∧ FX6_mayBe 0 a1 = 0) ∨ (∃ x : Nat, a1 = o3 x ∧ x ≤ 5 ∧ FX5_allows 0 a1 = some 1 ∧ ¬ FX6_mayBe 0 a1 = 0) := trait_g 0 (by omega) a1
  have t2 : (FX5_allows 1 a2 = some 0 ∧ FX6_mayBe 1 a2 = 0) ∨ (∃ x : Nat, a2 = o3 x ∧ x ≤ 9 ∧ FX5_allows 1 a2 = some 1 ∧ ¬ FX6_mayBe 1 a2 = 0) := trait_g 1 (by omega) a2
  have t3 : (FX5_allows 2 a3 = some 0 ∧ FX6_mayBe 2 a3 = 0) ∨ (∃ x : Nat, a3 = o3 x ∧ x ≤ 999 ∧ FX5_allows 2 a3 = some 1 ∧ ¬ FX6_mayBe 2 a3 = 0) := trait_g 2 (by omega) a3
  have t4 : (FX5_allows 3 a4 = some 0 ∧ FX6_mayBe 3 a4 = 0) ∨ (∃ x : Nat, a4 = o3 x ∧ x ≤ 1023 ∧ FX5_allows 3 a4 = some 1 ∧ ¬ FX6_mayBe 3 a4 = 0) := trait_g 3 (by omega) a4
  rcases t1 with ⟨f1, f2⟩ | ⟨x1, b1, b2, b3, b4⟩
  · exact ⟨-2, v, ok, fun h w => ⟨h, by simp only [FX5_part, f1, Option.bind_some, if_true], w, Same.rfl⟩, fun h md => ⟨h, by simp only [FX6_part, f2, if_true], md, Same.rfl⟩⟩
  rcases t2 with ⟨f1, f2⟩ | ⟨x2, c1, c2, c3, c4⟩
  · exact ⟨-2, v, ok, fun h w => ⟨h, by simp only [FX5_part, b3, f1, Option.bind_some, if_true, one_ne, if_false], w, Same.rfl⟩, fun h md => ⟨h, by simp only [FX6_part, b4, f2, if_true, if_false], md, Same.rfl⟩⟩
  rcases t3 with ⟨f1, f2⟩ | ⟨x3, d1, d2, d3, d4⟩
  · exact ⟨-2, v, ok, fun h w => ⟨h, by simp only [FX5_part, b3, c3, f1, Option.bind_some, if_true, one_ne, if_false], w, Same.rfl⟩, fun h md => ⟨h, by simp only [FX6_part, b4, c4, f2, if_true, if_false], md, Same.rfl⟩⟩
  rcases t4 with ⟨f1, f2⟩ | ⟨x4, f1, f2, f3, f4⟩
  · exact ⟨-2, v, ok, fun h w => ⟨h, by simp only [FX5_part, b3, c3, d3, f1, Option.bind_some, if_true, one_ne, if_false], w, Same.rfl⟩, fun h md => ⟨h, by simp only [FX6_part, b4, c4, d4, f2, if_true, if_false], md, Same.rfl⟩⟩
  by_cases hP : v 66 < 6
  · subst b1 c1 d1 f1
    have q66 : vPart v x1 x2 x3 x4 66 = v 66 + 1 := by
      unfold vPart
      simp (disch := omega) only [upv_ne, upv_eq]
    refine ⟨o3 (v 66), vPart v x1 x2 x3 x4, vPart_ok ok hP b2 c2 d2 f2, fun h w => ?_, fun H mdH => ?_⟩
    · have ha := addWheel5 (n := n) w ok hn b2 c2 d2 f2 hP
      obtain ⟨H, hH⟩ : ∃ H, H = aw_sI (tuned (hPart h (v 66) x1 x2 x3 x4) (3 + 4 * v 66) (vPart v x1 x2 x3 x4) (v 66)) 1 1 (o3 (v 66 + 1)) := ⟨_, rfl⟩
      rw [← hH] at ha
      have hs2 : Same (fun q => q = 1 ∨ (3 + 4 * v 66 ≤ q ∧ q < 3 + 4 * v 66 + 4)) h H := by
        rw [hH]
        exact ((hPart_same (by omega) (by omega)).trans (tuned_same (by omega))).trans (Same.sI (by omega))
      refine ⟨H, by simp only [FX5_part, b3, c3, d3, f3, Option.bind_some, one_ne, if_false, ha], ?_, hs2.mono (fun q hq => by unfold WcS; omega)⟩
      have hH1 : H.1 1 1 = o3 (v 66 + 1) := by rw [hH, sI_eq]
      have hH2 : H.1 1 2 = o3 (v 67) := by
        rw [hH, sI_nk (by omega), tuned_1]
        unfold hPart
        simp (disch := omega) only [sI_ne]
        exact w.2.1
      have hH3 : H.1 1 3 = o3 (v 68) := by
        rw [hH, sI_nk (by omega), tuned_1]
        unfold hPart
        simp (disch := omega) only [sI_ne]
        exact w.2.2.1
      refine w.set hP ok (hs2.mono (fun q hq => by omega)) (by rw [q66]; exact hH1) ?_ ?_ ?_ ?_ ?_ ?_ ?_
      · rw [hH2]; unfold vPart; simp (disch := omega) only [upv_ne]
      · rw [hH3]; unfold vPart; simp (disch := omega) only [upv_ne]
      · unfold vPart; simp (disch := omega) only [upv_ne]
      · intro j hj hne i hi
        unfold vPart; simp (disch := omega) only [upv_ne]
      · rw [hH]
        exact (show Whl (tuned (hPart h (v 66) x1 x2 x3 x4) (3 + 4 * v 66) (vPart v x1 x2 x3 x4) (v 66)) (3 + 4 * v 66) (vPart v x1 x2 x3 x4) (v 66) from vPart_whl w hP).fr (Same.sI (S := fun q => q = 1) rfl) (fun i hi => by omega)
      · intro _
        rw [hH]
        exact tuned_spd.fr (Same.sI (S := fun q => q = 1) rfl) (by omega)
      · intro j hj hne
        rw [q66] at hj; omega
    · have e72 : H.1 72 66 = o3 (v 66) := mdH 66 (by omega)
      refine ⟨aw_sI (aw_sI (aw_sI (aw_sI (aw_sI (aw_sI H 72 66 (o3 (v 66 + 1))) 72 (11 * v 66 + 0) (o3 x1)) 72 (11 * v 66 + 1) (o3 x2)) 72 (11 * v 66 + 2) (o3 x3)) 72 (11 * v 66 + 3) (o3 x4)) 72 (11 * v 66 + 4) (o3 0), ?_, (((((mdH.upv _ _).upv _ _).upv _ _).upv _ _).upv _ _).upv _ _, (((((Same.sI (S := fun q => q = 72) rfl).trans (Same.sI (S := fun q => q = 72) rfl)).trans (Same.sI (S := fun q => q = 72) rfl)).trans (Same.sI (S := fun q => q = 72) rfl)).trans (Same.sI (S := fun q => q = 72) rfl)).trans (Same.sI (S := fun q => q = 72) rfl)⟩
      have e6 : ¬ o3 (v 66) = 6 := by rw [n6, o3_eq (by omega) (by omega)]; omega
      simp only [FX6_part, b4, c4, d4, f4, e72, e6, if_false, lays60 hP, lays61 hP, lays62 hP, lays63 hP, lays64 hP, Option.bind_some]
      rw [n1, o3_add]
      rfl
  · have h6 : v 66 = 6 := by omega
    refine ⟨-4, v, ok, fun h w => ⟨h, ?_, w, Same.rfl⟩, fun h md => ⟨h, ?_, md, Same.rfl⟩⟩
    · have : FX4_addWheel n a1 a2 a3 a4 h = some (-4, h) := by
        unfold FX4_addWheel
        rw [if_neg (show ¬ h.1 1 1 < 6 by rw [w.1, h6]; decide)]
      simp only [FX5_part, b3, c3, d3, f3, Option.bind_some, one_ne, if_false, this]
    · have e6 : h.1 72 66 = 6 := by rw [md 66 (by omega), h6]; rfl
      simp only [FX6_part, b4, c4, d4, f4, e6, if_false, if_true]
theorem p_gear {n : Nat} {v : St} (ok : Ok v) (hn : 300 ≤ n) (a1 a2 a3 : Int32) : Par v (FX5_gear n a1 a2 a3) (FX6_gear a1 a2 a3) := by
  rcases part_gv a1 ok.1 with ⟨f1, f2⟩ | ⟨p, b1, b2, b3, b4⟩
  · exact ⟨-2, v, ok, fun h w => ⟨h, by simp only [FX5_gear, f1 h w.1, Option.bind_some, aw_on_none], w, Same.rfl⟩, fun h md => ⟨h, by simp only [FX6_gear, f2 h (md 66 (by omega)), if_true], md, Same.rfl⟩⟩
  have hp : p < 6 := by have := ok.1; omega
  rcases rng a2 8 200 8 200 8 200 rfl rfl rfl rfl (by omega) (by omega) with ⟨f1, f2, -⟩ | ⟨x, c1, c2, c3, c4, c5⟩
  · exact ⟨-2, v, ok, fun h w => ⟨h, by simp only [FX5_gear, FX5_isTeeth, b3 h w.1, f1, Option.bind_some, aw_on_some, isW_of hp, if_true], w, Same.rfl⟩, fun h md => ⟨h, by simp only [FX6_gear, b4 h (md 66 (by omega)), f2, if_true, if_false], md, Same.rfl⟩⟩
  rcases rng a3 8 200 8 200 8 200 rfl rfl rfl rfl (by omega) (by omega) with ⟨f1, f2, -⟩ | ⟨y, d1, d2, d3, d4, d5⟩
  · exact ⟨-2, v, ok, fun h w => ⟨h, by simp only [FX5_gear, FX5_isTeeth, b3 h w.1, c4, f1, Option.bind_some, aw_on_some, isW_of hp, if_true, if_false], w, Same.rfl⟩, fun h md => ⟨h, by simp only [FX6_gear, b4 h (md 66 (by omega)), c5, f2, if_true, if_false], md, Same.rfl⟩⟩
  subst b1 c1 d1
  have okp := ok.2.2.2 p hp
  have o4 := okp.2.2.2.2.1
  obtain ⟨z, hz⟩ : ∃ z, v (11 * p + 4) = z := ⟨_, rfl⟩
  have ez : ∀ h, Wks h 1 3 v → h.1 (3 + 4 * p) 3 = o3 z := fun h w => by rw [← hz]; exact (w.2.2.2 p hp).1.2.1
  have a4 : ∀ h, Mod h v → FX6_at (o3 p) 4 h = some (o3 z) := fun h md => by rw [← hz]; exact at6 (k := 4) md hp (by omega)
  by_cases hz3 : z < 3
  · have e67 : vGear v p z x y 67 = v 67 := by unfold vGear; rw [upv_ne (by omega), upv_ne (by omega), upv_ne (by omega)]
    have e66 : vGear v p z x y 66 = v 66 := by unfold vGear; rw [upv_ne (by omega), upv_ne (by omega), upv_ne (by omega)]
    have e68 : vGear v p z x y 68 = v 68 := by unfold vGear; rw [upv_ne (by omega), upv_ne (by omega), upv_ne (by omega)]
    have agr : ∀ j, j < 6 → j ≠ p → ∀ i, i < 11 → vGear v p z x y (11 * j + i) = v (11 * j + i) := fun j hj hne i hi => by
      unfold vGear; rw [upv_ne (by omega), upv_ne (by omega), upv_ne (by omega)]
    have okv := vGear_ok (a := x) (b := y) okp hz hz3 ⟨c2, c3⟩ ⟨d2, d3⟩
    refine ⟨o3 (z + 1), vGear v p z x y, ok.whl e66 e67 e68 agr okv, fun h w => ?_, fun h md => ?_⟩
    · obtain ⟨wh, -⟩ := w.2.2.2 p hp
      have hs1 : Same (fun q => 3 + 4 * p ≤ q ∧ q < 3 + 4 * p + 4) h (hGear h (3 + 4 * p) z x y) := ((Same.sI (by omega)).trans (Same.sI (by omega))).trans (Same.sI (by omega))
      have e12 : (hGear h (3 + 4 * p) z x y).1 1 2 = o3 (vGear v p z x y 67) := by
        rw [(hs1 1 (by omega)).1, e67]; exact w.2.1
      have ht := tune5 (n := n) (vGear_whl (a := x) (b := y) wh hz3) okv (by rw [e67]; exact ok.2.1.2) hn
      have hs1t : Same (fun q => 3 + 4 * p ≤ q ∧ q < 3 + 4 * p + 4) h (tuned (hGear h (3 + 4 * p) z x y) (3 + 4 * p) (vGear v p z x y) p) := hs1.trans (tuned_same (by omega))
      refine ⟨tuned (hGear h (3 + 4 * p) z x y) (3 + 4 * p) (vGear v p z x y) p, ?_, w.whl ok hp e66 e67 e68 agr hs1t (vGear_whl (a := x) (b := y) wh hz3) (fun _ => tuned_spd), wc_mono hp hs1t⟩
      simp only [FX5_gear, FX5_isTeeth, b3 h w.1, c4, d4, Option.bind_some, aw_on_some, isW_of hp, if_true, if_false, addPair5 (ez h w) hz3, e12, ht]
    · refine ⟨aw_sI (aw_sI (aw_sI h 72 (11 * p + (5 + z)) (o3 x)) 72 (11 * p + (8 + z)) (o3 y)) 72 (11 * p + 4) (o3 (z + 1)), ?_, ((md.upv _ _).upv _ _).upv _ _, ((Same.sI (S := fun q => q = 72) rfl).trans (Same.sI (S := fun q => q = 72) rfl)).trans (Same.sI (S := fun q => q = 72) rfl)⟩
      have e3 : ¬ o3 z = 3 := by rw [n3, o3_eq (by omega) (by omega)]; omega
      simp only [FX6_gear, b4 h (md 66 (by omega)), c5, d5, if_false, a4 h md, Option.bind_some, e3, lays64 hp]
      rw [n5, n8, n1, o3_add, o3_add, o3_add, lays6 hp (by omega)]
      simp only [Option.bind_some]
      rw [lays6 hp (by omega)]
      simp only [Option.bind_some]
  · have h3 : z = 3 := by omega
    refine ⟨-4, v, ok, fun h w => ?_, fun h md => ?_⟩
    · obtain ⟨wh, -⟩ := w.2.2.2 p hp
      have hf : FX3_addPair (3 + 4 * p) (o3 x) (o3 y) h = some (-4, h) := by
        unfold FX3_addPair
        rw [if_neg (by rw [ez h w, h3]; decide)]
      have ht := tune5 (n := n) wh okp ok.2.1.2 hn
      have hs1t : Same (fun q => 3 + 4 * p ≤ q ∧ q < 3 + 4 * p + 4) h (tuned h (3 + 4 * p) v p) := tuned_same (by omega)
      refine ⟨tuned h (3 + 4 * p) v p, ?_, w.whl ok hp rfl rfl rfl (fun _ _ _ _ _ => rfl) hs1t wh (fun _ => tuned_spd), wc_mono hp hs1t⟩
      simp only [FX5_gear, FX5_isTeeth, b3 h w.1, c4, d4, Option.bind_some, aw_on_some, isW_of hp, if_true, if_false, hf, w.2.1, ht]
    · have e3 : o3 z = 3 := by rw [h3]; rfl
      exact ⟨h, by simp only [FX6_gear, b4 h (md 66 (by omega)), c5, d5, if_false, a4 h md, Option.bind_some, e3, if_true], md, Same.rfl⟩
theorem p_change {v : St} (ok : Ok v) (t : Nat) (ht : t < 4) (a1 a3 : Int32) : Par v (FX5_change a1 (o3 t) a3) (FX6_becomes a1 (o3 t) a3) := by
  rcases part_gv a1 ok.1 with ⟨f1, f2⟩ | ⟨p, b1, b2, b3, b4⟩
  · exact ⟨-2, v, ok, fun h w => ⟨h, by simp only [FX5_change, f1 h w.1, Option.bind_some, aw_on_none], w, Same.rfl⟩, fun h md => ⟨h, by simp only [FX6_becomes, f2 h (md 66 (by omega)), if_true], md, Same.rfl⟩⟩
  have hp : p < 6 := by have := ok.1; omega
  rcases trait_g t ht a3 with ⟨f1, f2⟩ | ⟨x, c1, c2, c3, c4⟩
  · exact ⟨-2, v, ok, fun h w => ⟨h, by simp only [FX5_change, b3 h w.1, f1, Option.bind_some, aw_on_some, isW_of hp, if_true], w, Same.rfl⟩, fun h md => ⟨h, by simp only [FX6_becomes, b4 h (md 66 (by omega)), f2, if_true, if_false], md, Same.rfl⟩⟩
  subst b1 c1
  have okp := ok.2.2.2 p hp
  have mx := most_lt t ht
  obtain ⟨v', hv'⟩ : ∃ v', v' = upv v (11 * p + t) x := ⟨_, rfl⟩
  have ib : aw_inb (o3 t) 4 = true := (o3_inb (by omega)).mpr ht
  have e66 : v' 66 = v 66 := by rw [hv', upv_ne (by omega)]
  have e67 : v' 67 = v 67 := by rw [hv', upv_ne (by omega)]
  have e68 : v' 68 = v 68 := by rw [hv', upv_ne (by omega)]
  have agr : ∀ j, j < 6 → j ≠ p → ∀ i, i < 11 → v' (11 * j + i) = v (11 * j + i) := fun j hj hne i hi => by rw [hv', upv_ne (by omega)]
  have okv : OkP v' p := by
    obtain ⟨k0, k1, k2, k3, k4, k5⟩ := okp
    rw [hv']
    rcases (show t = 0 ∨ t = 1 ∨ t = 2 ∨ t = 3 by omega) with rfl | rfl | rfl | rfl
    · refine ⟨by rw [Nat.add_zero, upv_eq]; exact c2, by rw [upv_ne (by omega)]; exact k1, by rw [upv_ne (by omega)]; exact k2, by rw [upv_ne (by omega)]; exact k3, by rw [upv_ne (by omega)]; exact k4, fun i hi => ?_⟩
      rw [upv_ne (by omega)] at hi
      rw [upv_ne (by omega), upv_ne (by omega)]; exact k5 i hi
    · refine ⟨by rw [upv_ne (by omega)]; exact k0, by rw [upv_eq]; exact c2, by rw [upv_ne (by omega)]; exact k2, by rw [upv_ne (by omega)]; exact k3, by rw [upv_ne (by omega)]; exact k4, fun i hi => ?_⟩
      rw [upv_ne (by omega)] at hi
      rw [upv_ne (by omega), upv_ne (by omega)]; exact k5 i hi
    · refine ⟨by rw [upv_ne (by omega)]; exact k0, by rw [upv_ne (by omega)]; exact k1, by rw [upv_eq]; exact c2, by rw [upv_ne (by omega)]; exact k3, by rw [upv_ne (by omega)]; exact k4, fun i hi => ?_⟩
      rw [upv_ne (by omega)] at hi
      rw [upv_ne (by omega), upv_ne (by omega)]; exact k5 i hi
    · refine ⟨by rw [upv_ne (by omega)]; exact k0, by rw [upv_ne (by omega)]; exact k1, by rw [upv_ne (by omega)]; exact k2, by rw [upv_eq]; exact c2, by rw [upv_ne (by omega)]; exact k4, fun i hi => ?_⟩
      rw [upv_ne (by omega)] at hi
      rw [upv_ne (by omega), upv_ne (by omega)]; exact k5 i hi
  refine ⟨o3 (v (11 * p + t)), v', ok.whl e66 e67 e68 agr okv, fun h w => ?_, fun h md => ?_⟩
  · obtain ⟨wh, wsp⟩ := w.2.2.2 p hp
    have hs1 : Same (fun q => 3 + 4 * p ≤ q ∧ q < 3 + 4 * p + 4) h (aw_sI h (3 + 4 * p + 1) t (o3 x)) := Same.sI (by omega)
    have whl : Whl (aw_sI h (3 + 4 * p + 1) t (o3 x)) (3 + 4 * p) v' p := by
      obtain ⟨k1, k2, k3⟩ := wh
      rw [hv']
      refine ⟨fun i hi => ?_, ?_, fun i hi => ?_⟩
      · by_cases e : i = t
        · subst e
          rw [sI_eq, upv_eq]
        · rw [sI_nk e, upv_ne (by omega)]; exact k1 i hi
      · rw [sI_ne (by omega), upv_ne (by omega)]; exact k2
      · rw [sI_ne (by omega), sI_ne (by omega), upv_ne (by omega), upv_ne (by omega)]; exact k3 i hi
    have spd : p < v 66 → Spd (aw_sI h (3 + 4 * p + 1) t (o3 x)) (3 + 4 * p) v' p := fun hv => ((wsp hv).fr (Same.sI (S := fun q => q = 3 + 4 * p + 1) rfl) (by omega)).congr okp.2.2.2.2.1 e67 (fun i h1 h2 => by rw [hv', upv_ne (by omega)])
    refine ⟨aw_sI h (3 + 4 * p + 1) t (o3 x), ?_, w.whl ok hp e66 e67 e68 agr hs1 whl spd, wc_mono hp hs1⟩
    simp only [FX5_change, b3 h w.1, c3, Option.bind_some, aw_on_some, isW_of hp, if_true, one_ne, if_false, ib, o3_clamp (show t < 2147483648 by omega), wh.1 t ht]
  · refine ⟨aw_sI h 72 (11 * p + t) (o3 x), ?_, by rw [hv']; exact md.upv _ _, Same.sI (S := fun q => q = 72) rfl⟩
    simp only [FX6_becomes, b4 h (md 66 (by omega)), c4, if_false, at6 md hp (show t < 11 by omega), Option.bind_some, lays6 hp (show t < 11 by omega)]
theorem p_shaft {n : Nat} {v : St} (ok : Ok v) (hn : 300 ≤ n) (a1 : Int32) : Par v (FX5_shaft n a1) (FX6_shaft a1) := by
  rcases rng a1 1 999 1 999 1 999 rfl rfl rfl rfl (by omega) (by omega) with ⟨f1, f2, -⟩ | ⟨x, c1, c2, c3, c4, c5⟩
  · exact ⟨-2, v, ok, fun h w => ⟨h, by simp only [FX5_shaft, f1, if_true], w, Same.rfl⟩, fun h md => ⟨h, by simp only [FX6_shaft, f2, if_true], md, Same.rfl⟩⟩
  subst c1
  obtain ⟨v', hv'⟩ : ∃ v', v' = upv v 67 x := ⟨_, rfl⟩
  have e67 : v' 67 = x := by rw [hv', upv_eq]
  have e66 : v' 66 = v 66 := by rw [hv', upv_ne (by omega)]
  have e68 : v' 68 = v 68 := by rw [hv', upv_ne (by omega)]
  have ok' : Ok v' := ⟨by rw [e66]; exact ok.1, by rw [e67]; exact ⟨c2, c3⟩, by rw [e68]; exact ok.2.2.1, fun j hj => (ok.2.2.2 j hj).congr fun i hi => by rw [hv', upv_ne (by omega)]⟩
  refine ⟨o3 (v 67), v', ok', fun h w => ?_, fun h md => ?_⟩
  · obtain ⟨w1, w2, w3, w4⟩ := w
    have hs0 : Same (fun q => q = 1) h (aw_sI h 1 2 (o3 x)) := Same.sI rfl
    obtain ⟨H, g1, g2, g3, g4⟩ := goAt5 (n := n) (h := aw_sI h 1 2 (o3 x)) ok' (by rw [sI_nk (by omega), e66]; exact w1) (fun j hj => ((w4 j hj).1.fr hs0 (fun i hi => by omega)).congr fun i hi => by rw [hv', upv_ne (by omega)]) hn
    rw [e67] at g1
    refine ⟨H, ?_, ⟨by rw [g2, sI_nk (by omega), e66]; exact w1, by rw [g2, sI_eq, e67], by rw [g2, sI_nk (by omega), e68]; exact w3, fun j hj => ⟨?_, fun hj2 => g4 j hj2⟩⟩, (hs0.mono (fun q hq => Or.inl hq)).trans (g3.mono (fun q hq => Or.inr hq))⟩
    · unfold FX5_shaft FX4_goAt
      rw [if_neg c4, n0, g1, w2]; rfl
    · unfold Whl
      rw [g2]
      exact ((w4 j hj).1.fr hs0 (fun i hi => by omega)).congr fun i hi => by rw [hv', upv_ne (by omega)]
  · refine ⟨aw_sI h 72 67 (o3 x), ?_, by rw [hv']; exact md.upv _ _, Same.sI (S := fun q => q = 72) rfl⟩
    unfold FX6_shaft
    rw [if_neg c5, md 67 (by omega)]

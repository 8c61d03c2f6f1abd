/-! gear, ungear -/
theorem aw_on_some {τ : Type} {c : Nat} {A : τ} {B : Nat → τ} : aw_on (some c) A B = B c := rfl
theorem aw_on_none {τ : Type} {A : τ} {B : Nat → τ} : aw_on none A B = A := rfl
theorem wk_same_mono {p : Nat} (hp : p < 6) {h h' : aw_H} (hs : Same (fun q => q = 1 ∨ q = 72 ∨ (3 + 4 * p ≤ q ∧ q < 3 + 4 * p + 4)) h h') : Same WrkS h h' := hs.mono (fun q hq => by unfold WrkS; omega)
/-- a wheel's own numbers changed, in both -/
theorem Rel.wheel {h h1 h2 : aw_H} {v v' : St} {p : Nat} (k : Rel h) (ok : Ok v) (w : Wks h 1 3 v) (md : Mod h v) (hp : p < 6) (e66 : v' 66 = v 66) (e67 : v' 67 = v 67) (e68 : v' 68 = v 68) (agr : ∀ j, j < 6 → j ≠ p → ∀ i, i < 11 → v' (11 * j + i) = v (11 * j + i)) (okp : OkP v' p) (hs1 : Same (fun q => 3 + 4 * p ≤ q ∧ q < 3 + 4 * p + 4) h h1) (hs2 : Same (fun q => q = 72) h1 h2) (hw : Whl h1 (3 + 4 * p) v' p) (hsp : p < v 66 → Spd h1 (3 + 4 * p) v' p) (hm : Mod h1 v → Mod h2 v') : Rel h2 := by
  have hs : Same (fun q => q = 1 ∨ q = 72 ∨ (3 + 4 * p ≤ q ∧ q < 3 + 4 * p + 4)) h h2 := (hs1.mono (fun q hq => Or.inr (Or.inr hq))).trans (hs2.mono (fun q hq => Or.inr (Or.inl hq)))
  refine k.works (wk_same_mono hp hs) v' ⟨by rw [e66]; exact ok.1, by rw [e67]; exact ok.2.1, by rw [e68]; exact ok.2.2.1, fun j hj => ?_⟩ ?_ (hm (md.fr hs1 (by omega)))
  · by_cases e : j = p
    · rw [e]; exact okp
    · exact (ok.2.2.2 j hj).congr (agr j hj e)
  · have c1 : h2.1 1 = h.1 1 := by rw [(hs2 1 (by omega)).1, (hs1 1 (by omega)).1]
    exact w.set hp ok hs (by rw [c1, e66]; exact w.1) (by rw [c1, e67]; exact w.2.1) (by rw [c1, e68]; exact w.2.2.1) e67 agr (hw.fr hs2 (fun i hi => by omega)) (fun hv => (hsp (by omega)).fr hs2 (by omega)) (fun j hj _ => by omega)
theorem isPart6 {h : aw_H} {P p : Nat} (e : h.1 72 66 = o3 P) (hP : P ≤ 6) (hp : p < P) : ¬ FX6_isPart (o3 p) h = 0 := by
  unfold FX6_isPart
  rw [e, isIn_iff, Int64.le_iff_toInt_le, Int64.le_iff_toInt_le, Int32.toInt_toInt64, Int32.toInt_toInt64, Int32.toInt_sub, o3_toInt (by omega), o3_toInt (by omega), show (1 : Int32).toInt = 1 from rfl, show (0 : Int64).toInt = 0 from rfl, b32 (by omega) (by omega)]
  omega
def hGear (h : aw_H) (w z a b : Nat) : aw_H := aw_sI (aw_sI (aw_sI h (w + 2) z (o3 a)) (w + 3) z (o3 b)) w 3 (o3 (z + 1))
def vGear (v : St) (p z a b : Nat) : St := upv (upv (upv v (11 * p + (5 + z)) a) (11 * p + (8 + z)) b) (11 * p + 4) (z + 1)
theorem addPair5 {h : aw_H} {w z a b : Nat} (e : h.1 w 3 = o3 z) (hz : z < 3) : FX3_addPair w (o3 a) (o3 b) h = some (o3 (z + 1), hGear h w z a b) := by
  have e1 : (aw_sI h (w + 2) z (o3 a)).1 w 3 = o3 z := by rw [sI_ne (by omega)]; exact e
  have e2 : (aw_sI (aw_sI h (w + 2) z (o3 a)) (w + 3) z (o3 b)).1 w 3 = o3 z := by rw [sI_ne (by omega)]; exact e1
  unfold FX3_addPair hGear
  rw [e, if_pos (show o3 z < 3 by rw [n3, o3_lt (by omega) (by omega)]; exact hz), if_pos ((o3_inb (by omega)).mpr hz), o3_clamp (by omega), e1, if_pos ((o3_inb (by omega)).mpr hz), o3_clamp (by omega), e2, n1, o3_add, sI_eq]
theorem vGear_ok {v : St} {p z a b : Nat} (ok : OkP v p) (hz : v (11 * p + 4) = z) (hz3 : z < 3) (ha : 8 ≤ a ∧ a ≤ 200) (hb : 8 ≤ b ∧ b ≤ 200) : OkP (vGear v p z a b) p := by
  obtain ⟨k0, k1, k2, k3, k4, k5⟩ := ok
  have e4 : vGear v p z a b (11 * p + 4) = z + 1 := upv_eq
  refine ⟨?_, ?_, ?_, ?_, by rw [e4]; omega, fun k hk => ?_⟩
  · unfold vGear; rw [upv_ne (by omega), upv_ne (by omega), upv_ne (by omega)]; exact k0
  · unfold vGear; rw [upv_ne (by omega), upv_ne (by omega), upv_ne (by omega)]; exact k1
  · unfold vGear; rw [upv_ne (by omega), upv_ne (by omega), upv_ne (by omega)]; exact k2
  · unfold vGear; rw [upv_ne (by omega), upv_ne (by omega), upv_ne (by omega)]; exact k3
  · rw [e4] at hk
    unfold vGear
    by_cases e : k = z
    · subst e
      rw [upv_ne (by omega), upv_ne (by omega), Nat.add_assoc, upv_eq, upv_ne (by omega), Nat.add_assoc, upv_eq]
      exact ⟨ha, hb⟩
    · rw [upv_ne (by omega), upv_ne (by omega), upv_ne (by omega), upv_ne (by omega), upv_ne (by omega), upv_ne (by omega)]
      exact k5 k (by omega)
theorem vGear_whl {h : aw_H} {v : St} {w p z a b : Nat} (k : Whl h w v p) (hz3 : z < 3) : Whl (hGear h w z a b) w (vGear v p z a b) p := by
  obtain ⟨k1, k2, k3⟩ := k
  unfold hGear vGear
  refine ⟨fun i hi => ?_, ?_, fun i hi => ?_⟩
  · have := k1 i hi
    simp (disch := omega) only [sI_ne, upv_ne]
    exact this
  · rw [sI_eq, upv_eq]
  · have := k3 i hi
    by_cases e : i = z
    · subst e
      simp (disch := omega) only [sI_ne, sI_eq, upv_ne, upv_eq, Nat.add_assoc, and_self]
    · simp (disch := omega) only [sI_ne, sI_nk, upv_ne]
      exact this
theorem c_gear {n : Nat} {h : aw_H} (k : Rel h) (hn : 300 ≤ n) (a1 a2 a3 : Int32) : Sim (FX5_gear n a1 a2 a3 h) (FX6_gear a1 a2 a3) := by
  obtain ⟨v, ok, w, md⟩ := k.1
  rcases part_g (h := h) (h' := h) a1 w.1 (md 66 (by omega)) ok.1 with ⟨f1, f2⟩ | ⟨p, b1, b2, b3, b4⟩
  · exact ⟨-2, h, h, by simp only [FX5_gear, f1, Option.bind_some, aw_on_none], by simp only [FX6_gear, f2, if_true], k⟩
  have hp : p < 6 := by have := ok.1; omega
  rcases rng a2 8 200 8 200 8 200 rfl rfl rfl rfl (by omega) (by omega) with ⟨f1, f2, -⟩ | ⟨x, c1, c2, c3, c4, c5⟩
  · exact ⟨-2, h, h, by simp only [FX5_gear, FX5_isTeeth, b3, f1, Option.bind_some, aw_on_some, isW_of hp, if_true], by simp only [FX6_gear, b4, f2, if_true, if_false], k⟩
  rcases rng a3 8 200 8 200 8 200 rfl rfl rfl rfl (by omega) (by omega) with ⟨f1, f2, -⟩ | ⟨y, d1, d2, d3, d4, d5⟩
  · exact ⟨-2, h, h, by simp only [FX5_gear, FX5_isTeeth, b3, c4, f1, Option.bind_some, aw_on_some, isW_of hp, if_true, if_false], by simp only [FX6_gear, b4, c5, f2, if_true, if_false], k⟩
  subst b1 c1 d1
  have okp := ok.2.2.2 p hp
  have o4 := okp.2.2.2.2.1
  obtain ⟨wh, wsp⟩ := w.2.2.2 p hp
  obtain ⟨z, hz⟩ : ∃ z, v (11 * p + 4) = z := ⟨_, rfl⟩
  have ez : h.1 (3 + 4 * p) 3 = o3 z := by rw [← hz]; exact wh.2.1
  have a4 : FX6_at (o3 p) 4 h = some (o3 z) := by rw [← hz]; exact at6 (k := 4) md hp (by omega)
  by_cases hz3 : z < 3
  · have hs1 : Same (fun q => 3 + 4 * p ≤ q ∧ q < 3 + 4 * p + 4) h (hGear h (3 + 4 * p) z x y) := ((Same.sI (by omega)).trans (Same.sI (by omega))).trans (Same.sI (by omega))
    have e12 : (hGear h (3 + 4 * p) z x y).1 1 2 = o3 (vGear v p z x y 67) := by
      rw [(hs1 1 (by omega)).1]
      unfold vGear
      rw [upv_ne (by omega), upv_ne (by omega), upv_ne (by omega)]; exact w.2.1
    have okv := vGear_ok (a := x) (b := y) okp hz hz3 ⟨c2, c3⟩ ⟨d2, d3⟩
    have e67 : vGear v p z x y 67 = v 67 := by unfold vGear; rw [upv_ne (by omega), upv_ne (by omega), upv_ne (by omega)]
    have ht := tune5 (n := n) (vGear_whl (a := x) (b := y) wh hz3) okv (by rw [e67]; exact ok.2.1.2) hn
    have hs1t : Same (fun q => 3 + 4 * p ≤ q ∧ q < 3 + 4 * p + 4) h (tuned (hGear h (3 + 4 * p) z x y) (3 + 4 * p) (vGear v p z x y) p) := hs1.trans (tuned_same (by omega))
    have a4' : FX6_at (o3 p) 4 (tuned (hGear h (3 + 4 * p) z x y) (3 + 4 * p) (vGear v p z x y) p) = some (o3 z) := by rw [← hz]; exact at6 (k := 4) (md.fr (hz ▸ hs1t) (by omega)) hp (by omega)
    refine ⟨o3 (z + 1), tuned (hGear h (3 + 4 * p) z x y) (3 + 4 * p) (vGear v p z x y) p, aw_sI (aw_sI (aw_sI (tuned (hGear h (3 + 4 * p) z x y) (3 + 4 * p) (vGear v p z x y) p) 72 (11 * p + (5 + z)) (o3 x)) 72 (11 * p + (8 + z)) (o3 y)) 72 (11 * p + 4) (o3 (z + 1)), ?_, ?_, ?_⟩
    · simp only [FX5_gear, FX5_isTeeth, b3, c4, d4, Option.bind_some, aw_on_some, isW_of hp, if_true, if_false, addPair5 ez hz3, e12, ht]
    · have e3 : ¬ o3 z = 3 := by rw [n3, o3_eq (by omega) (by omega)]; omega
      have b4' := isPart6 (md.fr hs1t (by omega) 66 (by omega)) ok.1 b2
      simp only [FX6_gear, b4', c5, d5, if_false, a4', Option.bind_some, e3, lays64 hp]
      rw [n5, n8, n1, o3_add, o3_add, o3_add, lays6 hp (by omega)]
      simp only [Option.bind_some]
      rw [lays6 hp (by omega)]
      simp only [Option.bind_some]
    · refine k.wheel (v' := vGear v p z x y) ok w md hp ?_ e67 ?_ ?_ okv hs1t (((Same.sI (S := fun q => q = 72) rfl).trans (Same.sI (S := fun q => q = 72) rfl)).trans (Same.sI (S := fun q => q = 72) rfl)) (vGear_whl (a := x) (b := y) wh hz3) (fun _ => tuned_spd) (fun m => ((m.upv _ _).upv _ _).upv _ _)
      · unfold vGear; rw [upv_ne (by omega), upv_ne (by omega), upv_ne (by omega)]
      · unfold vGear; rw [upv_ne (by omega), upv_ne (by omega), upv_ne (by omega)]
      · intro j hj hne i hi
        unfold vGear; rw [upv_ne (by omega), upv_ne (by omega), upv_ne (by omega)]
  · have h3 : z = 3 := by omega
    have hf : FX3_addPair (3 + 4 * p) (o3 x) (o3 y) h = some (-4, h) := by
      unfold FX3_addPair
      rw [if_neg (by rw [ez, h3]; decide)]
    have ht := tune5 (n := n) wh okp ok.2.1.2 hn
    have hs1t : Same (fun q => 3 + 4 * p ≤ q ∧ q < 3 + 4 * p + 4) h (tuned h (3 + 4 * p) v p) := tuned_same (by omega)
    have a4' : FX6_at (o3 p) 4 (tuned h (3 + 4 * p) v p) = some (o3 z) := by rw [← hz]; exact at6 (k := 4) (md.fr hs1t (by omega)) hp (by omega)
    refine ⟨-4, tuned h (3 + 4 * p) v p, tuned h (3 + 4 * p) v p, ?_, ?_, ?_⟩
    · simp only [FX5_gear, FX5_isTeeth, b3, c4, d4, Option.bind_some, aw_on_some, isW_of hp, if_true, if_false, hf, w.2.1, ht]
    · have e3 : o3 z = 3 := by rw [h3]; rfl
      have b4' := isPart6 (md.fr hs1t (by omega) 66 (by omega)) ok.1 b2
      simp only [FX6_gear, b4', c5, d5, if_false, a4', Option.bind_some, e3, if_true]
    · exact k.wheel (v' := v) ok w md hp rfl rfl rfl (fun _ _ _ _ _ => rfl) okp hs1t Same.rfl wh (fun _ => tuned_spd) (fun m => m)
theorem c_ungear {n : Nat} {h : aw_H} (k : Rel h) (hn : 300 ≤ n) (a1 : Int32) : Sim (FX5_ungear n a1 h) (FX6_ungear a1) := by
  obtain ⟨v, ok, w, md⟩ := k.1
  rcases part_g (h := h) (h' := h) a1 w.1 (md 66 (by omega)) ok.1 with ⟨f1, f2⟩ | ⟨p, b1, b2, b3, b4⟩
  · exact ⟨-2, h, h, by simp only [FX5_ungear, f1, Option.bind_some, aw_on_none], by simp only [FX6_ungear, f2, if_true], k⟩
  have hp : p < 6 := by have := ok.1; omega
  subst b1
  have okp := ok.2.2.2 p hp
  have o4 := okp.2.2.2.2.1
  obtain ⟨wh, wsp⟩ := w.2.2.2 p hp
  obtain ⟨z, hz⟩ : ∃ z, v (11 * p + 4) = z := ⟨_, rfl⟩
  have ez : h.1 (3 + 4 * p) 3 = o3 z := by rw [← hz]; exact wh.2.1
  by_cases hz0 : z = 0
  · have a4 : FX6_at (o3 p) 4 h = some (o3 z) := by rw [← hz]; exact at6 (k := 4) md hp (by omega)
    have e1 : ¬ (0 : Int32) < h.1 (3 + 4 * p) 3 := by rw [ez, hz0]; decide
    have e2 : o3 z = 0 := by rw [hz0]; rfl
    exact ⟨-3, h, h, by simp only [FX5_ungear, b3, Option.bind_some, aw_on_some, isW_of hp, if_true, e1, if_false], by simp only [FX6_ungear, b4, if_false, a4, Option.bind_some, e2, if_true], k⟩
  · obtain ⟨H, hH⟩ : ∃ H, H = aw_sI h (3 + 4 * p) 3 (o3 (z - 1)) := ⟨_, rfl⟩
    obtain ⟨v', hv'⟩ : ∃ v', v' = upv v (11 * p + 4) (z - 1) := ⟨_, rfl⟩
    have hs1 : Same (fun q => 3 + 4 * p ≤ q ∧ q < 3 + 4 * p + 4) h H := by rw [hH]; exact Same.sI (by omega)
    have e67 : v' 67 = v 67 := by rw [hv', upv_ne (by omega)]
    have okv : OkP v' p := by
      obtain ⟨k0, k1, k2, k3, k4, k5⟩ := okp
      rw [hv']
      refine ⟨?_, ?_, ?_, ?_, by rw [upv_eq]; omega, fun i hi => ?_⟩
      · rw [upv_ne (by omega)]; exact k0
      · rw [upv_ne (by omega)]; exact k1
      · rw [upv_ne (by omega)]; exact k2
      · rw [upv_ne (by omega)]; exact k3
      · rw [upv_eq] at hi
        rw [upv_ne (by omega), upv_ne (by omega)]
        exact k5 i (by omega)
    have whl : Whl H (3 + 4 * p) v' p := by
      obtain ⟨k1, k2, k3⟩ := wh
      rw [hH, hv']
      refine ⟨fun i hi => ?_, ?_, fun i hi => ?_⟩
      · rw [sI_ne (by omega), upv_ne (by omega)]; exact k1 i hi
      · rw [sI_eq, upv_eq]
      · rw [sI_ne (by omega), sI_ne (by omega), upv_ne (by omega), upv_ne (by omega)]; exact k3 i hi
    have e12 : H.1 1 2 = o3 (v' 67) := by rw [(hs1 1 (by omega)).1, e67]; exact w.2.1
    have ht := tune5 (n := n) whl okv (by rw [e67]; exact ok.2.1.2) hn
    have hs1t : Same (fun q => 3 + 4 * p ≤ q ∧ q < 3 + 4 * p + 4) h (tuned H (3 + 4 * p) v' p) := hs1.trans (tuned_same (by omega))
    have mt := md.fr hs1t (by omega)
    have a4 : FX6_at (o3 p) 4 (tuned H (3 + 4 * p) v' p) = some (o3 z) := by rw [← hz]; exact at6 (k := 4) mt hp (by omega)
    have b4' := isPart6 (mt 66 (by omega)) ok.1 b2
    have mt' : Mod (aw_sI (tuned H (3 + 4 * p) v' p) 72 (11 * p + 4) (o3 (z - 1))) v' := by rw [hv']; exact mt.upv _ _
    have a4' : FX6_at (o3 p) 4 (aw_sI (tuned H (3 + 4 * p) v' p) 72 (11 * p + 4) (o3 (z - 1))) = some (o3 (z - 1)) := by
      have := at6 (k := 4) mt' hp (by omega)
      rw [show v' (11 * p + 4) = z - 1 by rw [hv', upv_eq]] at this
      exact this
    have es : o3 z - 1 = o3 (z - 1) := by rw [n1, o3_sub (by omega) (by omega)]
    have e1 : (0 : Int32) < o3 z := by rw [n0, o3_lt (by omega) (by omega)]; omega
    have e2 : ¬ o3 z = 0 := by rw [n0, o3_eq (by omega) (by omega)]; exact hz0
    refine ⟨o3 (z - 1), tuned H (3 + 4 * p) v' p, aw_sI (tuned H (3 + 4 * p) v' p) 72 (11 * p + 4) (o3 (z - 1)), ?_, ?_, ?_⟩
    · simp only [FX5_ungear, b3, Option.bind_some, aw_on_some, isW_of hp, if_true, e1, ez, es]
      rw [← hH, e12, ht]
      simp only [Option.bind_some, tuned_1]
      rw [hH, sI_eq]
    · simp only [FX6_ungear, b4', if_false, a4, Option.bind_some, e2, es, lays64 hp, a4']
    · refine k.wheel (v' := v') ok w md hp (by rw [hv', upv_ne (by omega)]) e67 (by rw [hv', upv_ne (by omega)]) ?_ okv hs1t (Same.sI (S := fun q => q = 72) rfl) whl (fun _ => tuned_spd) (fun _ => mt')
      intro j hj hne i hi
      rw [hv', upv_ne (by omega)]
theorem c_change {h : aw_H} (k : Rel h) (t : Nat) (ht : t < 4) (a1 a3 : Int32) : Sim (FX5_change a1 (o3 t) a3 h) (FX6_becomes a1 (o3 t) a3) := by
  obtain ⟨v, ok, w, md⟩ := k.1
  rcases part_g (h := h) (h' := h) a1 w.1 (md 66 (by omega)) ok.1 with ⟨f1, f2⟩ | ⟨p, b1, b2, b3, b4⟩
  · exact ⟨-2, h, h, by simp only [FX5_change, f1, Option.bind_some, aw_on_none], by simp only [FX6_becomes, f2, if_true], k⟩
  have hp : p < 6 := by have := ok.1; omega
  rcases trait_g t ht a3 with ⟨f1, f2⟩ | ⟨x, c1, c2, c3, c4⟩
  · exact ⟨-2, h, h, by simp only [FX5_change, b3, f1, Option.bind_some, aw_on_some, isW_of hp, if_true], by simp only [FX6_becomes, b4, f2, if_true, if_false], k⟩
  subst b1 c1
  have okp := ok.2.2.2 p hp
  have mx := most_lt t ht
  obtain ⟨wh, wsp⟩ := w.2.2.2 p hp
  obtain ⟨v', hv'⟩ : ∃ v', v' = upv v (11 * p + t) x := ⟨_, rfl⟩
  have hs1 : Same (fun q => 3 + 4 * p ≤ q ∧ q < 3 + 4 * p + 4) h (aw_sI h (3 + 4 * p + 1) t (o3 x)) := Same.sI (by omega)
  have mt := md.fr hs1 (by omega)
  have a4 := at6 mt hp (show t < 11 by omega)
  have b4' := isPart6 (mt 66 (by omega)) ok.1 b2
  have ib : aw_inb (o3 t) 4 = true := (o3_inb (by omega)).mpr ht
  have e67 : v' 67 = v 67 := by rw [hv', upv_ne (by omega)]
  have okv : OkP v' p := by
    obtain ⟨k0, k1, k2, k3, k4, k5⟩ := okp
    rw [hv']
    rcases (show t = 0 ∨ t = 1 ∨ t = 2 ∨ t = 3 by omega) with rfl | rfl | rfl | rfl
    · refine ⟨by rw [Nat.add_zero, upv_eq]; exact c2, by rw [upv_ne (by omega)]; exact k1, by rw [upv_ne (by omega)]; exact k2, by rw [upv_ne (by omega)]; exact k3, by rw [upv_ne (by omega)]; exact k4, fun i hi => ?_⟩
      rw [upv_ne (by omega)] at hi
      rw [upv_ne (by omega), upv_ne (by omega)]; exact k5 i hi
    · refine ⟨by rw [upv_ne (by omega)]; exact k0, by rw [upv_eq]; exact c2, by rw [upv_ne (by omega)]; exact k2, by rw [upv_ne (by omega)]; exact k3, by rw [upv_ne (by omega)]; exact k4, fun i hi => ?_⟩
      rw [upv_ne (by omega)] at hi
      rw [upv_ne (by omega), upv_ne (by omega)]; exact k5 i hi
    · refine ⟨by rw [upv_ne (by omega)]; exact k0, by rw [upv_ne (by omega)]; exact k1, by rw [upv_eq]; exact c2, by rw [upv_ne (by omega)]; exact k3, by rw [upv_ne (by omega)]; exact k4, fun i hi => ?_⟩
      rw [upv_ne (by omega)] at hi
      rw [upv_ne (by omega), upv_ne (by omega)]; exact k5 i hi
    · refine ⟨by rw [upv_ne (by omega)]; exact k0, by rw [upv_ne (by omega)]; exact k1, by rw [upv_ne (by omega)]; exact k2, by rw [upv_eq]; exact c2, by rw [upv_ne (by omega)]; exact k4, fun i hi => ?_⟩
      rw [upv_ne (by omega)] at hi
      rw [upv_ne (by omega), upv_ne (by omega)]; exact k5 i hi
  have whl : Whl (aw_sI h (3 + 4 * p + 1) t (o3 x)) (3 + 4 * p) v' p := by
    obtain ⟨k1, k2, k3⟩ := wh
    rw [hv']
    refine ⟨fun i hi => ?_, ?_, fun i hi => ?_⟩
    · by_cases e : i = t
      · subst e
        rw [sI_eq, upv_eq]
      · rw [sI_nk e, upv_ne (by omega)]; exact k1 i hi
    · rw [sI_ne (by omega), upv_ne (by omega)]; exact k2
    · rw [sI_ne (by omega), sI_ne (by omega), upv_ne (by omega), upv_ne (by omega)]; exact k3 i hi
  have spd : p < v 66 → Spd (aw_sI h (3 + 4 * p + 1) t (o3 x)) (3 + 4 * p) v' p := fun hv => ((wsp hv).fr (Same.sI (S := fun q => q = 3 + 4 * p + 1) rfl) (by omega)).congr okp.2.2.2.2.1 e67 (fun i h1 h2 => by rw [hv', upv_ne (by omega)])
  refine ⟨o3 (v (11 * p + t)), aw_sI h (3 + 4 * p + 1) t (o3 x), aw_sI (aw_sI h (3 + 4 * p + 1) t (o3 x)) 72 (11 * p + t) (o3 x), ?_, ?_, ?_⟩
  · simp only [FX5_change, b3, c3, Option.bind_some, aw_on_some, isW_of hp, if_true, one_ne, if_false, ib, o3_clamp (show t < 2147483648 by omega), wh.1 t ht]
  · simp only [FX6_becomes, b4', c4, if_false, a4, Option.bind_some, lays6 hp (show t < 11 by omega)]
  · refine k.wheel (v' := v') ok w md hp (by rw [hv', upv_ne (by omega)]) e67 (by rw [hv', upv_ne (by omega)]) ?_ okv hs1 (Same.sI (S := fun q => q = 72) rfl) whl spd (fun m => by rw [hv']; exact m.upv _ _)
    intro j hj hne i hi
    rw [hv', upv_ne (by omega)]
theorem c_kind {h : aw_H} (k : Rel h) (a1 a2 : Int32) : Sim (FX5_kind a1 a2 h) (FX6_kind a1 a2) := by
  obtain ⟨x, h1, h2, e1, e2, e3⟩ := c_change k 0 (by omega) a1 a2
  refine ⟨x, h1, h2, ?_, ?_, e3⟩
  · unfold FX5_kind
    rw [n0, e1]; rfl
  · unfold FX6_kind
    rw [n0, e2]; rfl
theorem c_set {h : aw_H} (k : Rel h) (a1 a2 a3 : Int32) : Sim (FX5_set a1 a2 a3 h) (FX6_set a1 a2 a3) := by
  rcases rng a2 0 2 0 2 0 2 rfl rfl rfl rfl (by omega) (by omega) with ⟨f1, f2, -⟩ | ⟨t, c1, c2, c3, c4, c5⟩
  · exact ⟨-2, h, h, by simp only [FX5_set, f1, if_true], by simp only [FX6_set, f2, if_true], k⟩
  subst c1
  obtain ⟨x, h1, h2, e1, e2, e3⟩ := c_change k (1 + t) (by omega) a1 a3
  refine ⟨x, h1, h2, ?_, ?_, e3⟩
  · unfold FX5_set
    rw [if_neg c4, n1, o3_add, e1]; rfl
  · unfold FX6_set
    rw [if_neg c5, n1, o3_add, Nat.add_comm t 1, e2]; rfl
theorem c_turn {h : aw_H} (k : Rel h) (a1 : Int32) : Sim (FX5_turn a1 h) (FX6_turn a1) := by
  obtain ⟨v, ok, w, md⟩ := k.1
  rcases rng a1 1 99999 1 99999 1 99999 rfl rfl rfl rfl (by omega) (by omega) with ⟨f1, f2, -⟩ | ⟨x, c1, c2, c3, c4, c5⟩
  · exact ⟨-2, h, h, by simp only [FX5_turn, f1, if_true], by simp only [FX6_turn, f2, if_true], k⟩
  subst c1
  have h68 := ok.2.2.1
  have e1 := w.2.2.1
  have e2 := md 68 (by omega)
  unfold FX5_turn
  rw [if_neg c4, e1, o3_add]
  by_cases hx : v 68 + x ≤ 99999
  · rw [if_pos (show o3 (v 68 + x) ≤ 99999 by rw [show (99999 : Int32) = o3 99999 from rfl, o3_le (by omega) (by omega)]; exact hx), sI_eq]
    have e3 : (aw_sI h 1 3 (o3 (v 68 + x))).1 72 = h.1 72 := sI_ne (by omega)
    refine ⟨_, _, aw_sI (aw_sI h 1 3 (o3 (v 68 + x))) 72 68 (o3 (v 68 + x)), rfl, ?_, ?_⟩
    · unfold FX6_turn
      rw [if_neg c5, e3, e2, o3_add, if_pos (show o3 (v 68 + x) ≤ 99999 by rw [show (99999 : Int32) = o3 99999 from rfl, o3_le (by omega) (by omega)]; exact hx), sI_eq]
    · have hs : Same (fun q => q = 1 ∨ q = 72) h (aw_sI (aw_sI h 1 3 (o3 (v 68 + x))) 72 68 (o3 (v 68 + x))) := (Same.sI (Or.inl rfl)).trans (Same.sI (Or.inr rfl))
      refine k.works (hs.mono (fun q hq => by unfold WrkS; omega)) (upv v 68 (v 68 + x)) ?_ ?_ ?_
      · exact ⟨by rw [upv_ne (by omega)]; exact ok.1, by rw [upv_ne (by omega)]; exact ok.2.1, by rw [upv_eq]; exact hx, fun j hj => (ok.2.2.2 j hj).congr fun i hi => upv_ne (by omega)⟩
      · obtain ⟨w1, w2, w3, w4⟩ := w
        refine ⟨by rw [sI_ne (by omega), sI_nk (by omega), upv_ne (by omega)]; exact w1, by rw [sI_ne (by omega), sI_nk (by omega), upv_ne (by omega)]; exact w2, by rw [sI_ne (by omega), sI_eq, upv_eq], fun j hj => ?_⟩
        refine ⟨((w4 j hj).1.fr hs (fun i hi => by omega)).congr fun i hi => upv_ne (by omega), fun hj2 => ?_⟩
        rw [upv_ne (by omega)] at hj2
        exact (((w4 j hj).2 hj2).fr hs (by omega)).congr (ok.2.2.2 j hj).2.2.2.2.1 (upv_ne (by omega)) fun i _ hi => upv_ne (by omega)
      · exact (md.fr (Same.sI (S := fun q => q = 1) rfl) (by omega)).upv 68 (v 68 + x)
  · rw [if_neg (show ¬ o3 (v 68 + x) ≤ 99999 by rw [show (99999 : Int32) = o3 99999 from rfl, o3_le (by omega) (by omega)]; exact hx)]
    refine ⟨_, _, _, rfl, ?_, k⟩
    unfold FX6_turn
    rw [if_neg c5, e2, o3_add, if_neg (show ¬ o3 (v 68 + x) ≤ 99999 by rw [show (99999 : Int32) = o3 99999 from rfl, o3_le (by omega) (by omega)]; exact hx)]

/-! the relation that every call keeps -/
def Same (S : Nat → Prop) (h h' : aw_H) : Prop := ∀ q : Nat, ¬ S q → h'.1 q = h.1 q ∧ h'.2 q = h.2 q
theorem Same.rfl {S : Nat → Prop} {h : aw_H} : Same S h h := fun _ _ => ⟨Eq.refl _, Eq.refl _⟩
theorem Same.trans {S : Nat → Prop} {h h1 h2 : aw_H} (a : Same S h h1) (b : Same S h1 h2) : Same S h h2 := fun q hq => ⟨(b q hq).1.trans (a q hq).1, (b q hq).2.trans (a q hq).2⟩
theorem Same.mono {S T : Nat → Prop} {h h' : aw_H} (a : Same S h h') (hST : ∀ q, S q → T q) : Same T h h' := fun q hq => a q (fun hs => hq (hST q hs))
theorem sI_ne {h : aw_H} {c k q : Nat} {x : Int32} (hq : ¬ q = c) : (aw_sI h c k x).1 q = h.1 q := by
  funext j
  rw [aw_sI_1, if_neg (fun e => hq e.1)]
theorem sI_nk {h : aw_H} {c k j : Nat} {x : Int32} (hj : ¬ j = k) : (aw_sI h c k x).1 c j = h.1 c j := by
  rw [aw_sI_1, if_neg (fun e => hj e.2)]
theorem sI_eq {h : aw_H} {c k : Nat} {x : Int32} : (aw_sI h c k x).1 c k = x := by
  rw [aw_sI_1, if_pos ⟨Eq.refl _, Eq.refl _⟩]
theorem sL_ne {h : aw_H} {c k q : Nat} {x : Int64} (hq : ¬ q = c) : (aw_sL h c k x).2 q = h.2 q := by
  funext j
  show (if q = c ∧ j = k then x else h.2 q j) = h.2 q j
  rw [if_neg (fun e => hq e.1)]
theorem sL_nk {h : aw_H} {c k j : Nat} {x : Int64} (hj : ¬ j = k) : (aw_sL h c k x).2 c j = h.2 c j := by
  show (if c = c ∧ j = k then x else h.2 c j) = h.2 c j
  rw [if_neg (fun e => hj e.2)]
theorem sL_eq {h : aw_H} {c k : Nat} {x : Int64} : (aw_sL h c k x).2 c k = x := by
  show (if c = c ∧ k = k then x else h.2 c k) = x
  rw [if_pos ⟨Eq.refl _, Eq.refl _⟩]
theorem Same.sI {S : Nat → Prop} {h : aw_H} {c k : Nat} {x : Int32} (hc : S c) : Same S h (aw_sI h c k x) := fun q hq => ⟨sI_ne (fun e => hq (e ▸ hc)), Eq.refl _⟩
theorem Same.sL {S : Nat → Prop} {h : aw_H} {c k : Nat} {x : Int64} (hc : S c) : Same S h (aw_sL h c k x) := fun q hq => ⟨Eq.refl _, sL_ne (fun e => hq (e ▸ hc))⟩
def upv (v : St) (k x : Nat) : St := fun j => if j = k then x else v j
theorem upv_eq {v : St} {k x : Nat} : upv v k x k = x := if_pos (Eq.refl _)
theorem upv_ne {v : St} {k x j : Nat} (h : ¬ j = k) : upv v k x j = v j := if_neg h
def Ok (v : St) : Prop := v 66 ≤ 6 ∧ (1 ≤ v 67 ∧ v 67 ≤ 999) ∧ v 68 ≤ 99999 ∧ ∀ j : Nat, j < 6 → OkP v j
def Wks (h : aw_H) (c d : Nat) (v : St) : Prop := h.1 c 1 = o3 (v 66) ∧ h.1 c 2 = o3 (v 67) ∧ h.1 c 3 = o3 (v 68) ∧ ∀ j : Nat, j < 6 → Whl h (d + 4 * j) v j ∧ (j < v 66 → Spd h (d + 4 * j) v j)
def Img (h : aw_H) : Prop := (h.1 0 2 = 0 ∧ h.1 71 2 = 0) ∨ (h.1 0 2 = 1 ∧ h.1 71 2 = 1 ∧ ∃ u : St, Ok u ∧ Wks h 27 29 u ∧ ∀ k : Nat, k < 69 → h.1 73 k = o3 (u k))
def Sht (h : aw_H) : Prop := ∀ i : Nat, i < 4 → (h.1 (63 + 2 * i) 1 = h.1 74 i ∧ (h.1 74 i = -1 ∧ h.1 75 i = o3 0 ∨ h.1 74 i = 0 ∨ h.1 74 i = 1)) ∧ (∃ z : Nat, z ≤ 40 ∧ h.1 (63 + 2 * i) 2 = o3 z ∧ h.1 75 i = o3 z) ∧ ∀ k : Nat, k < 40 → h.2 (63 + 2 * i + 1) k = h.2 76 (40 * i + k)
def Tap (h : aw_H) : Prop := ∃ z : Nat, z ≤ 60 ∧ h.1 54 1 = o3 z ∧ h.1 71 12 = o3 z ∧ ∀ k : Nat, k < 60 → h.1 55 k = h.1 79 k ∧ ∃ x : Nat, x ≤ 255 ∧ h.1 55 k = o3 x
def Rel (h : aw_H) : Prop := (∃ v : St, Ok v ∧ Wks h 1 3 v ∧ Mod h v) ∧ Img h ∧ Sht h ∧ Tap h
section FRM
variable {S : Nat → Prop} {h h' : aw_H}
theorem Whl.fr {w p : Nat} {v : St} (k : Whl h w v p) (hs : Same S h h') (h0 : ∀ i, i < 4 → ¬ S (w + i)) : Whl h' w v p := by
  obtain ⟨k1, k2, k3⟩ := k
  refine ⟨fun i hi => ?_, ?_, fun i hi => ⟨?_, ?_⟩⟩
  · rw [(hs _ (h0 1 (by omega))).1]; exact k1 i hi
  · have := (hs w (h0 0 (by omega))).1
    rw [this]; exact k2
  · rw [(hs _ (h0 2 (by omega))).1]; exact (k3 i hi).1
  · rw [(hs _ (h0 3 (by omega))).1]; exact (k3 i hi).2
theorem Spd.fr {w p : Nat} {v : St} (k : Spd h w v p) (hs : Same S h h') (h0 : ¬ S w) : Spd h' w v p := by
  unfold Spd
  rw [(hs w h0).2]; exact k
theorem Wks.fr {c d : Nat} {v : St} (k : Wks h c d v) (hs : Same S h h') (h0 : ¬ S c) (h1 : ∀ q, d ≤ q → q < d + 24 → ¬ S q) : Wks h' c d v := by
  obtain ⟨k1, k2, k3, k4⟩ := k
  unfold Wks
  rw [(hs c h0).1]
  exact ⟨k1, k2, k3, fun j hj => ⟨(k4 j hj).1.fr hs (fun i hi => h1 _ (by omega) (by omega)), fun hp => ((k4 j hj).2 hp).fr hs (h1 _ (by omega) (by omega))⟩⟩
theorem Mod.fr {v : St} (k : Mod h v) (hs : Same S h h') (h0 : ¬ S 72) : Mod h' v := by
  unfold Mod
  rw [(hs 72 h0).1]; exact k
theorem Img.fr (k : Img h) (hs : Same S h h') (h0 : ¬ S 0) (h1 : ¬ S 73) (h2 : ∀ q, 27 ≤ q → q < 53 → ¬ S q) (h3 : h'.1 71 2 = h.1 71 2) : Img h' := by
  unfold Img
  rw [(hs 0 h0).1, h3, (hs 73 h1).1]
  rcases k with k | ⟨k1, k2, u, k3, k4, k5⟩
  · exact Or.inl k
  · exact Or.inr ⟨k1, k2, u, k3, k4.fr hs (h2 27 (by omega) (by omega)) (fun q q1 q2 => h2 q (by omega) (by omega)), k5⟩
theorem Sht.fr (k : Sht h) (hs : Same S h h') (h0 : ∀ q, 63 ≤ q → q < 71 → ¬ S q) (h1 : ¬ S 74) (h2 : ¬ S 75) (h3 : ¬ S 76) : Sht h' := by
  intro i hi
  rw [(hs 74 h1).1, (hs 75 h2).1, (hs 76 h3).2, (hs (63 + 2 * i) (h0 _ (by omega) (by omega))).1, (hs (63 + 2 * i + 1) (h0 _ (by omega) (by omega))).2]
  exact k i hi
theorem Tap.fr (k : Tap h) (hs : Same S h h') (h0 : ¬ S 55) (h1 : ¬ S 79) (h2 : h'.1 54 1 = h.1 54 1) (h3 : h'.1 71 12 = h.1 71 12) : Tap h' := by
  unfold Tap
  rw [h2, h3, (hs 55 h0).1, (hs 79 h1).1]; exact k
/-- scratch cells alone were written -/
def Scr (q : Nat) : Prop := q = 54 ∨ q = 56 ∨ (57 ≤ q ∧ q < 63) ∨ q = 71 ∨ q = 77 ∨ q = 78 ∨ q = 80 ∨ q = 81
theorem Rel.fr (k : Rel h) (hs : Same Scr h h') (h1 : h'.1 71 2 = h.1 71 2) (h2 : h'.1 54 1 = h.1 54 1) (h3 : h'.1 71 12 = h.1 71 12) : Rel h' := by
  obtain ⟨⟨v, k1, k2, k3⟩, k4, k5, k6⟩ := k
  refine ⟨⟨v, k1, k2.fr hs ?_ ?_, k3.fr hs ?_⟩, k4.fr hs ?_ ?_ ?_ h1, k5.fr hs ?_ ?_ ?_ ?_, k6.fr hs ?_ ?_ h2 h3⟩
  all_goals (try intro q q1 q2); unfold Scr; omega
end FRM
/-! what a part's speed depends on -/
section CNG
variable {v v' : St} {p : Nat}
theorem OkP.congr (k : OkP v p) (e : ∀ i, i < 11 → v' (11 * p + i) = v (11 * p + i)) : OkP v' p := by
  obtain ⟨k0, k1, k2, k3, k4, k5⟩ := k
  have e0 := e 0 (by omega)
  have e4 := e 4 (by omega)
  simp only [Nat.add_zero] at e0
  refine ⟨by omega, by rw [e 1 (by omega)]; exact k1, by rw [e 2 (by omega)]; exact k2, by rw [e 3 (by omega)]; exact k3, by omega, fun k hk => ?_⟩
  have a1 := e (5 + k) (by omega)
  have a2 := e (8 + k) (by omega)
  rw [← Nat.add_assoc] at a1 a2
  rw [a1, a2]
  exact k5 k (by omega)
theorem prA_congr (h4 : v (11 * p + 4) ≤ 3) (e : ∀ i, 4 ≤ i → i < 11 → v' (11 * p + i) = v (11 * p + i)) : ∀ k : Nat, k ≤ 3 → prA v' p k = prA v p k
  | 0, _ => rfl
  | k + 1, hk => by
    have a1 := e (5 + k) (by omega) (by omega)
    rw [← Nat.add_assoc] at a1
    rw [prA, prA, prA_congr h4 e k (by omega), a1]
theorem prB_congr (h4 : v (11 * p + 4) ≤ 3) (e : ∀ i, 4 ≤ i → i < 11 → v' (11 * p + i) = v (11 * p + i)) : ∀ k : Nat, k ≤ 3 → prB v' p k = prB v p k
  | 0, _ => rfl
  | k + 1, hk => by
    have a1 := e (8 + k) (by omega) (by omega)
    rw [← Nat.add_assoc] at a1
    rw [prB, prB, prB_congr h4 e k (by omega), a1]
theorem jamN_congr {f g : Nat → Bool} {P : Nat} (e : ∀ k, k < P → f k = g k) : ∀ d : Nat, d ≤ P → jamN f P d = jamN g P d
  | 0, _ => rfl
  | d + 1, hd => by rw [jamN, jamN, e _ (by omega), jamN_congr e d (by omega)]
theorem jamV_congr (h4 : v (11 * p + 4) ≤ 3) (e : ∀ i, 4 ≤ i → i < 11 → v' (11 * p + i) = v (11 * p + i)) : jamV v' p = jamV v p := by
  unfold jamV
  rw [e 4 (by omega) (by omega)]
  refine jamN_congr (fun k hk => ?_) _ (Nat.le_refl _)
  have a1 := e (5 + k) (by omega) (by omega)
  have a2 := e (8 + k) (by omega) (by omega)
  rw [← Nat.add_assoc] at a1 a2
  rw [fitB, fitB, a1, a2]
theorem spA_congr (h4 : v (11 * p + 4) ≤ 3) (e7 : v' 67 = v 67) (e : ∀ i, 4 ≤ i → i < 11 → v' (11 * p + i) = v (11 * p + i)) : spA v' p = spA v p := by
  unfold spA spC
  rw [jamV_congr h4 e, e7, e 4 (by omega) (by omega), prA_congr h4 e _ h4]
theorem spB_congr (h4 : v (11 * p + 4) ≤ 3) (e : ∀ i, 4 ≤ i → i < 11 → v' (11 * p + i) = v (11 * p + i)) : spB v' p = spB v p := by
  unfold spB
  rw [e 4 (by omega) (by omega), prB_congr h4 e _ h4]
theorem Spd.congr {h : aw_H} {w : Nat} (k : Spd h w v p) (h4 : v (11 * p + 4) ≤ 3) (e7 : v' 67 = v 67) (e : ∀ i, 4 ≤ i → i < 11 → v' (11 * p + i) = v (11 * p + i)) : Spd h w v' p := by
  unfold Spd spG
  rw [spA_congr h4 e7 e, spB_congr h4 e]; exact k
theorem Whl.congr {h : aw_H} {w : Nat} (k : Whl h w v p) (e : ∀ i, i < 11 → v' (11 * p + i) = v (11 * p + i)) : Whl h w v' p := by
  obtain ⟨k1, k2, k3⟩ := k
  refine ⟨fun i hi => by rw [e i (by omega)]; exact k1 i hi, by rw [e 4 (by omega)]; exact k2, fun i hi => ?_⟩
  have a1 := e (5 + i) (by omega)
  have a2 := e (8 + i) (by omega)
  rw [← Nat.add_assoc] at a1 a2
  rw [a1, a2]
  exact k3 i hi
end CNG
theorem isW_of {p : Nat} (hp : p < 6) : aw_isW (3 + 4 * p) = true := by
  have : ∀ q : Fin 6, aw_isW (3 + 4 * q.1) = true := by decide
  exact this ⟨p, hp⟩
/-- the guard on a part's number -/
theorem part_g {h h' : aw_H} {P : Nat} (a : Int32) (e1 : h.1 1 1 = o3 P) (e2 : h'.1 72 66 = o3 P) (hP : P ≤ 6) : (FX4_wheelOf a h = some none ∧ FX6_isPart a h' = 0) ∨ (∃ p : Nat, a = o3 p ∧ p < P ∧ FX4_wheelOf a h = some (some (3 + 4 * p)) ∧ ¬ FX6_isPart a h' = 0) := by
  unfold FX4_wheelOf FX6_isPart
  rw [e1, e2, isIn_iff, Int64.le_iff_toInt_le, Int64.le_iff_toInt_le, Int32.toInt_toInt64, Int32.toInt_toInt64, Int32.toInt_sub, o3_toInt (by omega), show (1 : Int32).toInt = 1 from rfl, show (0 : Int64).toInt = 0 from rfl, b32 (by omega) (by omega)]
  by_cases h0 : a < 0
  · rw [if_pos h0]
    rw [Int32.lt_iff_toInt_lt, show (0 : Int32).toInt = 0 from rfl] at h0
    exact Or.inl ⟨rfl, by omega⟩
  · rw [if_neg h0]
    rw [Int32.lt_iff_toInt_lt, show (0 : Int32).toInt = 0 from rfl] at h0
    obtain ⟨p, rfl, h2, h3⟩ := o3_of (x := a) (by omega)
    rw [o3_toInt h3]
    by_cases hp : p < P
    · rw [if_neg (by rw [o3_le (by omega) h3]; omega), if_pos ((o3_inb h3).mpr (by omega)), o3_clamp h3]
      exact Or.inr ⟨p, rfl, hp, rfl, by omega⟩
    · rw [if_pos (by rw [o3_le (by omega) h3]; omega)]
      exact Or.inl ⟨rfl, by omega⟩

section AXS2
variable {s : State} {b : Nat}
set_option maxHeartbeats 4000000 in
theorem ax_S (hgv : (Jvm.Cond.and given_1 narrow_1).before #[Value.ref b] s = true) : ∃ adK adV : Nat → Nat, vk_S 7 aw_sl aw_sb adK adV (fun q => s.heap.size ≤ q) s s.heap ∧ ∀ i : Nat, i < 7 → (Term.string (aw_so i) (aw_si i)).eval #[Value.ref b] s none [] s = some (.ref (adK i)) := by
  have hf := flat_of_before _ hgv
  refine vk_Sof (tm := fun i => .string (aw_so i) (aw_si i)) (len := aw_sl) (byt := aw_sb) (fun i hi => ?_) (fun i hi => ?_) (fun i hi => ?_) (fun i hi => ?_) (fun i hi => ?_) (fun i hi j hj => ?_) (fun i j hi hj hn => ?_) ax_hA
  · match i, hi with
    | 0, _ => exact (by decide)
    | 1, _ => exact (by decide)
    | 2, _ => exact (by decide)
    | 3, _ => exact (by decide)
    | 4, _ => exact (by decide)
    | 5, _ => exact (by decide)
    | 6, _ => exact (by decide)
    | i + 7, hi => exact absurd hi (by omega)
  · match i, hi with
    | 0, _ => exact hf _ (by decide +kernel)
    | 1, _ => exact hf _ (by decide +kernel)
    | 2, _ => exact hf _ (by decide +kernel)
    | 3, _ => exact hf _ (by decide +kernel)
    | 4, _ => exact hf _ (by decide +kernel)
    | 5, _ => exact hf _ (by decide +kernel)
    | 6, _ => exact hf _ (by decide +kernel)
    | i + 7, hi => exact absurd hi (by omega)
  · match i, hi with
    | 0, _ => exact hf _ (by decide +kernel)
    | 1, _ => exact hf _ (by decide +kernel)
    | 2, _ => exact hf _ (by decide +kernel)
    | 3, _ => exact hf _ (by decide +kernel)
    | 4, _ => exact hf _ (by decide +kernel)
    | 5, _ => exact hf _ (by decide +kernel)
    | 6, _ => exact hf _ (by decide +kernel)
    | i + 7, hi => exact absurd hi (by omega)
  · match i, hi with
    | 0, _ => exact hf _ (by decide +kernel)
    | 1, _ => exact hf _ (by decide +kernel)
    | 2, _ => exact hf _ (by decide +kernel)
    | 3, _ => exact hf _ (by decide +kernel)
    | 4, _ => exact hf _ (by decide +kernel)
    | 5, _ => exact hf _ (by decide +kernel)
    | 6, _ => exact hf _ (by decide +kernel)
    | i + 7, hi => exact absurd hi (by omega)
  · match i, hi with
    | 0, _ => exact hf _ (by decide +kernel)
    | 1, _ => exact hf _ (by decide +kernel)
    | 2, _ => exact hf _ (by decide +kernel)
    | 3, _ => exact hf _ (by decide +kernel)
    | 4, _ => exact hf _ (by decide +kernel)
    | 5, _ => exact hf _ (by decide +kernel)
    | 6, _ => exact hf _ (by decide +kernel)
    | i + 7, hi => exact absurd hi (by omega)
  · match i, hi with
    | 0, _ =>
      have hj : j < 4 := hj
      match j, hj with
      | 0, _ => exact hf _ (by decide +kernel)
      | 1, _ => exact hf _ (by decide +kernel)
      | 2, _ => exact hf _ (by decide +kernel)
      | 3, _ => exact hf _ (by decide +kernel)
      | j + 4, hj => exact absurd hj (by omega)
    | 1, _ =>
      have hj : j < 4 := hj
      match j, hj with
      | 0, _ => exact hf _ (by decide +kernel)
      | 1, _ => exact hf _ (by decide +kernel)
      | 2, _ => exact hf _ (by decide +kernel)
      | 3, _ => exact hf _ (by decide +kernel)
      | j + 4, hj => exact absurd hj (by omega)
    | 2, _ =>
      have hj : j < 5 := hj
      match j, hj with
      | 0, _ => exact hf _ (by decide +kernel)
      | 1, _ => exact hf _ (by decide +kernel)
      | 2, _ => exact hf _ (by decide +kernel)
      | 3, _ => exact hf _ (by decide +kernel)
      | 4, _ => exact hf _ (by decide +kernel)
      | j + 5, hj => exact absurd hj (by omega)
    | 3, _ =>
      have hj : j < 5 := hj
      match j, hj with
      | 0, _ => exact hf _ (by decide +kernel)
      | 1, _ => exact hf _ (by decide +kernel)
      | 2, _ => exact hf _ (by decide +kernel)
      | 3, _ => exact hf _ (by decide +kernel)
      | 4, _ => exact hf _ (by decide +kernel)
      | j + 5, hj => exact absurd hj (by omega)
    | 4, _ =>
      have hj : j < 3 := hj
      match j, hj with
      | 0, _ => exact hf _ (by decide +kernel)
      | 1, _ => exact hf _ (by decide +kernel)
      | 2, _ => exact hf _ (by decide +kernel)
      | j + 3, hj => exact absurd hj (by omega)
    | 5, _ =>
      have hj : j < 0 := hj
      match j, hj with
      | j + 0, hj => exact absurd hj (by omega)
    | 6, _ =>
      have hj : j < 26 := hj
      match j, hj with
      | 0, _ => exact hf _ (by decide +kernel)
      | 1, _ => exact hf _ (by decide +kernel)
      | 2, _ => exact hf _ (by decide +kernel)
      | 3, _ => exact hf _ (by decide +kernel)
      | 4, _ => exact hf _ (by decide +kernel)
      | 5, _ => exact hf _ (by decide +kernel)
      | 6, _ => exact hf _ (by decide +kernel)
      | 7, _ => exact hf _ (by decide +kernel)
      | 8, _ => exact hf _ (by decide +kernel)
      | 9, _ => exact hf _ (by decide +kernel)
      | 10, _ => exact hf _ (by decide +kernel)
      | 11, _ => exact hf _ (by decide +kernel)
      | 12, _ => exact hf _ (by decide +kernel)
      | 13, _ => exact hf _ (by decide +kernel)
      | 14, _ => exact hf _ (by decide +kernel)
      | 15, _ => exact hf _ (by decide +kernel)
      | 16, _ => exact hf _ (by decide +kernel)
      | 17, _ => exact hf _ (by decide +kernel)
      | 18, _ => exact hf _ (by decide +kernel)
      | 19, _ => exact hf _ (by decide +kernel)
      | 20, _ => exact hf _ (by decide +kernel)
      | 21, _ => exact hf _ (by decide +kernel)
      | 22, _ => exact hf _ (by decide +kernel)
      | 23, _ => exact hf _ (by decide +kernel)
      | 24, _ => exact hf _ (by decide +kernel)
      | 25, _ => exact hf _ (by decide +kernel)
      | j + 26, hj => exact absurd hj (by omega)
    | i + 7, hi => exact absurd hi (by omega)
  · match i, j, hi, hj with
    | 0, 0, _, _ => exact absurd rfl hn
    | 0, 1, _, _ => exact Or.inl (hf _ (by decide +kernel))
    | 0, 2, _, _ => exact Or.inl (hf _ (by decide +kernel))
    | 0, 3, _, _ => exact Or.inl (hf _ (by decide +kernel))
    | 0, 4, _, _ => exact Or.inl (hf _ (by decide +kernel))
    | 0, 5, _, _ => exact Or.inl (hf _ (by decide +kernel))
    | 0, 6, _, _ => exact Or.inl (hf _ (by decide +kernel))
    | 1, 0, _, _ => exact Or.inr (hf _ (by decide +kernel))
    | 1, 1, _, _ => exact absurd rfl hn
    | 1, 2, _, _ => exact Or.inl (hf _ (by decide +kernel))
    | 1, 3, _, _ => exact Or.inl (hf _ (by decide +kernel))
    | 1, 4, _, _ => exact Or.inl (hf _ (by decide +kernel))
    | 1, 5, _, _ => exact Or.inl (hf _ (by decide +kernel))
    | 1, 6, _, _ => exact Or.inl (hf _ (by decide +kernel))
    | 2, 0, _, _ => exact Or.inr (hf _ (by decide +kernel))
    | 2, 1, _, _ => exact Or.inr (hf _ (by decide +kernel))
    | 2, 2, _, _ => exact absurd rfl hn
    | 2, 3, _, _ => exact Or.inl (hf _ (by decide +kernel))
    | 2, 4, _, _ => exact Or.inl (hf _ (by decide +kernel))
    | 2, 5, _, _ => exact Or.inl (hf _ (by decide +kernel))
    | 2, 6, _, _ => exact Or.inl (hf _ (by decide +kernel))
    | 3, 0, _, _ => exact Or.inr (hf _ (by decide +kernel))
    | 3, 1, _, _ => exact Or.inr (hf _ (by decide +kernel))
    | 3, 2, _, _ => exact Or.inr (hf _ (by decide +kernel))
    | 3, 3, _, _ => exact absurd rfl hn
    | 3, 4, _, _ => exact Or.inl (hf _ (by decide +kernel))
    | 3, 5, _, _ => exact Or.inl (hf _ (by decide +kernel))
    | 3, 6, _, _ => exact Or.inl (hf _ (by decide +kernel))
    | 4, 0, _, _ => exact Or.inr (hf _ (by decide +kernel))
    | 4, 1, _, _ => exact Or.inr (hf _ (by decide +kernel))
    | 4, 2, _, _ => exact Or.inr (hf _ (by decide +kernel))
    | 4, 3, _, _ => exact Or.inr (hf _ (by decide +kernel))
    | 4, 4, _, _ => exact absurd rfl hn
    | 4, 5, _, _ => exact Or.inl (hf _ (by decide +kernel))
    | 4, 6, _, _ => exact Or.inl (hf _ (by decide +kernel))
    | 5, 0, _, _ => exact Or.inr (hf _ (by decide +kernel))
    | 5, 1, _, _ => exact Or.inr (hf _ (by decide +kernel))
    | 5, 2, _, _ => exact Or.inr (hf _ (by decide +kernel))
    | 5, 3, _, _ => exact Or.inr (hf _ (by decide +kernel))
    | 5, 4, _, _ => exact Or.inr (hf _ (by decide +kernel))
    | 5, 5, _, _ => exact absurd rfl hn
    | 5, 6, _, _ => exact Or.inl (hf _ (by decide +kernel))
    | 6, 0, _, _ => exact Or.inr (hf _ (by decide +kernel))
    | 6, 1, _, _ => exact Or.inr (hf _ (by decide +kernel))
    | 6, 2, _, _ => exact Or.inr (hf _ (by decide +kernel))
    | 6, 3, _, _ => exact Or.inr (hf _ (by decide +kernel))
    | 6, 4, _, _ => exact Or.inr (hf _ (by decide +kernel))
    | 6, 5, _, _ => exact Or.inr (hf _ (by decide +kernel))
    | 6, 6, _, _ => exact absurd rfl hn
    | i + 7, _, hi, _ => exact absurd hi (by omega)
    | _, j + 7, _, hj => exact absurd hj (by omega)
end AXS2

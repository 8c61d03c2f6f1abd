/-! what the claim gives at the start: the tables, the Strings, the classes -/
section AXS
variable {s : State} {b : Nat}
theorem ax_hA : ∀ a : Nat, a < s.heap.size → ¬ (fun q : Nat => s.heap.size ≤ q) a := fun _ h => Nat.not_le.mpr h
theorem ax_T0 (hts : ∀ w ∈ lw_tbl, w.before #[Value.ref b] s = true) (hgv : (Jvm.Cond.and given_1 narrow_1).before #[Value.ref b] s = true) : ∃ t : Nat, va_T .int t 4 (fun j => .int (aw_ro 0 j)) (fun q => s.heap.size ≤ q) s s.heap ∧ va_Z RX5 "MOST" "[I" (.ref t) (fun q => s.heap.size ≤ q) s s.heap := by
  have hf := flat_of_before _ hgv
  obtain ⟨t, h1, h2⟩ := va_Tof (tm := .static RX5 "MOST" "[I") (ty := .int) (N := 4) (f := fun j => .int (aw_ro 0 j)) (by decide) (hf _ (by decide +kernel)) (va_eqt (hf _ (by decide +kernel))) (fun j hj => by
    match j, hj with
    | 0, _ => exact va_eqt (hf _ (by decide +kernel))
    | 1, _ => exact va_eqt (hf _ (by decide +kernel))
    | 2, _ => exact va_eqt (hf _ (by decide +kernel))
    | 3, _ => exact va_eqt (hf _ (by decide +kernel))
    | j + 4, hj => exact absurd hj (by omega)) ax_hA
  exact ⟨t, h2, va_Zof (hts _ (by decide +kernel)) (hts _ (by decide +kernel)) h1 ax_hA⟩
theorem ax_T1 (hts : ∀ w ∈ lw_tbl, w.before #[Value.ref b] s = true) (hgv : (Jvm.Cond.and given_1 narrow_1).before #[Value.ref b] s = true) : ∃ t : Nat, va_T .int t 6 (fun j => .int (aw_ro 1 j)) (fun q => s.heap.size ≤ q) s s.heap ∧ va_Z RX5 "KIND_ABOVE" "[I" (.ref t) (fun q => s.heap.size ≤ q) s s.heap := by
  have hf := flat_of_before _ hgv
  obtain ⟨t, h1, h2⟩ := va_Tof (tm := .static RX5 "KIND_ABOVE" "[I") (ty := .int) (N := 6) (f := fun j => .int (aw_ro 1 j)) (by decide) (hf _ (by decide +kernel)) (va_eqt (hf _ (by decide +kernel))) (fun j hj => by
    match j, hj with
    | 0, _ => exact va_eqt (hf _ (by decide +kernel))
    | 1, _ => exact va_eqt (hf _ (by decide +kernel))
    | 2, _ => exact va_eqt (hf _ (by decide +kernel))
    | 3, _ => exact va_eqt (hf _ (by decide +kernel))
    | 4, _ => exact va_eqt (hf _ (by decide +kernel))
    | 5, _ => exact va_eqt (hf _ (by decide +kernel))
    | j + 6, hj => exact absurd hj (by omega)) ax_hA
  exact ⟨t, h2, va_Zof (hts _ (by decide +kernel)) (hts _ (by decide +kernel)) h1 ax_hA⟩
theorem ax_T2 (hts : ∀ w ∈ lw_tbl, w.before #[Value.ref b] s = true) (hgv : (Jvm.Cond.and given_1 narrow_1).before #[Value.ref b] s = true) : ∃ t : Nat, va_T .int t 5 (fun j => .int (aw_ro 2 j)) (fun q => s.heap.size ≤ q) s s.heap ∧ va_Z RX5 "NUMBERS" "[I" (.ref t) (fun q => s.heap.size ≤ q) s s.heap := by
  have hf := flat_of_before _ hgv
  obtain ⟨t, h1, h2⟩ := va_Tof (tm := .static RX5 "NUMBERS" "[I") (ty := .int) (N := 5) (f := fun j => .int (aw_ro 2 j)) (by decide) (hf _ (by decide +kernel)) (va_eqt (hf _ (by decide +kernel))) (fun j hj => by
    match j, hj with
    | 0, _ => exact va_eqt (hf _ (by decide +kernel))
    | 1, _ => exact va_eqt (hf _ (by decide +kernel))
    | 2, _ => exact va_eqt (hf _ (by decide +kernel))
    | 3, _ => exact va_eqt (hf _ (by decide +kernel))
    | 4, _ => exact va_eqt (hf _ (by decide +kernel))
    | j + 5, hj => exact absurd hj (by omega)) ax_hA
  exact ⟨t, h2, va_Zof (hts _ (by decide +kernel)) (hts _ (by decide +kernel)) h1 ax_hA⟩
end AXS

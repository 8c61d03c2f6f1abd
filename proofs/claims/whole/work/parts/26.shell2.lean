/-! the world's numbers at the start, and the claim's end out of FL_law -/
def ax_ad (z : Nat) (adK adV : Nat → Nat) (t0 t1 t2 fm b : Nat) (k : Nat) : Nat := if k < 1000 then z + k else if k < 1100 then adK (k - 1000) else if k < 1200 then adV (k - 1100) else if k = 1200 then t0 else if k = 1201 then t1 else if k = 1202 then t2 else if k = 1300 then fm else b
theorem ax_ad_k {z : Nat} {adK adV : Nat → Nat} {t0 t1 t2 fm b i : Nat} (h : i < 7) : ax_ad z adK adV t0 t1 t2 fm b (1000 + i) = adK i := by
  rw [ax_ad, if_neg (by omega), if_pos (by omega), show 1000 + i - 1000 = i by omega]
theorem ax_ad_v {z : Nat} {adK adV : Nat → Nat} {t0 t1 t2 fm b i : Nat} (h : i < 7) : ax_ad z adK adV t0 t1 t2 fm b (1100 + i) = adV i := by
  rw [ax_ad, if_neg (by omega), if_neg (by omega), if_pos (by omega), show 1100 + i - 1100 = i by omega]
theorem ax_ad_z {z : Nat} {adK adV : Nat → Nat} {t0 t1 t2 fm b i : Nat} (h : i < 1000) : ax_ad z adK adV t0 t1 t2 fm b i = z + i := by
  rw [ax_ad, if_pos h]
section AXS3
variable {s : State} {b : Nat}
theorem ax_bg (hts : ∀ w ∈ lw_tbl, w.before #[Value.ref b] s = true) : ∀ w ∈ BG, w.before #[Value.ref b] s = true := fun w hw => hts w (List.mem_filter.mp hw).1
theorem ax_Kc (hts : ∀ w ∈ lw_tbl, w.before #[Value.ref b] s = true) : ∃ gc : va_G, ∀ (ci : Nat) (q : vw_C), vwCl[ci]? = some q → u_Kn s q.1 q.2.1 q.2.2 (gc.1 ci) (gc.2 ci) := by
  have hbg := ax_bg hts
  obtain ⟨c0, i0, k0⟩ := u_known (C := RX0) (T := TX0) (N := 2) hbg bgX0 (hbg _ kiX0)
  obtain ⟨c1, i1, k1⟩ := u_known (C := RX1) (T := TX1) (N := 3) hbg bgX1 (hbg _ kiX1)
  obtain ⟨c2, i2, k2⟩ := u_known (C := RX2) (T := TX2) (N := 8) hbg bgX2 (hbg _ kiX2)
  obtain ⟨c3, i3, k3⟩ := u_known (C := RX3) (T := TX3) (N := 6) hbg bgX3 (hbg _ kiX3)
  obtain ⟨c4, i4, k4⟩ := u_known (C := RX4) (T := TX4) (N := 4) hbg bgX4 (hbg _ kiX4)
  obtain ⟨c5, i5, k5⟩ := u_known (C := RX5) (T := TX5) (N := 8) hbg bgX5 (hbg _ kiX5)
  obtain ⟨c6, i6, k6⟩ := u_known (C := RX6) (T := TX6) (N := 18) hbg bgX6 (hbg _ kiX6)
  refine ⟨(fun k => match k with | 0 => c0 | 1 => c1 | 2 => c2 | 3 => c3 | 4 => c4 | 5 => c5 | _ => c6, fun k => match k with | 0 => i0 | 1 => i1 | 2 => i2 | 3 => i3 | 4 => i4 | 5 => i5 | _ => i6), ?_⟩
  intro ci q hq
  match ci, hq with
  | 0, hq => cases hq; exact k0
  | 1, hq => cases hq; exact k1
  | 2, hq => cases hq; exact k2
  | 3, hq => cases hq; exact k3
  | 4, hq => cases hq; exact k4
  | 5, hq => cases hq; exact k5
  | 6, hq => cases hq; exact k6
  | k + 7, hq => simp [vwCl] at hq
theorem ax_Ka (hts : ∀ w ∈ lw_tbl, w.before #[Value.ref b] s = true) : ∃ gt : Nat → ClassId, ∀ t : Nat, 1 ≤ t → t ≤ 4 → ArrOfT s (gt t) (aw_ty t) ∧ va_RA s (gt t) (aw_ty t) := by
  have hbg := ax_bg hts
  obtain ⟨c1, k1, m1, a1, a2, a3⟩ := Cond.arrayClass_spec (hbg _ ka_int)
  obtain ⟨c2, k2, m2, b1, b2, b3⟩ := Cond.arrayClass_spec (hbg _ ka_long)
  obtain ⟨m3, c3, k3, d1, d2, d3, d4, d5⟩ := Cond.arrayOver_spec (n := RX3) (hts (.arrayOver (.object RX3)) (by decide +kernel))
  obtain ⟨m4, c4, k4, e1, e2, e3, e4, e5⟩ := Cond.arrayOver_spec (n := RX1) (hts (.arrayOver (.object RX1)) (by decide +kernel))
  refine ⟨fun t => match t with | 1 => c1 | 2 => c2 | 3 => c3 | _ => c4, ?_⟩
  intro t h1 h2
  match t, h1, h2 with
  | 1, _, _ => exact ⟨fun N z => ⟨(fun k h => by cases h), k1, a2, m1, a3⟩, a1⟩
  | 2, _, _ => exact ⟨fun N z => ⟨(fun k h => by cases h), k2, b2, m2, b3⟩, b1⟩
  | 3, _, _ => exact ⟨fun N z => ⟨(fun k h => by cases h), k3, d3, m3, d4⟩, k3, m3, d3, d4, d1, d5⟩
  | 4, _, _ => exact ⟨fun N z => ⟨(fun k h => by cases h), k4, e3, m4, e4⟩, k4, m4, e3, e4, e1, e5⟩
  | k + 5, _, h => exact absurd h (by omega)
theorem ax_Kn (hts : ∀ w ∈ lw_tbl, w.before #[Value.ref b] s = true) : ∀ w ∈ NW, va_Nw w s := by
  intro w hw
  have h1 := hts w (nw_in w hw)
  exact aw_nw_case (P := fun w => w.before #[Value.ref b] s = true → va_Nw w s) hw (fun a i x z h => va_tabs rfl rfl h) (fun a i x n d z h => va_tabs rfl rfl h) h1
theorem ax_Ks (hts : ∀ w ∈ lw_tbl, w.before #[Value.ref b] s = true) {adK : Nat → Nat} (hK : ∀ i : Nat, i < 7 → (Term.string (aw_so i) (aw_si i)).eval #[Value.ref b] s none [] s = some (.ref (adK i))) : ∀ i : Nat, i < 7 → vk_R (aw_so i) (aw_si i) (aw_sx i) (adK i) s := by
  intro i hi
  have hk := hK i hi
  match i, hi with
  | 0, _ => exact vk_R.of (A := #[Value.ref b]) (hts (.stringRef RX5 308 "part") (by decide +kernel)) hk
  | 1, _ => exact vk_R.of (A := #[Value.ref b]) (hts (.stringRef RX5 309 "gear") (by decide +kernel)) hk
  | 2, _ => exact vk_R.of (A := #[Value.ref b]) (hts (.stringRef RX5 310 "shaft") (by decide +kernel)) hk
  | 3, _ => exact vk_R.of (A := #[Value.ref b]) (hts (.stringRef RX5 311 "phase") (by decide +kernel)) hk
  | 4, _ => exact vk_R.of (A := #[Value.ref b]) (hts (.stringRef RX5 313 "amp") (by decide +kernel)) hk
  | 5, _ => exact vk_R.of (A := #[Value.ref b]) (hts (.stringRef RX5 315 "") (by decide +kernel)) hk
  | 6, _ => exact vk_R.of (A := #[Value.ref b]) (hts (.stringRef RX6 40 "part gear shaft phase amp ") (by decide +kernel)) hk
  | i + 7, hi => exact absurd hi (by omega)
theorem ax_Zc (hts : ∀ w ∈ lw_tbl, w.before #[Value.ref b] s = true) (hgv : (Jvm.Cond.and given_1 narrow_1).before #[Value.ref b] s = true) : va_Z RJ0 "COMPACT_STRINGS" "Z" (.int 1) (fun q => s.heap.size ≤ q) s s.heap := by
  have hf := flat_of_before _ hgv
  exact va_Zof (hts _ (by decide +kernel)) (hts _ (by decide +kernel)) (va_eqi (hf _ (by decide +kernel))) ax_hA
theorem ax_Zf (hts : ∀ w ∈ lw_tbl, w.before #[Value.ref b] s = true) (hgv : (Jvm.Cond.and given_1 narrow_1).before #[Value.ref b] s = true) : va_Zq RJ3 aw_fm aw_fd (fun q => s.heap.size ≤ q) s s.heap := by
  have hf := flat_of_before _ hgv
  exact va_Zqof (hts _ (by decide +kernel)) (hts _ (by decide +kernel)) (hf _ (by decide +kernel)) ax_hA
/-- the numbers of the world, with all that aw_C asks of them -/
theorem ax_g (hts : ∀ w ∈ lw_tbl, w.before #[Value.ref b] s = true) (hgv : (Jvm.Cond.and given_1 narrow_1).before #[Value.ref b] s = true) : ∃ g : aw_G, g.2.2.2 = s.heap.size ∧ g.2.2.1 1400 = b ∧ aw_K g s ∧ aw_O g s s.heap ∧ aw_B g := by
  obtain ⟨gc, hc⟩ := ax_Kc hts
  obtain ⟨gt, ht⟩ := ax_Ka hts
  obtain ⟨adK, adV, hS, hK⟩ := ax_S hgv
  obtain ⟨t0, a0, z0⟩ := ax_T0 hts hgv
  obtain ⟨t1, a1, z1⟩ := ax_T1 hts hgv
  obtain ⟨t2, a2, z2⟩ := ax_T2 hts hgv
  have hZ : ∃ fm : Nat, (va_Z RJ3 aw_fm aw_fd .null (fun q => s.heap.size ≤ q) s s.heap ∨ va_Z RJ3 aw_fm aw_fd (.ref fm) (fun q => s.heap.size ≤ q) s s.heap) := by
    rcases ax_Zf hts hgv with h | ⟨t, h⟩
    · exact ⟨0, Or.inl h⟩
    · exact ⟨t, Or.inr h⟩
  obtain ⟨fm, hfm⟩ := hZ
  refine ⟨(gc, gt, ax_ad s.heap.size adK adV t0 t1 t2 fm b, s.heap.size), rfl, rfl, ⟨hc, ht, ax_Kn hts, ⟨va_AO.of (hts (.arrayOver (.object RX3)) (by decide +kernel)), va_AO.of (hts (.arrayOver (.object RX1)) (by decide +kernel))⟩, fun i hi => ?_⟩, ⟨⟨fun i hi => ?_, fun i j hi hj h => ?_⟩, fun t h => ?_, ax_Zc hts hgv, hfm⟩, fun c h => ax_ad_z h⟩
  · show vk_R (aw_so i) (aw_si i) (aw_sx i) (ax_ad s.heap.size adK adV t0 t1 t2 fm b (1000 + i)) s
    rw [ax_ad_k hi]
    exact ax_Ks hts hK i hi
  · have e := hS.1 i hi
    rw [← ax_ad_k (z := s.heap.size) (adK := adK) (adV := adV) (t0 := t0) (t1 := t1) (t2 := t2) (fm := fm) (b := b) hi, ← ax_ad_v (z := s.heap.size) (adK := adK) (adV := adV) (t0 := t0) (t1 := t1) (t2 := t2) (fm := fm) (b := b) hi] at e
    exact e
  · have h' : ax_ad s.heap.size adK adV t0 t1 t2 fm b (1000 + i) = ax_ad s.heap.size adK adV t0 t1 t2 fm b (1000 + j) := h
    rw [ax_ad_k hi, ax_ad_k hj] at h'
    exact hS.2 i j hi hj h'
  · match t, h with
    | 0, _ => exact ⟨a0, z0⟩
    | 1, _ => exact ⟨a1, z1⟩
    | 2, _ => exact ⟨a2, z2⟩
    | t + 3, h => exact absurd h (by omega)
end AXS3
set_option maxRecDepth 100000 in
theorem ax_start {p : Program} {e : Env} {s : State} {m : MethodId} {below : List Frame} {meth : Method} {c : Code} (l : Launch) {b L : Nat} {xs : Nat → Int32} (C0 : lw_At p s m meth c b L xs) {n : Nat} {h : aw_H} (hF : FL_law n L xs aw_h0 = some (1, h)) : W p l e room_1 s m #[Value.ref b] below meth c s.heap [] 0 0 (lw_Z below #[Value.ref b] s) (entryFrame m ([Value.ref b] : List Value).toArray 4) := by
  obtain ⟨hx, hb, hr, hml, hown, hts, hX, hbl, hlocks, hgv⟩ := C0
  obtain ⟨g, hg, hgb, gK, gO, gB⟩ := ax_g hts hgv
  have hT := ax_SC hX hbl
  have hl := lv_entry ([.ref b]) (n := 4) (Nat.le_of_ble_eq_true rfl)
  rw [lg_entry_eq]
  generalize (lg_sl ([.ref b]) ++ List.replicate (4 - (lg_sl ([.ref b])).length) Slot.unset).toArray = la at hl ⊢
  have hl : lv_has la 4 [(0, .ref b)] := hl
  have C : aw_C (p, l, e, room_1, s, m, #[Value.ref b], below, meth, c, lw_Z below #[Value.ref b] s, g) RL cL_law 4 10 600000 7302250 :=
    ⟨hx, hb, hml, hown, ax_bg hts, hlocks, ⟨Nat.le_of_eq hg, gK, gO, gB⟩, ⟨Nat.le_of_ble_eq_true rfl, Nat.le_of_ble_eq_true rfl, rfl, rfl⟩⟩
  have SC : aw_SC (p, l, e, room_1, s, m, #[Value.ref b], below, meth, c, lw_Z below #[Value.ref b] s, g) L xs := by
    show va_T .int (g.2.2.1 1400) L (fun j => .int (xs j)) (fun q => g.2.2.2 ≤ q) s s.heap
    rw [hgb, hg]
    exact hT
  have K := ctL_start n L xs (1, h) hF C SC (fun pc ls hd => ax_KR hg hx hb hr hlocks hd)
  refine K s.heap [] la ⟨?_, fun c kd h => ?_⟩ (Nat.zero_le _) va_S.rf ?_
  · show s.heap.size = g.2.2.2 + 0
    rw [hg]; rfl
  · have h' : ([] : aw_L)[c]? = some kd := h
    simp at h'
  · show lv_has la 4 [(0, .ref (g.2.2.1 1400))]
    rw [hgb]
    exact hl

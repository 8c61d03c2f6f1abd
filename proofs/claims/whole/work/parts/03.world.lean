/-! THE WORLD BY NUMBERS: a cell is its number (the order in which it was made); h holds the ints and longs of each cell, r the references; L what each cell is -/
abbrev aw_H : Type := (Nat → Nat → Int32) × (Nat → Nat → Int64)
abbrev aw_R : Type := Nat → Nat → Option Nat
abbrev aw_L : Type := List (Nat × Nat)
abbrev aw_G : Type := va_G × (Nat → ClassId) × (Nat → Nat) × Nat
/-- what kind of field: 0 int, 1 long, 2 reference, 3 boolean -/
def aw_tks : List (List Nat) := [[1, 0], [2, 0, 0], [2, 0, 0, 0, 0, 2, 0, 0], [2, 2, 2, 0, 1, 1], [2, 0, 0, 0], [2, 2, 3, 2, 2, 2, 2, 2], [2, 2, 3, 0, 0, 0, 2, 2, 2, 2, 2, 2, 0, 0, 0, 2, 2, 2]]
def aw_tk (ci k : Nat) : Nat := (aw_tks.getD ci []).getD k 0
def aw_ty (t : Nat) : FieldType := match t with
  | 1 => .int
  | 2 => .long
  | 3 => .object RX3
  | _ => .object RX1
def aw_tv (ad : Nat → Nat) (v : Value) : Value := match v with
  | .ref c => .ref (ad c)
  | w => w
theorem aw_tv_cat (ad : Nat → Nat) (v : Value) : (aw_tv ad v).category = v.category := by cases v <;> rfl
def aw_fv (ad : Nat → Nat) (r : aw_R) (h : aw_H) (c ci k : Nat) : Value := match aw_tk ci k with
  | 1 => .long (h.2 c k)
  | 2 => va_rf ((r c k).map ad)
  | _ => .int (h.1 c k)
def aw_cell (g : aw_G) (r : aw_R) (h : aw_H) (H : Heap) (c : Nat) (kd : Nat × Nat) : Prop := match kd.1 with
  | 0 => ∃ q : vw_C, vwCl[kd.2]? = some q ∧ t_OB (g.2.2.1 c) (g.1.1 kd.2) q.2.2 (g.1.2 kd.2) H (fun k => aw_fv g.2.2.1 r h c kd.2 k)
  | 1 => H[g.2.2.1 c]? = some (arrV (g.2.1 1) kd.2 (fun j => .int (h.1 c j)))
  | 2 => H[g.2.2.1 c]? = some (arrV (g.2.1 2) kd.2 (fun j => .long (h.2 c j)))
  | t + 3 => H[g.2.2.1 c]? = some (arrV (g.2.1 (t + 3)) kd.2 (fun j => va_rf ((r c j).map g.2.2.1)))
theorem aw_cell.to {g : aw_G} {r r' : aw_R} {h h' : aw_H} {H H' : Heap} {c : Nat} {kd : Nat × Nat} (k : aw_cell g r h H c kd) (e : H'[g.2.2.1 c]? = H[g.2.2.1 c]?) (e1 : h'.1 c = h.1 c) (e2 : h'.2 c = h.2 c) (e3 : r' c = r c) : aw_cell g r' h' H' c kd := by
  obtain ⟨t, n⟩ := kd
  match t, k with
  | 0, k =>
    obtain ⟨q, h1, h2⟩ := k
    refine ⟨q, h1, (h2.kept e).to (fun j _ => ?_)⟩
    simp only [aw_fv, e1, e2, e3]
  | 1, k =>
    show H'[g.2.2.1 c]? = _
    rw [e, e1]; exact k
  | 2, k =>
    show H'[g.2.2.1 c]? = _
    rw [e, e2]; exact k
  | t + 3, k =>
    show H'[g.2.2.1 c]? = _
    rw [e, e3]; exact k
theorem aw_cell.lt {g : aw_G} {r : aw_R} {h : aw_H} {H : Heap} {c : Nat} {kd : Nat × Nat} (k : aw_cell g r h H c kd) : g.2.2.1 c < H.size := by
  obtain ⟨t, n⟩ := kd
  match t, k with
  | 0, k =>
    obtain ⟨q, h1, cell, h2, -⟩ := k
    exact (Array.getElem?_eq_some_iff.mp h2).1
  | 1, k => exact (Array.getElem?_eq_some_iff.mp (show H[g.2.2.1 c]? = _ from k)).1
  | 2, k => exact (Array.getElem?_eq_some_iff.mp (show H[g.2.2.1 c]? = _ from k)).1
  | t + 3, k => exact (Array.getElem?_eq_some_iff.mp (show H[g.2.2.1 c]? = _ from k)).1
def aw_W (g : aw_G) (L : aw_L) (r : aw_R) (h : aw_H) (H : Heap) : Prop := H.size = g.2.2.2 + L.length ∧ ∀ (c : Nat) (kd : Nat × Nat), L[c]? = some kd → aw_cell g r h H c kd
/-- which addresses are the world's own -/
def aw_A (g : aw_G) : Nat → Prop := fun q => g.2.2.2 ≤ q
def aw_B (g : aw_G) : Prop := ∀ c : Nat, c < 1000 → g.2.2.1 c = g.2.2.2 + c
/-! the constants: Strings 1000 .., their bytes 1100 .., tables 1200 .., the formatter 1300, the script 1400 -/
def aw_so (i : Nat) : String := if i = 6 then RX6 else RX5
def aw_si (i : Nat) : Nat := [308, 309, 310, 311, 313, 315, 40].getD i 0
def aw_sx (i : Nat) : String := ["part", "gear", "shaft", "phase", "amp", "", "part gear shaft phase amp "].getD i ""
def aw_sb : List (List Int32) := [[112, 97, 114, 116], [103, 101, 97, 114], [115, 104, 97, 102, 116], [112, 104, 97, 115, 101], [97, 109, 112], [], [112, 97, 114, 116, 32, 103, 101, 97, 114, 32, 115, 104, 97, 102, 116, 32, 112, 104, 97, 115, 101, 32, 97, 109, 112, 32]]
def aw_sl : List Nat := [4, 4, 5, 5, 3, 0, 26]
def aw_ro (t j : Nat) : Int32 := (([[5, 9, 999, 1023], [0, 0, 0, 0, 1, 3], [4, 3, 1, 2, 2]] : List (List Int32)).getD t []).getD j 0
def aw_rl (t : Nat) : Nat := [4, 6, 5].getD t 0
def aw_rn (t : Nat) : String := ["MOST", "KIND_ABOVE", "NUMBERS"].getD t ""
def aw_fm : String := "SIOOBE_FORMATTER"
def aw_fd : String := "Ljava/util/function/BiFunction;"
def aw_K (g : aw_G) (U : State) : Prop :=
  (∀ (ci : Nat) (q : vw_C), vwCl[ci]? = some q → u_Kn U q.1 q.2.1 q.2.2 (g.1.1 ci) (g.1.2 ci)) ∧
  (∀ t : Nat, 1 ≤ t → t ≤ 4 → ArrOfT U (g.2.1 t) (aw_ty t) ∧ va_RA U (g.2.1 t) (aw_ty t)) ∧
  (∀ w ∈ NW, va_Nw w U) ∧ (va_AO RX3 U ∧ va_AO RX1 U) ∧ (∀ i : Nat, i < 7 → vk_R (aw_so i) (aw_si i) (aw_sx i) (g.2.2.1 (1000 + i)) U)
theorem aw_nw_case {P : Cond → Prop} {w : Cond} (hw : w ∈ NW) (h1 : ∀ a i x z, P (.methodLinkNest a i x z)) (h2 : ∀ a i b n d z, P (.fieldLinkNest a i b n d z)) : P w := by
  simp only [NW, List.mem_cons, List.not_mem_nil, or_false] at hw
  rcases hw with rfl | rfl | rfl | rfl | rfl | rfl | rfl | rfl | rfl | rfl | rfl | rfl <;> first | exact h1 _ _ _ _ | exact h2 _ _ _ _ _ _
theorem aw_K.warm {g : aw_G} {s U : State} (hW : s.WarmedH U.vm) (h : aw_K g s) : aw_K g U := by
  obtain ⟨h1, h2, h3, ⟨h4, h5⟩, h6⟩ := h
  have hal := hW.alike
  refine ⟨fun ci q hq => u_Kn_moved hal (h1 ci q hq), fun t a b => ⟨arrOfT_moved hal (h2 t a b).1, (h2 t a b).2.moved hal⟩, fun w hw => ?_, ⟨h4.moved hal, h5.moved hal⟩, fun i hi => (h6 i hi).warm hW⟩
  have hz := h3 w hw
  exact aw_nw_case (P := fun w => va_Nw w s → va_Nw w U) hw (fun a i x z hz => va_Nw.warmM hW hz) (fun a i b n d z hz => va_Nw.warmF hW hz) hz
theorem aw_K.same {g : aw_G} {u U : State} (hv : u.vm = U.vm) (h : aw_K g u) : aw_K g U := by
  obtain ⟨h1, h2, h3, ⟨h4, h5⟩, h6⟩ := h
  have hal : u.vm.Alike U.vm := by rw [← hv]; exact Vm.Alike.refl _
  refine ⟨fun ci q hq => u_Kn_moved hal (h1 ci q hq), fun t a b => ⟨arrOfT_moved hal (h2 t a b).1, (h2 t a b).2.moved hal⟩, fun w hw => ?_, ⟨h4.moved hal, h5.moved hal⟩, fun i hi => (h6 i hi).same hv.symm⟩
  have hz := h3 w hw
  exact aw_nw_case (P := fun w => va_Nw w u → va_Nw w U) hw (fun a i x z hz => va_Nw.same rfl hv hz) (fun a i b n d z hz => va_Nw.same rfl hv hz) hz
def aw_O (g : aw_G) (U : State) (H : Heap) : Prop :=
  vk_S 7 aw_sl aw_sb (fun i => g.2.2.1 (1000 + i)) (fun i => g.2.2.1 (1100 + i)) (aw_A g) U H ∧
  (∀ t : Nat, t < 3 → va_T .int (g.2.2.1 (1200 + t)) (aw_rl t) (fun j => .int (aw_ro t j)) (aw_A g) U H ∧ va_Z RX5 (aw_rn t) "[I" (.ref (g.2.2.1 (1200 + t))) (aw_A g) U H) ∧
  va_Z RJ0 "COMPACT_STRINGS" "Z" (.int 1) (aw_A g) U H ∧ (va_Z RJ3 aw_fm aw_fd .null (aw_A g) U H ∨ va_Z RJ3 aw_fm aw_fd (.ref (g.2.2.1 1300)) (aw_A g) U H)
theorem aw_O.to {g : aw_G} {u U : State} {H H' : Heap} (hvm : u.vm.Alike U.vm) (hq : ∀ a : Nat, a < H.size → ¬ aw_A g a → H'[a]? = H[a]?) (h : aw_O g u H) : aw_O g U H' := by
  obtain ⟨h1, h2, h3, h4⟩ := h
  refine ⟨vk_S.moved hvm (h1.kept hq), fun t ht => ⟨va_T.moved hvm ((h2 t ht).1.kept hq), va_Z.moved hvm ((h2 t ht).2.kept hq)⟩, va_Z.moved hvm (h3.kept hq), ?_⟩
  rcases h4 with h4 | h4
  · exact Or.inl (va_Z.moved hvm (h4.kept hq))
  · exact Or.inr (va_Z.moved hvm (h4.kept hq))
/-- a state with that world -/
def aw_S (g : aw_G) (L : aw_L) (r : aw_R) (h : aw_H) (U : State) : Prop := aw_W g L r h U.heap ∧ aw_K g U ∧ aw_O g U U.heap ∧ aw_B g ∧ L.length ≤ 1000
/-! locals by their places; a retAddr stands where nothing is known -/
def aw_j (v : Value) : Bool := match v with
  | .retAddr _ => true
  | _ => false
def aw_lv (ad : Nat → Nat) : Nat → List Value → List (Nat × Value)
  | _, [] => []
  | n, v :: t => bif aw_j v then aw_lv ad (n + 1) t else (n, aw_tv ad v) :: aw_lv ad (n + 1) t
theorem aw_lv_mem {ad : Nat → Nat} {q : Nat × Value} : ∀ {ls : List Value} {n : Nat}, q ∈ aw_lv ad n ls ↔ ∃ (j : Nat) (v : Value), q.1 = n + j ∧ ls[j]? = some v ∧ aw_j v = false ∧ q.2 = aw_tv ad v
  | [], n => by simp [aw_lv]
  | v :: t, n => by
    rw [aw_lv]
    have ih := aw_lv_mem (ad := ad) (q := q) (ls := t) (n := n + 1)
    constructor
    · intro hq
      cases hj : aw_j v with
      | true =>
        rw [hj] at hq
        obtain ⟨j, w, e1, e2, e3⟩ := ih.mp hq
        exact ⟨j + 1, w, by omega, by simpa using e2, e3⟩
      | false =>
        rw [hj] at hq
        rcases List.mem_cons.mp hq with rfl | hq
        · exact ⟨0, v, rfl, rfl, hj, rfl⟩
        · obtain ⟨j, w, e1, e2, e3⟩ := ih.mp hq
          exact ⟨j + 1, w, by omega, by simpa using e2, e3⟩
    · rintro ⟨j, w, e1, e2, e3, e4⟩
      cases j with
      | zero =>
        simp at e2
        subst e2
        rw [e3]
        exact List.mem_cons.mpr (Or.inl (Prod.ext (by simpa using e1) e4))
      | succ j =>
        have h1 : q ∈ aw_lv ad (n + 1) t := ih.mpr ⟨j, w, by omega, by simpa using e2, e3, e4⟩
        cases aw_j v with
        | true => exact h1
        | false => exact List.mem_cons.mpr (Or.inr h1)
theorem aw_ld {ad : Nat → Nat} {la : Array Slot} {nL : Nat} {ls : List Value} {i : Nat} {v w : Value} (h : lv_has la nL (aw_lv ad 0 ls)) (hi : ls[i]? = some v) (hj : aw_j v = false) (hw : aw_tv ad v = w) : la[i]? = some (.val w) :=
  h.2.2 (i, w) (aw_lv_mem.mpr ⟨i, v, by simp, hi, hj, hw.symm⟩)
/-- no value of two slots stands there -/
def aw_n2 (v : Value) : Bool := match v with
  | .long _ => false
  | .double _ => false
  | _ => true
theorem aw_n2_cat {v : Value} (h : aw_n2 v = true) : v.category ≠ 2 := by cases v <;> simp_all [aw_n2, Value.category]
def aw_p2 (ls : List Value) : Nat → Bool
  | 0 => true
  | i + 1 => match ls[i]? with
    | some v => aw_n2 v
    | none => true
theorem lv_mono {la : Array Slot} {nL : Nat} {l l' : List (Nat × Value)} (h : lv_has la nL l) (hs : ∀ q ∈ l', q ∈ l) : lv_has la nL l' := ⟨h.1, h.2.1, fun q hq => h.2.2 q (hs q hq)⟩
theorem aw_st1 {ad : Nat → Nat} {la : Array Slot} {nL i : Nat} {ls : List Value} {v w : Value} (hp : aw_p2 ls i = true) (hw : aw_tv ad v = w) (h : lv_has la nL ((i, w) :: (aw_lv ad 0 ls).filter (fun q => !(q.1 == i) && !(q.1 + 1 == i && q.2.category == 2)))) : lv_has la nL (aw_lv ad 0 (ls.set i v)) := by
  refine lv_mono h fun q hq => ?_
  obtain ⟨j, u, e1, e2, e3, e4⟩ := aw_lv_mem.mp hq
  rw [Nat.zero_add] at e1
  by_cases hji : j = i
  · subst hji
    have hlt : j < ls.length := by
      have := (List.getElem?_eq_some_iff.mp e2).1
      simpa using this
    rw [List.getElem?_set_self hlt] at e2
    cases e2
    exact List.mem_cons.mpr (Or.inl (Prod.ext e1 (e4.trans hw)))
  · rw [List.getElem?_set_ne (Ne.symm hji)] at e2
    refine List.mem_cons.mpr (Or.inr (List.mem_filter.mpr ⟨aw_lv_mem.mpr ⟨j, u, by simpa using e1, e2, e3, e4⟩, ?_⟩))
    have h1 : (q.1 == i) = false := by rw [e1]; simpa using hji
    rw [h1]
    by_cases h2 : j + 1 = i
    · subst h2
      have h3 : aw_n2 u = true := by simpa [aw_p2, e2] using hp
      have h4 : q.2.category ≠ 2 := by rw [e4, aw_tv_cat]; exact aw_n2_cat h3
      simp [h4]
    · have h5 : ¬ q.1 + 1 = i := by rw [e1]; exact h2
      simp [h5]
theorem aw_st2 {ad : Nat → Nat} {la : Array Slot} {nL i z : Nat} {ls : List Value} {v w : Value} (hp : aw_p2 ls i = true) (hw : aw_tv ad v = w) (h : lv_has la nL ((i, w) :: (aw_lv ad 0 ls).filter (fun q => !(q.1 == i) && (!(q.1 == i + 1) && !(q.1 + 1 == i && q.2.category == 2))))) : lv_has la nL (aw_lv ad 0 ((ls.set i v).set (i + 1) (.retAddr z))) := by
  refine lv_mono h fun q hq => ?_
  obtain ⟨j, u, e1, e2, e3, e4⟩ := aw_lv_mem.mp hq
  rw [Nat.zero_add] at e1
  by_cases hj1 : j = i + 1
  · subst hj1
    have hlt : i + 1 < (ls.set i v).length := by
      have := (List.getElem?_eq_some_iff.mp e2).1
      simpa using this
    rw [List.getElem?_set_self hlt] at e2
    cases e2
    cases e3
  · rw [List.getElem?_set_ne (Ne.symm hj1)] at e2
    by_cases hji : j = i
    · subst hji
      have hlt : j < ls.length := by
        have := (List.getElem?_eq_some_iff.mp e2).1
        simpa using this
      rw [List.getElem?_set_self hlt] at e2
      cases e2
      exact List.mem_cons.mpr (Or.inl (Prod.ext e1 (e4.trans hw)))
    · rw [List.getElem?_set_ne (Ne.symm hji)] at e2
      refine List.mem_cons.mpr (Or.inr (List.mem_filter.mpr ⟨aw_lv_mem.mpr ⟨j, u, by simpa using e1, e2, e3, e4⟩, ?_⟩))
      have h1 : (q.1 == i) = false := by rw [e1]; simpa using hji
      have h6 : (q.1 == i + 1) = false := by rw [e1]; simpa using hj1
      rw [h1, h6]
      by_cases h2 : j + 1 = i
      · subst h2
        have h3 : aw_n2 u = true := by simpa [aw_p2, e2] using hp
        have h4 : q.2.category ≠ 2 := by rw [e4, aw_tv_cat]; exact aw_n2_cat h3
        simp [h4]
      · have h5 : ¬ q.1 + 1 = i := by rw [e1]; exact h2
        simp [h5]
/-- the locals at a method's start: its arguments, each at its place; the rest unknown -/
def aw_al : List Value → List Value
  | [] => []
  | v :: t => bif aw_n2 v then v :: aw_al t else v :: .retAddr 0 :: aw_al t
theorem aw_al_mem {ad : Nat → Nat} {N : Nat} {q : Nat × Value} : ∀ {as : List Value} {n : Nat}, q ∈ aw_lv ad n (aw_al as ++ List.replicate N (.retAddr 0)) → q ∈ lv_args n (as.map (aw_tv ad))
  | [], n, hq => by
    obtain ⟨j, v, e1, e2, e3, e4⟩ := aw_lv_mem.mp hq
    have hm := List.mem_of_getElem? e2
    rw [aw_al, List.nil_append] at hm
    rw [(List.mem_replicate.mp hm).2] at e3
    cases e3
  | v :: t, n, hq => by
    rw [List.map_cons, lv_args]
    rw [aw_al] at hq
    cases hv : aw_n2 v with
    | true =>
      rw [hv] at hq
      have hc : ¬ (aw_tv ad v).category = 2 := by rw [aw_tv_cat]; exact aw_n2_cat hv
      rw [if_neg hc]
      have hq' : q ∈ (bif aw_j v then aw_lv ad (n + 1) (aw_al t ++ List.replicate N (.retAddr 0)) else (n, aw_tv ad v) :: aw_lv ad (n + 1) (aw_al t ++ List.replicate N (.retAddr 0))) := hq
      cases hj : aw_j v with
      | true =>
        rw [hj] at hq'
        exact List.mem_cons.mpr (Or.inr (aw_al_mem hq'))
      | false =>
        rw [hj] at hq'
        rcases List.mem_cons.mp hq' with rfl | hq'
        · exact List.mem_cons_self
        · exact List.mem_cons.mpr (Or.inr (aw_al_mem hq'))
    | false =>
      rw [hv] at hq
      have hc : (aw_tv ad v).category = 2 := by
        rw [aw_tv_cat]
        cases v <;> simp_all [aw_n2, Value.category]
      rw [if_pos hc]
      have hj : aw_j v = false := by cases v <;> simp_all [aw_n2, aw_j]
      have hq' : q ∈ (bif aw_j v then aw_lv ad (n + 1) (.retAddr 0 :: aw_al t ++ List.replicate N (.retAddr 0)) else (n, aw_tv ad v) :: aw_lv ad (n + 1) (.retAddr 0 :: aw_al t ++ List.replicate N (.retAddr 0))) := hq
      rw [hj] at hq'
      rcases List.mem_cons.mp hq' with rfl | hq'
      · exact List.mem_cons_self
      · exact List.mem_cons.mpr (Or.inr (aw_al_mem (show q ∈ aw_lv ad (n + 2) _ from hq')))

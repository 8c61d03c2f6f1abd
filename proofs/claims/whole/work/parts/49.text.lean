/-! the whole text -/
def textV (B : Nat → Nat) (Z : Nat) : Nat → Nat → List (Nat × List Nat) ⊕ Nat
  | 0, k => .inr k
  | m + 1, k => match clauV B Z k with
    | .inr p => .inr p
    | .inl q => if sV B Z (frV B Z q.2) = 4 then (match textV B Z m (toV B Z q.2) with
      | .inl cs => .inl (q.1 :: cs)
      | .inr p => .inr p) else if sV B Z (frV B Z q.2) = 0 then .inl [q.1] else .inr (frV B Z q.2)
def flC : List (Nat × List Nat) → List Nat
  | [] => []
  | c :: cs => c.1 :: c.2 ++ flC cs
def Tx5 (H : aw_H) (l0 : List Nat) (cn : Nat) (r : Int32) (x : List (Nat × List Nat) ⊕ Nat) : Prop := match x with
  | .inl cs => r = -1 ∧ Sd H (l0 ++ flC cs) ∧ H.1 54 7 = o3 (cn + cs.length)
  | .inr p => r = o3 p
def Tx6 (r : Int32) (x : List (Nat × List Nat) ⊕ Nat) : Prop := match x with
  | .inl _ => r = 0
  | .inr p => r = -1 - o3 p
section TXT
variable {B : Nat → Nat} {Z : Nat}
theorem ff5 {n : Nat} (bo : Bok B Z) (hn : 300 ≤ n) : ∀ (m k i : Nat) (l0 : List Nat) (cn n1' : Nat) (h : aw_H), Tp h B Z → h.1 54 4 = o3 k → k ≤ Z → Sd h l0 → l0.length ≤ k → h.1 54 7 = o3 cn → i ≤ k → Z - k < m → m < n1' → ∃ (r : Int32) (H : aw_H), ((FX2_readClause n h).bind (fun q => aw_loop (BX2_findFault_22 n) n1' (q.1, o3 i, q.2))) = some (r, H) ∧ Same (fun q => q = 54 ∨ q = 56) h H ∧ Tp H B Z ∧ Tx5 H l0 cn r (textV B Z m k) := by
  have hZ := bo.1
  intro m
  induction m with
  | zero => intro k i l0 cn n1' h _ _ _ _ _ _ _ hm; omega
  | succ m ih =>
    intro k i l0 cn n1' h t e4 hk s hl hc hi hm hn1
    obtain ⟨n1', rfl⟩ : ∃ q, n1' = q + 1 := ⟨n1' - 1, by omega⟩
    obtain ⟨fl, H, g1, g2, g3, g4⟩ := clause5 (n := n) bo t e4 hk s hl hc hn
    have cp := clau_prop (B := B) bo hk
    rw [g1]
    simp only [Option.bind_some]
    rw [textV]
    revert g4 cp
    cases clauV B Z k with
    | inr p =>
      rintro ⟨b1, b2⟩ cp
      refine ⟨o3 p, H, ?_, g2, g3, rfl⟩
      rw [aw_loop, show BX2_findFault_22 n (fl, o3 i, H) = some (Sum.inr (o3 p, H)) by
        unfold BX2_findFault_22
        simp only [b1, b2, if_true]
        split <;> rfl]
    | inl q =>
      rintro ⟨b1, b2, b3, b4⟩ ⟨c1, c2, c3, c4, c5⟩
      obtain ⟨a1, a2, a3⟩ := fr_prop (B := B) c4
      obtain ⟨p1, p2, p3, p4⟩ := to_prop (B := B) c4
      obtain ⟨H2, d1, d2, d3, d4, d5, d6, d7⟩ := next5 (n := n) bo g3 b2 c4 hn
      have s5 := sV_le (B := B) (Z := Z) (frV B Z q.2)
      have sm : Same (fun q => q = 54 ∨ q = 56) h H2 := g2.trans (d2.mono (fun q hq => Or.inl hq))
      have i60 : ¬ (60 : Int32) ≤ o3 i := by rw [n60, o3_le (by omega) (by omega)]; omega
      have s2 : Sd H2 (l0 ++ q.1.1 :: q.1.2) := b3.fr (d6 6 (by omega) (by omega) (by omega)) (d2 56 (by omega)).1
      have e7 : H2.1 54 7 = o3 (cn + 1) := by rw [d6 7 (by omega) (by omega) (by omega)]; exact b4
      by_cases h4 : sV B Z (frV B Z q.2) = 4
      · have e44 : o3 (sV B Z (frV B Z q.2)) = 4 := by rw [h4]; rfl
        have := p3 (by omega)
        obtain ⟨r, H3, z1, z2, z3, z4⟩ := ih (toV B Z q.2) (i + 1) (l0 ++ q.1.1 :: q.1.2) (cn + 1) n1' H2 d7 d5 p2 s2 (by simp; omega) e7 (by omega) (by omega) (by omega)
        refine ⟨r, H3, ?_, sm.trans z2, z3, ?_⟩
        · revert z1
          cases hR : FX2_readClause n H2 with
          | none => intro z1; cases z1
          | some q5 =>
            intro z1
            rw [aw_loop, show BX2_findFault_22 n (fl, o3 i, H) = some (Sum.inl (q5.1, o3 (i + 1), q5.2)) by
              unfold BX2_findFault_22
              rw [if_neg i60]
              simp only [b1, one_ne, if_false, d1, Option.bind_some]
              rw [if_pos e44, hR]
              simp only [Option.bind_some]
              rw [n1, o3_add]]
            exact z1
        · simp only
          rw [if_pos h4]
          revert z4
          cases textV B Z m (toV B Z q.2) with
          | inl cs =>
            rintro ⟨y1, y2, y3⟩
            refine ⟨y1, ?_, ?_⟩
            · rw [List.append_assoc] at y2
              exact y2
            · rw [y3, List.length_cons, show cn + 1 + cs.length = cn + (cs.length + 1) by omega]
          | inr p => exact fun b => b
      · have e44 : ¬ o3 (sV B Z (frV B Z q.2)) = 4 := by rw [n4, o3_eq (by omega) (by omega)]; exact h4
        by_cases h0 : sV B Z (frV B Z q.2) = 0
        · refine ⟨-1, H2, ?_, sm, d7, ?_⟩
          · rw [aw_loop, show BX2_findFault_22 n (fl, o3 i, H) = some (Sum.inr (-1, H2)) by
              unfold BX2_findFault_22
              rw [if_neg i60]
              simp only [b1, one_ne, if_false, d1, Option.bind_some]
              rw [if_neg e44, d3, h0, if_pos (show o3 0 = 0 from rfl)]]
          · simp only
            rw [if_neg h4, if_pos h0]
            refine ⟨rfl, ?_, e7⟩
            show Sd H2 (l0 ++ (q.1.1 :: q.1.2 ++ []))
            rw [List.append_nil]; exact s2
        · refine ⟨o3 (frV B Z q.2), H2, ?_, sm, d7, ?_⟩
          · rw [aw_loop, show BX2_findFault_22 n (fl, o3 i, H) = some (Sum.inr (o3 (frV B Z q.2), H2)) by
              unfold BX2_findFault_22
              rw [if_neg i60]
              simp only [b1, one_ne, if_false, d1, Option.bind_some]
              rw [if_neg e44, d3, if_neg (show ¬ o3 (sV B Z (frV B Z q.2)) = 0 by rw [n0, o3_eq (by omega) (by omega)]; exact h0), d4]]
          · simp only
            rw [if_neg h4, if_neg h0]
            rfl
theorem sign6 (bo : Bok B Z) {k : Nat} : (byV B Z k = 59) ↔ sV B Z k = 4 := by
  have hZ := bo.1
  have e1 : (byV B Z k = 59) ↔ (k < Z ∧ B k = 59) := by_eq bo (c := 59) (by omega)
  rw [e1]
  unfold sV
  repeat' split
  all_goals first | omega | (simp; omega)
theorem goesF {n : Nat} (bo : Bok B Z) (hn : 300 ≤ n) : ∀ (m k n1' : Nat) (h : aw_H), Tm h B Z → h.1 71 13 = o3 k → k ≤ Z → Z - k < m → m < n1' → ∃ (r : Int32) (H : aw_H), aw_loop (BX6_goes_7 n 0) n1' (0, h) = some (r, H) ∧ Same (fun q => q = 71 ∨ q = 80) h H ∧ Tm H B Z ∧ H.1 71 2 = h.1 71 2 ∧ Tx6 r (textV B Z m k) := by
  have hZ := bo.1
  intro m
  induction m with
  | zero => intro k n1' h _ _ _ hm; omega
  | succ m ih =>
    intro k n1' h t e4 hk hm hn1
    obtain ⟨n1', rfl⟩ : ∃ q, n1' = q + 1 := ⟨n1' - 1, by omega⟩
    obtain ⟨an, H, g1, g2, g3, g5, g4⟩ := clause6 (n := n) bo t e4 hk hn
    have cp := clau_prop (B := B) bo hk
    rw [textV]
    revert g4 cp
    cases clauV B Z k with
    | inr p =>
      rintro ⟨b1, b2⟩ cp
      refine ⟨-1 - o3 p, H, ?_, g2, g3, g5, rfl⟩
      rw [aw_loop, show BX6_goes_7 n 0 (0, h) = some (Sum.inr (-1 - o3 p, H)) by
        unfold BX6_goes_7
        rw [g1]
        simp only [Option.bind_some]
        rw [if_pos b1, b2]]
    | inl q =>
      rintro ⟨b1, b2, b3⟩ ⟨c1, c2, c3, c4, c5⟩
      obtain ⟨a1, a2, a3⟩ := fr_prop (B := B) c4
      obtain ⟨p1, p2, p3, p4⟩ := to_prop (B := B) c4
      have na : ¬ an = -1 := by rw [b1]; exact o3_ne_neg1 (by omega)
      have hend : (H.1 71 13 = H.1 71 12) ↔ sV B Z (frV B Z q.2) = 0 := by
        rw [b2, g3.1, o3_eq (by omega) (by omega), sV_end]; omega
      have bx := byte6 bo g3 (show frV B Z q.2 < 1000 by omega)
      by_cases h0 : sV B Z (frV B Z q.2) = 0
      · refine ⟨0, H, ?_, g2, g3, g5, ?_⟩
        · rw [aw_loop, show BX6_goes_7 n 0 (0, h) = some (Sum.inr (0, H)) by
            unfold BX6_goes_7
            rw [g1]
            simp only [Option.bind_some]
            rw [if_neg na, if_pos trivial, if_pos (hend.mpr h0)]
            rfl]
        · simp only
          rw [if_neg (by omega), if_pos h0]
          rfl
      · have hne : ¬ H.1 71 13 = H.1 71 12 := fun x => h0 (hend.mp x)
        by_cases h4 : sV B Z (frV B Z q.2) = 4
        · have := p3 (by omega)
          have hto : toV B Z q.2 = frV B Z q.2 + 1 := by unfold toV; rw [if_pos h4]
          obtain ⟨H2, hH2⟩ : ∃ H2, H2 = aw_sI H 71 13 (o3 (toV B Z q.2)) := ⟨_, rfl⟩
          have t2 : Tm H2 B Z := g3.fr (by rw [hH2, sI_nk (by omega)]) (by rw [hH2, sI_ne (by omega)])
          obtain ⟨r, H3, z1, z2, z3, z4, z5⟩ := ih (toV B Z q.2) n1' H2 t2 (by rw [hH2, sI_eq]) p2 (by omega) (by omega)
          refine ⟨r, H3, ?_, (g2.trans (show Same (fun q => q = 71 ∨ q = 80) H H2 by rw [hH2]; exact Same.sI (Or.inl rfl))).trans z2, z3, by rw [z4, hH2, sI_nk (by omega)]; exact g5, ?_⟩
          · rw [aw_loop, show BX6_goes_7 n 0 (0, h) = some (Sum.inl (0, H2)) by
              unfold BX6_goes_7
              rw [g1]
              simp only [Option.bind_some]
              rw [if_neg na, if_pos trivial, if_neg hne, b2, bx]
              simp only [Option.bind_some]
              rw [if_pos ((sign6 bo).mpr h4), hH2, hto, n1, o3_add]
              rfl]
            exact z1
          · simp only
            rw [if_pos h4]
            revert z5
            cases textV B Z m (toV B Z q.2) with
            | inl cs => exact fun b => b
            | inr p => exact fun b => b
        · refine ⟨-1 - o3 (frV B Z q.2), H, ?_, g2, g3, g5, ?_⟩
          · rw [aw_loop, show BX6_goes_7 n 0 (0, h) = some (Sum.inr (-1 - o3 (frV B Z q.2), H)) by
              unfold BX6_goes_7
              rw [g1]
              simp only [Option.bind_some]
              rw [if_neg na, if_pos trivial, if_neg hne, b2, bx]
              simp only [Option.bind_some]
              rw [if_neg (fun x => h4 ((sign6 bo).mp x))]]
          · simp only
            rw [if_neg h4, if_neg h0]
            rfl
/-! clauses are done -/
def op5 (n w : Nat) (a b c d : Int32) : aw_H → Option (Int32 × aw_H) := if w = 0 then FX5_part n a b c d else if w = 1 then FX5_gear n a b c else if w = 2 then FX5_shaft n a else if w = 3 then FX5_change a 3 b else FX5_change a 2 b
def op6 (w : Nat) (a b c d : Int32) : aw_H → Option (Int32 × aw_H) := if w = 0 then FX6_part a b c d else if w = 1 then FX6_gear a b c else if w = 2 then FX6_shaft a else if w = 3 then FX6_set a 2 b else FX6_set a 1 b
theorem set6 (a b : Int32) (t : Nat) (ht : t ≤ 2) (h : aw_H) : FX6_set a (o3 t) b h = FX6_becomes a (o3 (t + 1)) b h := by
  have h1 : ¬ FX6_isIn (o3 t).toInt64 0 2 = 0 := fun q => (isIn_o3 (lo := 0) (hi := 2) (by omega) (by omega) (by omega)).mp q (by omega)
  unfold FX6_set
  rw [if_neg h1, n1, o3_add]
  cases FX6_becomes a (o3 (t + 1)) b h <;> rfl
theorem p_op {n : Nat} {v : St} (ok : Ok v) (hn : 300 ≤ n) (w : Nat) (hw : w < 5) (a b c d : Int32) : Par v (op5 n w a b c d) (op6 w a b c d) := by
  rcases (show w = 0 ∨ w = 1 ∨ w = 2 ∨ w = 3 ∨ w = 4 by omega) with rfl | rfl | rfl | rfl | rfl
  · exact p_part ok hn a b c d
  · exact p_gear ok hn a b c
  · exact p_shaft ok hn a
  · obtain ⟨x, v', k1, k2, k3⟩ := p_change ok 3 (by omega) a b
    refine ⟨x, v', k1, k2, fun h md => ?_⟩
    obtain ⟨h2, y1, y2, y3⟩ := k3 h md
    exact ⟨h2, by rw [← y1]; exact set6 a b 2 (by omega) h, y2, y3⟩
  · obtain ⟨x, v', k1, k2, k3⟩ := p_change ok 2 (by omega) a b
    refine ⟨x, v', k1, k2, fun h md => ?_⟩
    obtain ⟨h2, y1, y2, y3⟩ := k3 h md
    exact ⟨h2, by rw [← y1]; exact set6 a b 1 (by omega) h, y2, y3⟩
theorem op5_c {n w : Nat} (hw : w < 5) {f g : Nat → Int32} (e : ∀ j, j < mnW w → f j = g j) : op5 n w (f 0) (f 1) (f 2) (f 3) = op5 n w (g 0) (g 1) (g 2) (g 3) := by
  rcases (show w = 0 ∨ w = 1 ∨ w = 2 ∨ w = 3 ∨ w = 4 by omega) with rfl | rfl | rfl | rfl | rfl
  · have e' : ∀ j, j < 4 → f j = g j := e
    rw [e' 0 (by omega), e' 1 (by omega), e' 2 (by omega), e' 3 (by omega)]
  · have e' : ∀ j, j < 3 → f j = g j := e
    show FX5_gear n (f 0) (f 1) (f 2) = FX5_gear n (g 0) (g 1) (g 2)
    rw [e' 0 (by omega), e' 1 (by omega), e' 2 (by omega)]
  · have e' : ∀ j, j < 1 → f j = g j := e
    show FX5_shaft n (f 0) = FX5_shaft n (g 0)
    rw [e' 0 (by omega)]
  · have e' : ∀ j, j < 2 → f j = g j := e
    show FX5_change (f 0) 3 (f 1) = FX5_change (g 0) 3 (g 1)
    rw [e' 0 (by omega), e' 1 (by omega)]
  · have e' : ∀ j, j < 2 → f j = g j := e
    show FX5_change (f 0) 2 (f 1) = FX5_change (g 0) 2 (g 1)
    rw [e' 0 (by omega), e' 1 (by omega)]
theorem op6_c {w : Nat} (hw : w < 5) {f g : Nat → Int32} (e : ∀ j, j < mnW w → f j = g j) : op6 w (f 0) (f 1) (f 2) (f 3) = op6 w (g 0) (g 1) (g 2) (g 3) := by
  rcases (show w = 0 ∨ w = 1 ∨ w = 2 ∨ w = 3 ∨ w = 4 by omega) with rfl | rfl | rfl | rfl | rfl
  · have e' : ∀ j, j < 4 → f j = g j := e
    rw [e' 0 (by omega), e' 1 (by omega), e' 2 (by omega), e' 3 (by omega)]
  · have e' : ∀ j, j < 3 → f j = g j := e
    show FX6_gear (f 0) (f 1) (f 2) = FX6_gear (g 0) (g 1) (g 2)
    rw [e' 0 (by omega), e' 1 (by omega), e' 2 (by omega)]
  · have e' : ∀ j, j < 1 → f j = g j := e
    show FX6_shaft (f 0) = FX6_shaft (g 0)
    rw [e' 0 (by omega)]
  · have e' : ∀ j, j < 2 → f j = g j := e
    show FX6_set (f 0) 2 (f 1) = FX6_set (g 0) 2 (g 1)
    rw [e' 0 (by omega), e' 1 (by omega)]
  · have e' : ∀ j, j < 2 → f j = g j := e
    show FX6_set (f 0) 1 (f 1) = FX6_set (g 0) 1 (g 1)
    rw [e' 0 (by omega), e' 1 (by omega)]
theorem said5 {h : aw_H} {F : List Nat} {p : Nat} (s : Sd h F) (hF : F.length ≤ 60) (hp : p < 1000) : FX2_saidAt (o3 p) h = some (o3 (F.getD p 0)) := by
  unfold FX2_saidAt
  rw [if_neg (show ¬ o3 p < 0 by rw [n0, o3_lt (by omega) (by omega)]; omega), s.1]
  by_cases e : p < F.length
  · rw [if_neg (by rw [o3_le (by omega) (by omega)]; omega), if_pos ((o3_inb (by omega)).mpr (by omega)), o3_clamp (by omega), s.2 p e]
  · rw [if_pos (by rw [o3_le (by omega) (by omega)]; omega), List.getD_eq_getElem?_getD, List.getElem?_eq_none (by omega)]; rfl
theorem do5 {n w p : Nat} {h : aw_H} {F : List Nat} (s : Sd h F) (hF : F.length ≤ 60) (hp : p < 900) (hw : w < 5) : FX5_doClause n (o3 w) (o3 p) h = op5 n w (o3 (F.getD p 0)) (o3 (F.getD (p + 1) 0)) (o3 (F.getD (p + 2) 0)) (o3 (F.getD (p + 3) 0)) h := by
  have id : ∀ o : Option (Int32 × aw_H), o.bind (fun q => some (q.1, q.2)) = o := fun o => by cases o <;> rfl
  unfold FX5_doClause
  rw [n1, n2, n3, o3_add, o3_add, o3_add, said5 s hF (by omega), said5 s hF (by omega), said5 s hF (by omega), said5 s hF (by omega)]
  simp only [Option.bind_some, id]
  rcases (show w = 0 ∨ w = 1 ∨ w = 2 ∨ w = 3 ∨ w = 4 by omega) with rfl | rfl | rfl | rfl | rfl <;> rfl
theorem done6 {w : Nat} {h : aw_H} (hw : w < 5) : FX6_isDone (o3 w) h = (op6 w (h.1 80 0) (h.1 80 1) (h.1 80 2) (h.1 80 3) h).bind (fun q => if q.1 < 0 then some (0, q.2) else some (1, q.2)) := by
  unfold FX6_isDone
  rcases (show w = 0 ∨ w = 1 ∨ w = 2 ∨ w = 3 ∨ w = 4 by omega) with rfl | rfl | rfl | rfl | rfl <;> rfl
theorem text_ne (m k : Nat) : ¬ textV B Z m k = .inl [] := by
  cases m with
  | zero => intro q; cases q
  | succ m =>
    rw [textV]
    cases clauV B Z k with
    | inr p => intro q; cases q
    | inl q =>
      simp only
      by_cases h4 : sV B Z (frV B Z q.2) = 4
      · rw [if_pos h4]
        cases textV B Z m (toV B Z q.2) with
        | inl cs => intro q; cases q
        | inr p => intro q; cases q
      · rw [if_neg h4]
        split
        · intro q; cases q
        · intro q; cases q
theorem text_wf (bo : Bok B Z) : ∀ (m k : Nat) (cs : List (Nat × List Nat)), k ≤ Z → textV B Z m k = .inl cs → (∀ c ∈ cs, c.1 < 5 ∧ c.2.length = mnW c.1) ∧ (flC cs).length + k ≤ Z ∧ cs.length + k ≤ Z
  | 0, k, cs, _, h => by cases h
  | m + 1, k, cs, hk, h => by
    rw [textV] at h
    have cp := clau_prop (B := B) bo hk
    revert h cp
    cases clauV B Z k with
    | inr p => intro h; cases h
    | inl q =>
      rintro h ⟨c1, c2, c3, c4, c5⟩
      obtain ⟨a1, a2, a3⟩ := fr_prop (B := B) c4
      obtain ⟨p1, p2, p3, p4⟩ := to_prop (B := B) c4
      simp only at h
      by_cases h4 : sV B Z (frV B Z q.2) = 4
      · rw [if_pos h4] at h
        revert h
        cases hT : textV B Z m (toV B Z q.2) with
        | inr p => intro h; cases h
        | inl cs' =>
          intro h
          have h : q.1 :: cs' = cs := by injection h
          subst h
          obtain ⟨y1, y2, y3⟩ := text_wf bo m (toV B Z q.2) cs' p2 hT
          refine ⟨fun c hc => ?_, ?_, ?_⟩
          · rcases List.mem_cons.mp hc with rfl | hc
            · exact ⟨c1, c2⟩
            · exact y1 c hc
          · simp only [flC, List.length_append, List.length_cons]; omega
          · simp only [List.length_cons]; omega
      · rw [if_neg h4] at h
        by_cases h0 : sV B Z (frV B Z q.2) = 0
        · rw [if_pos h0] at h
          have h : [q.1] = cs := by injection h
          subst h
          refine ⟨fun c hc => ?_, ?_, ?_⟩
          · rcases List.mem_cons.mp hc with rfl | hc
            · exact ⟨c1, c2⟩
            · cases hc
          · simp only [flC, List.length_append, List.length_cons, List.length_nil]; omega
          · simp only [List.length_cons, List.length_nil]; omega
        · rw [if_neg h0] at h; cases h
end TXT

/-! the clauses of a text are done by both alike -/
section DON
variable {B : Nat → Nat} {Z : Nat}
def ExA (n : Nat) (cs : List (Nat × List Nat)) (v v' : St) (c R : Nat) : Prop := ∀ (pre : List Nat) (i n1' : Nat) (h : aw_H), Wks h 1 3 v → Sd h (pre ++ flC cs) → (pre ++ flC cs).length ≤ 60 → h.1 54 7 = o3 (i + cs.length) → i + cs.length ≤ 60 → cs.length < n1' → ∃ H, aw_loop (BX5_text_33 n) n1' (o3 c, o3 pre.length, o3 i, h) = some (o3 R, H) ∧ Wks H 1 3 v' ∧ Same WcS h H
def ExB (B : Nat → Nat) (Z n : Nat) (cs : List (Nat × List Nat)) (v v' : St) (c R : Nat) : Prop := ∀ (m k n1' : Nat) (h : aw_H), textV B Z m k = .inl cs → Tm h B Z → h.1 71 13 = o3 k → k ≤ Z → m < n1' → Mod h v → ∃ H, aw_loop (BX6_goes_7 n 1) n1' (o3 c, h) = some (o3 R, H) ∧ Mod H v' ∧ Same (fun q => q = 71 ∨ q = 72 ∨ q = 80) h H ∧ H.1 71 2 = h.1 71 2
theorem exec {n : Nat} (bo : Bok B Z) (hn : 300 ≤ n) : ∀ (cs : List (Nat × List Nat)), (∀ c ∈ cs, c.1 < 5 ∧ c.2.length = mnW c.1) → ∀ (v : St), Ok v → ∀ c : Nat, ∃ (R : Nat) (v' : St), R ≤ c + cs.length ∧ Ok v' ∧ (cs = [] → R = c ∧ v' = v) ∧ (c + cs.length ≤ 1000 → ExA n cs v v' c R ∧ ExB B Z n cs v v' c R) := by
  have hZ := bo.1
  intro cs
  induction cs with
  | nil =>
    intro _ v ok c
    refine ⟨c, v, by omega, ok, fun _ => ⟨rfl, rfl⟩, fun hcl => ⟨fun pre i n1' h w s hl e7 hi hn1 => ⟨h, ?_, w, Same.rfl⟩, fun m k n1' h hT => absurd hT (text_ne m k)⟩⟩
    obtain ⟨n1', rfl⟩ : ∃ q, n1' = q + 1 := ⟨n1' - 1, by omega⟩
    rw [aw_loop, show BX5_text_33 n (o3 c, o3 pre.length, o3 i, h) = some (Sum.inr (o3 c, h)) by
      unfold BX5_text_33
      rw [if_pos (show h.1 54 7 ≤ o3 i by rw [e7]; exact Int32.le_refl _)]]
  | cons c0 cs ih =>
    intro hwf v ok c
    obtain ⟨hw, hlen⟩ := hwf c0 List.mem_cons_self
    obtain ⟨w, l⟩ := c0
    replace hw : w < 5 := hw
    replace hlen : l.length = mnW w := hlen
    have mb := mn_b ⟨w, hw⟩
    have mb1 : FX5_numbersOf (o3 w) = some (o3 (mnW w)) := mb.1
    have mb4 : mnW w ≤ 4 := mb.2.2.2
    obtain ⟨x, v1, ok1, f5, f6⟩ := p_op (n := n) ok hn w hw (o3 (l.getD 0 0)) (o3 (l.getD 1 0)) (o3 (l.getD 2 0)) (o3 (l.getD 3 0))
    obtain ⟨c1, hc1, ec1⟩ : ∃ c1, c1 ≤ c + 1 ∧ c1 = if x < 0 then c else c + 1 := ⟨_, by split <;> omega, rfl⟩
    obtain ⟨R, v', hR, ok', hnil, hAB⟩ := ih (fun c hc => hwf c (List.mem_cons_of_mem _ hc)) v1 ok1 c1
    refine ⟨R, v', by rw [List.length_cons]; omega, ok', (fun q => by cases q), fun hcl => ?_⟩
    rw [List.length_cons] at hcl
    obtain ⟨hA, hB⟩ := hAB (by omega)
    refine ⟨fun pre i n1' h wk s hl e7 hi hn1 => ?_, fun m k n1' h hT t e4 hk hn1 md => ?_⟩
    · obtain ⟨n1', rfl⟩ : ∃ q, n1' = q + 1 := ⟨n1' - 1, by omega⟩
      rw [List.length_cons] at e7 hi hn1
      have hF : pre ++ flC ((w, l) :: cs) = (pre ++ (w :: l)) ++ flC cs := by
        rw [List.append_assoc]; rfl
      have hlF : (pre ++ flC ((w, l) :: cs)).length = pre.length + (1 + l.length) + (flC cs).length := by
        rw [hF, List.length_append, List.length_append, List.length_cons]; omega
      have g0 : (pre ++ flC ((w, l) :: cs)).getD pre.length 0 = w := by
        rw [List.getD_eq_getElem?_getD, List.getElem?_append_right (Nat.le_refl _), Nat.sub_self]; rfl
      have gj : ∀ j, j < mnW w → (pre ++ flC ((w, l) :: cs)).getD (pre.length + 1 + j) 0 = l.getD j 0 := fun j hj => by
        rw [List.getD_eq_getElem?_getD, List.getElem?_append_right (by omega), show pre.length + 1 + j - pre.length = j + 1 by omega]
        show ((w :: (l ++ flC cs))[j + 1]?).getD 0 = _
        rw [List.getElem?_cons_succ, List.getElem?_append_left (by omega), List.getD_eq_getElem?_getD]
      obtain ⟨h1, y1, y2, y3⟩ := f5 h wk
      have hdo : FX5_doClause n (o3 w) (o3 (pre.length + 1)) h = some (x, h1) := by
        rw [do5 s hl (by omega) hw, ← y1]
        exact congrArg (fun F => F h) (op5_c (n := n) hw (f := fun j => o3 ((pre ++ flC ((w, l) :: cs)).getD (pre.length + 1 + j) 0)) (g := fun j => o3 (l.getD j 0)) (fun j hj => by show o3 _ = o3 _; rw [gj j hj]))
      have s1 : Sd h1 ((pre ++ (w :: l)) ++ flC cs) := by
        rw [← hF]
        exact s.fr (by rw [(y3 54 (by unfold WcS; omega)).1]) (y3 56 (by unfold WcS; omega)).1
      have e71 : h1.1 54 7 = o3 (i + 1 + cs.length) := by
        rw [(y3 54 (by unfold WcS; omega)).1, e7, show i + (cs.length + 1) = i + 1 + cs.length by omega]
      obtain ⟨H, z1, z2, z3⟩ := hA (pre ++ (w :: l)) (i + 1) n1' h1 y2 s1 (by rw [← hF]; exact hl) e71 (by omega) (by omega)
      refine ⟨H, ?_, z2, y3.trans z3⟩
      have hpl : (pre ++ (w :: l)).length = pre.length + (1 + mnW w) := by rw [← hlen]; simp [Nat.add_comm]
      rw [hpl] at z1
      rw [aw_loop, show BX5_text_33 n (o3 c, o3 pre.length, o3 i, h) = some (Sum.inl (o3 c1, o3 (pre.length + (1 + mnW w)), o3 (i + 1), h1)) by
        unfold BX5_text_33
        rw [if_neg (show ¬ h.1 54 7 ≤ o3 i by rw [e7, o3_le (by omega) (by omega)]; omega), said5 s hl (by omega), g0]
        simp only [Option.bind_some]
        have e1 : o3 pre.length + 1 = o3 (pre.length + 1) := by rw [n1, o3_add]
        have e2 : o3 i + 1 = o3 (i + 1) := by rw [n1, o3_add]
        have e3 : o3 c + 1 = o3 (c + 1) := by rw [n1, o3_add]
        have e4 : o3 pre.length + (1 + o3 (mnW w)) = o3 (pre.length + (1 + mnW w)) := by rw [n1, o3_add, o3_add]
        rw [e1, hdo]
        simp only [Option.bind_some, mb1, e2, e3, e4]
        rw [ec1]
        split <;> rfl]
      exact z1
    · obtain ⟨n1', rfl⟩ : ∃ q, n1' = q + 1 := ⟨n1' - 1, by omega⟩
      obtain ⟨m, rfl⟩ : ∃ q, m = q + 1 := by
        cases m with
        | zero => cases hT
        | succ q => exact ⟨q, rfl⟩
      rw [textV] at hT
      obtain ⟨an, H, g1, g2, g3, g5, g4⟩ := clause6 (n := n) bo t e4 hk hn
      have cp := clau_prop (B := B) bo hk
      revert hT g4 cp
      cases clauV B Z k with
      | inr p => intro hT; cases hT
      | inl q =>
        rintro hT ⟨b1, b2, b3⟩ ⟨d1, d2, d3, d4, d5⟩
        obtain ⟨a1, a2, a3⟩ := fr_prop (B := B) d4
        obtain ⟨p1, p2, p3, p4⟩ := to_prop (B := B) d4
        have hq : q.1 = (w, l) ∧ ((sV B Z (frV B Z q.2) = 4 ∧ textV B Z m (toV B Z q.2) = .inl cs) ∨ (¬ sV B Z (frV B Z q.2) = 4 ∧ sV B Z (frV B Z q.2) = 0 ∧ cs = [])) := by
          simp only at hT
          by_cases h4 : sV B Z (frV B Z q.2) = 4
          · rw [if_pos h4] at hT
            revert hT
            cases textV B Z m (toV B Z q.2) with
            | inr p => intro hT; cases hT
            | inl cs' =>
              intro hT
              have hT : q.1 :: cs' = (w, l) :: cs := by injection hT
              injection hT with hT1 hT2
              exact ⟨hT1, Or.inl ⟨h4, by rw [hT2]⟩⟩
          · rw [if_neg h4] at hT
            by_cases h0 : sV B Z (frV B Z q.2) = 0
            · rw [if_pos h0] at hT
              have hT : [q.1] = (w, l) :: cs := by injection hT
              injection hT with hT1 hT2
              exact ⟨hT1, Or.inr ⟨h4, h0, hT2.symm⟩⟩
            · rw [if_neg h0] at hT; cases hT
        obtain ⟨hq1, hq2⟩ := hq
        rw [hq1] at b1 b3
        replace b1 : an = o3 w := b1
        replace b3 : ∀ j, j < l.length → H.1 80 j = o3 (l.getD j 0) := b3
        have na : ¬ an = -1 := by rw [b1]; exact o3_ne_neg1 (by omega)
        have mdH : Mod H v := md.fr g2 (by omega)
        obtain ⟨H1, y1, y2, y3⟩ := f6 H mdH
        have hop : op6 w (H.1 80 0) (H.1 80 1) (H.1 80 2) (H.1 80 3) H = some (x, H1) := by
          rw [← y1]
          exact congrArg (fun F => F H) (op6_c hw (f := fun j => H.1 80 j) (g := fun j => o3 (l.getD j 0)) (fun j hj => b3 j (by omega)))
        have hdn : FX6_isDone an H = some (if x < 0 then (0, H1) else (1, H1)) := by
          rw [b1, done6 hw, hop]
          simp only [Option.bind_some]
          split <;> rfl
        have e13 : H1.1 71 13 = o3 (frV B Z q.2) := by rw [(y3 71 (by omega)).1]; exact b2
        have t1 : Tm H1 B Z := g3.fr (by rw [(y3 71 (by omega)).1]) (y3 79 (by omega)).1
        have e2' : H1.1 71 2 = h.1 71 2 := by rw [(y3 71 (by omega)).1]; exact g5
        have sm1 : Same (fun q => q = 71 ∨ q = 72 ∨ q = 80) h H1 := (g2.mono (fun q hq => by omega)).trans (y3.mono (fun q hq => by omega))
        have hend : (H1.1 71 13 = H1.1 71 12) ↔ sV B Z (frV B Z q.2) = 0 := by
          rw [e13, t1.1, o3_eq (by omega) (by omega), sV_end]; omega
        have bx := byte6 bo t1 (show frV B Z q.2 < 1000 by omega)
        have ev : BX6_goes_7 n 1 (o3 c, h) = (if H1.1 71 13 = H1.1 71 12 then some (Sum.inr (o3 c1, H1)) else if byV B Z (frV B Z q.2) = 59 then some (Sum.inl (o3 c1, aw_sI H1 71 13 (o3 (frV B Z q.2 + 1)))) else some (Sum.inr (-1 - o3 (frV B Z q.2), H1))) := by
          unfold BX6_goes_7
          rw [g1]
          simp only [Option.bind_some]
          rw [if_neg na, if_neg one_ne, hdn]
          simp only [Option.bind_some]
          have e3 : o3 c + 1 = o3 (c + 1) := by rw [n1, o3_add]
          have e0 : o3 c + 0 = o3 c := Int32.add_zero _
          have ef : o3 (frV B Z q.2) + 1 = o3 (frV B Z q.2 + 1) := by rw [n1, o3_add]
          by_cases hx : x < 0
          · rw [if_pos hx] at ec1
            simp only [if_pos hx, if_true, e0]
            rw [ec1, e13, bx]
            simp only [Option.bind_some, ef]
          · rw [if_neg hx] at ec1
            simp only [if_neg hx, one_ne, if_false, e3]
            rw [ec1, e13, bx]
            simp only [Option.bind_some, ef]
        rcases hq2 with ⟨h4, hT2⟩ | ⟨h4, h0, hcs⟩
        · have hne : ¬ H1.1 71 13 = H1.1 71 12 := fun z => by have := hend.mp z; omega
          have hto : toV B Z q.2 = frV B Z q.2 + 1 := by unfold toV; rw [if_pos h4]
          obtain ⟨H2, hH2⟩ : ∃ H2, H2 = aw_sI H1 71 13 (o3 (toV B Z q.2)) := ⟨_, rfl⟩
          have t2 : Tm H2 B Z := t1.fr (by rw [hH2, sI_nk (by omega)]) (by rw [hH2, sI_ne (by omega)])
          have s2 : Same (fun q => q = 71) H1 H2 := by rw [hH2]; exact Same.sI rfl
          obtain ⟨H3, z1, z2, z3, z4⟩ := hB m (toV B Z q.2) n1' H2 hT2 t2 (by rw [hH2, sI_eq]) p2 (by omega) (y2.fr s2 (by omega))
          refine ⟨H3, ?_, z2, (sm1.trans (s2.mono (fun q hq => Or.inl hq))).trans z3, by rw [z4, hH2, sI_nk (by omega)]; exact e2'⟩
          rw [aw_loop, ev, if_neg hne, if_pos ((sign6 bo).mpr h4), ← hto, ← hH2]
          exact z1
        · obtain ⟨r1, r2⟩ := hnil hcs
          refine ⟨H1, ?_, by rw [r2]; exact y2, sm1, e2'⟩
          rw [aw_loop, ev, if_pos (hend.mpr h0), r1]
end DON
theorem c_text {n : Nat} {h : aw_H} (k : Rel h) (hn : 300 ≤ n) : Sim (FX5_text n h) (FX6_text n) := by
  obtain ⟨v, ok, w, md⟩ := k.1
  obtain ⟨z, z1, z2, z3, z4⟩ := k.2.2.2
  obtain ⟨B, hB⟩ : ∃ B : Nat → Nat, B = fun j => (h.1 55 j).toNatClampNeg := ⟨_, rfl⟩
  have bo : Bok B z := ⟨z1, fun j hj => by
    obtain ⟨-, x, x1, x2⟩ := z4 j hj
    rw [hB]
    show (h.1 55 j).toNatClampNeg ≤ 255
    rw [x2, o3_clamp (by omega)]; exact x1⟩
  have tp : Tp h B z := ⟨z2, fun j hj => by
    obtain ⟨-, x, x1, x2⟩ := z4 j hj
    rw [hB]
    show h.1 55 j = o3 (h.1 55 j).toNatClampNeg
    rw [x2, o3_clamp (by omega)]⟩
  have tm : Tm h B z := ⟨z3, fun j hj => by rw [← (z4 j hj).1]; exact tp.2 j hj⟩
  obtain ⟨h0, hh0⟩ : ∃ h0, h0 = aw_sI (aw_sI (aw_sI h 54 4 0) 54 6 0) 54 7 0 := ⟨_, rfl⟩
  have s0 : Same (fun q => q = 54 ∨ q = 56) h h0 := by
    rw [hh0]
    exact ((Same.sI (Or.inl rfl)).trans (Same.sI (Or.inl rfl))).trans (Same.sI (Or.inl rfl))
  have t0 : Tp h0 B z := tp.fr (by rw [hh0]; simp (disch := omega) only [sI_nk]) (s0 55 (by omega)).1
  have a4 : h0.1 54 4 = o3 0 := by rw [hh0]; simp (disch := omega) only [sI_nk, sI_eq]; rfl
  have a6 : Sd h0 [] := ⟨by rw [hh0]; simp (disch := omega) only [sI_nk, sI_eq]; rfl, fun j hj => absurd hj (Nat.not_lt_zero _)⟩
  have a7 : h0.1 54 7 = o3 0 := by rw [hh0, sI_eq]; rfl
  obtain ⟨r, H, g1, g2, g3, g4⟩ := ff5 (n := n) bo hn 100 0 0 [] 0 n h0 t0 a4 (by omega) a6 (by simp) a7 (by omega) (by omega) (by omega)
  have ff : FX2_findFault n h = some (r, H) := by
    unfold FX2_findFault
    rw [← hh0]
    exact g1
  have sH := s0.trans g2
  obtain ⟨H5, hH5⟩ : ∃ H5, H5 = aw_sI H 54 1 0 := ⟨_, rfl⟩
  have sH5 : Same (fun q => q = 54 ∨ q = 56) h H5 := by
    rw [hH5]
    exact sH.trans (Same.sI (Or.inl rfl))
  revert g4
  cases hT : textV B z 100 0 with
  | inr p =>
    intro g4
    replace g4 : r = o3 p := g4
    have mH5 : Tm H5 B z := tm.fr (by rw [(sH5 71 (by omega)).1]) (sH5 79 (by omega)).1
    obtain ⟨h6, hh6⟩ : ∃ h6, h6 = aw_sI H5 71 13 0 := ⟨_, rfl⟩
    have t6 : Tm h6 B z := mH5.fr (by rw [hh6, sI_nk (by omega)]) (by rw [hh6, sI_ne (by omega)])
    obtain ⟨r6, H6, y1, y2, y3, y4, y5⟩ := goesF (n := n) bo hn 100 0 n h6 t6 (by rw [hh6, sI_eq]; rfl) (by omega) (by omega) (by omega)
    rw [hT] at y5
    replace y5 : r6 = -1 - o3 p := y5
    have pb : p ≤ 60 := by
      have : ∀ (m k p : Nat), k ≤ z → z - k < m → textV B z m k = .inr p → p ≤ z := by
        intro m
        induction m with
        | zero => intro k p _ hm; omega
        | succ m ih =>
          intro k p hk hm hT
          rw [textV] at hT
          have cp := clau_prop (B := B) bo hk
          revert hT cp
          cases clauV B z k with
          | inr p' =>
            intro hT cp
            injection hT with hT
            rw [← hT]; exact cp
          | inl q =>
            rintro hT ⟨c1, c2, c3, c4, c5⟩
            obtain ⟨a1, a2, a3⟩ := fr_prop (B := B) c4
            obtain ⟨p1, p2, p3, p4⟩ := to_prop (B := B) c4
            simp only at hT
            by_cases h4 : sV B z (frV B z q.2) = 4
            · have := p3 (by omega)
              rw [if_pos h4] at hT
              revert hT
              cases hT2 : textV B z m (toV B z q.2) with
              | inl cs => intro hT; cases hT
              | inr p' =>
                intro hT
                injection hT with hT
                rw [← hT]
                exact ih _ _ p2 (by omega) hT2
            · rw [if_neg h4] at hT
              split at hT
              · cases hT
              · injection hT with hT
                rw [← hT]; exact a2
      have := this 100 0 p (by omega) (by omega) hT
      omega
    have r6t : r6.toInt = -1 - p := by
      rw [y5, Int32.toInt_sub, o3_toInt (by omega), show (-1 : Int32).toInt = -1 from rfl, b32 (by omega) (by omega)]
    have sA : Same (fun q => q = 54 ∨ q = 56 ∨ q = 71 ∨ q = 80) h (aw_sI H6 71 12 0) := (((sH5.mono (fun q hq => by omega)).trans (show Same (fun q => q = 54 ∨ q = 56 ∨ q = 71 ∨ q = 80) H5 h6 by rw [hh6]; exact Same.sI (by omega))).trans (y2.mono (fun q hq => by omega))).trans (Same.sI (by omega))
    refine ⟨-100 - o3 p, H5, aw_sI H6 71 12 0, ?_, ?_, ?_⟩
    · unfold FX5_text
      rw [ff]
      simp only [Option.bind_some]
      rw [g4, if_neg (o3_ne_neg1 (by omega)), ← hH5]
    · unfold FX6_text FX6_goes
      rw [← hh6, y1]
      simp only [Option.bind_some]
      rw [if_neg (show ¬ 0 ≤ r6 by rw [Int32.le_iff_toInt_le, r6t, show (0 : Int32).toInt = 0 from rfl]; omega)]
      have e100 : -100 + r6 + 1 = -100 - o3 p := by
        rw [← Int32.toInt_inj, Int32.toInt_add, Int32.toInt_add, r6t, Int32.toInt_sub, o3_toInt (by omega), show (-100 : Int32).toInt = -100 from rfl, show (1 : Int32).toInt = 1 from rfl, b32 (z := -100 + (-1 - (p : Int))) (by omega) (by omega), b32 (z := -100 + (-1 - (p : Int)) + 1) (by omega) (by omega), b32 (z := -100 - (p : Int)) (by omega) (by omega)]
        omega
      rw [e100]
    · obtain ⟨⟨v, k1, k2, k3⟩, k4, k5, -⟩ := k
      refine ⟨⟨v, k1, k2.fr sA (by omega) (fun q q1 q2 => by omega), k3.fr sA (by omega)⟩, k4.fr sA (by omega) (by omega) (fun q q1 q2 => by omega) ?_, k5.fr sA (fun q q1 q2 => by omega) (by omega) (by omega) (by omega), 0, by omega, ?_, ?_, fun b hb => ?_⟩
      · rw [sI_nk (by omega), y4, hh6, sI_nk (by omega), (sH5 71 (by omega)).1]
      · rw [sI_ne (by omega), (y2 54 (by omega)).1, hh6, sI_ne (by omega), hH5, sI_eq]; rfl
      · rw [sI_eq]; rfl
      · rw [(sA 55 (by omega)).1, (sA 79 (by omega)).1]; exact z4 b hb
  | inl cs =>
    rintro ⟨b1, b2, b3⟩
    obtain ⟨f1, f2, f3⟩ := text_wf bo 100 0 cs (by omega) hT
    obtain ⟨R, v', hR, ok', -, hAB⟩ := exec (n := n) bo hn cs f1 v ok 0
    obtain ⟨hA, hBB⟩ := hAB (by omega)
    have w5 : Wks H5 1 3 v := w.fr sH5 (by omega) (fun q q1 q2 => by omega)
    have sd5 : Sd H5 ([] ++ flC cs) := b2.fr (by rw [hH5, sI_nk (by omega)]) (by rw [hH5, sI_ne (by omega)])
    have e75 : H5.1 54 7 = o3 (0 + cs.length) := by rw [hH5, sI_nk (by omega)]; exact b3
    obtain ⟨HA, x1, x2, x3⟩ := hA [] 0 n H5 w5 sd5 (by simp; omega) e75 (by omega) (by omega)
    have mHA : Tm HA B z := tm.fr (by rw [(x3 71 (by unfold WcS; omega)).1, (sH5 71 (by omega)).1]) (by rw [(x3 79 (by unfold WcS; omega)).1, (sH5 79 (by omega)).1])
    obtain ⟨h6, hh6⟩ : ∃ h6, h6 = aw_sI HA 71 13 0 := ⟨_, rfl⟩
    have t6 : Tm h6 B z := mHA.fr (by rw [hh6, sI_nk (by omega)]) (by rw [hh6, sI_ne (by omega)])
    obtain ⟨r6, H6, y1, y2, y3, y4, y5⟩ := goesF (n := n) bo hn 100 0 n h6 t6 (by rw [hh6, sI_eq]; rfl) (by omega) (by omega) (by omega)
    rw [hT] at y5
    replace y5 : r6 = 0 := y5
    obtain ⟨h7, hh7⟩ : ∃ h7, h7 = aw_sI H6 71 13 0 := ⟨_, rfl⟩
    have t7 : Tm h7 B z := y3.fr (by rw [hh7, sI_nk (by omega)]) (by rw [hh7, sI_ne (by omega)])
    have s7 : Same (fun q => q = 71 ∨ q = 80) HA h7 := ((show Same (fun q => q = 71 ∨ q = 80) HA h6 by rw [hh6]; exact Same.sI (Or.inl rfl)).trans y2).trans (by rw [hh7]; exact Same.sI (Or.inl rfl))
    have m7 : Mod h7 v := ((md.fr sH5 (by omega)).fr x3 (by unfold WcS; omega)).fr s7 (by omega)
    obtain ⟨H7, u1, u2, u3, u4⟩ := hBB 100 0 n h7 hT t7 (by rw [hh7, sI_eq]; rfl) (by omega) (by omega) m7
    have sA : Same (fun q => q = 54 ∨ q = 56 ∨ q = 71 ∨ q = 72 ∨ q = 80 ∨ WcS q) h (aw_sI H7 71 12 0) := ((((sH5.mono (fun q hq => by omega)).trans (x3.mono (fun q hq => by unfold WcS at hq ⊢; omega))).trans (s7.mono (fun q hq => by omega))).trans (u3.mono (fun q hq => by omega))).trans (Same.sI (by omega))
    refine ⟨o3 R, HA, aw_sI H7 71 12 0, ?_, ?_, ?_⟩
    · unfold FX5_text
      rw [ff]
      simp only [Option.bind_some]
      rw [if_pos b1, ← hH5]
      exact x1
    · unfold FX6_text FX6_goes
      rw [← hh6, y1]
      simp only [Option.bind_some]
      rw [if_pos (show 0 ≤ r6 by rw [y5]; decide), ← hh7, show (0 : Int32) = o3 0 from rfl, u1]
      rfl
    · obtain ⟨-, k4, k5, -⟩ := k
      have sm7 : Same (fun q => q = 71) H7 (aw_sI H7 71 12 0) := Same.sI rfl
      have wH : Wks (aw_sI H7 71 12 0) 1 3 v' := ((x2.fr s7 (by omega) (fun q q1 q2 => by omega)).fr u3 (by omega) (fun q q1 q2 => by omega)).fr sm7 (by omega) (fun q q1 q2 => by omega)
      refine ⟨⟨v', ok', wH, u2.fr sm7 (by omega)⟩, k4.fr sA (by unfold WcS; omega) (by unfold WcS; omega) (fun q q1 q2 => by unfold WcS; omega) ?_, k5.fr sA (fun q q1 q2 => by unfold WcS; omega) (by unfold WcS; omega) (by unfold WcS; omega) (by unfold WcS; omega), 0, by omega, ?_, ?_, fun b hb => ?_⟩
      · rw [sI_nk (by omega), u4, hh7, sI_nk (by omega), y4, hh6, sI_nk (by omega), (x3 71 (by unfold WcS; omega)).1, (sH5 71 (by omega)).1]
      · rw [sI_ne (by omega), (u3 54 (by omega)).1, (s7 54 (by omega)).1, (x3 54 (by unfold WcS; omega)).1, hH5, sI_eq]; rfl
      · rw [sI_eq]; rfl
      · rw [(sA 55 (by unfold WcS; omega)).1, (sA 79 (by unfold WcS; omega)).1]; exact z4 b hb

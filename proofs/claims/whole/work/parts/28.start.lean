theorem nest_in : nestL.all (fun q => decide (Cond.methodLinkNest q.1 q.2.1 q.2.2.1 q.2.2.2 ∈ tables_1)) = true := by decide +kernel
theorem ao3_in : Cond.arrayOver (.object RX3) ∈ tables_1 := (List.mem_append_right _ (List.mem_append_left _ (List.mem_of_getElem? (i := 0) (by decide +kernel))))
theorem ao5_in : Cond.arrayOver (.object RX5) ∈ tables_1 := (List.mem_append_left _ (List.mem_of_getElem? (i := 154) (by decide +kernel)))
theorem in_X0 : Cond.instantiable RX0 4 ∈ LW := lw_2 (List.mem_of_getElem? (i := 162) (by decide +kernel)) (by decide +kernel)
theorem in_X1 : Cond.instantiable RX1 17 ∈ LW := lw_1 (List.mem_of_getElem? (i := 27) (by decide +kernel)) (by decide +kernel)
theorem in_X2 : Cond.instantiable RX2 7 ∈ LW := lw_1 (List.mem_of_getElem? (i := 126) (by decide +kernel)) (by decide +kernel)
theorem in_X3 : Cond.instantiable RX3 9 ∈ LW := lw_1 (List.mem_of_getElem? (i := 186) (by decide +kernel)) (by decide +kernel)
theorem in_X4 : Cond.instantiable RX4 7 ∈ LW := lw_2 (List.mem_of_getElem? (i := 27) (by decide +kernel)) (by decide +kernel)
theorem in_X5 : Cond.instantiable RX5 2 ∈ LW := lw_1 (List.mem_of_getElem? (i := 155) (by decide +kernel)) (by decide +kernel)
theorem in_X6 : Cond.instantiable RX6 3 ∈ LW := lw_1 (List.mem_of_getElem? (i := 170) (by decide +kernel)) (by decide +kernel)
theorem in_X7 : Cond.instantiable RX7 11 ∈ LW := lw_2 (List.mem_of_getElem? (i := 117) (by decide +kernel)) (by decide +kernel)
theorem in_X8 : Cond.instantiable RX8 5 ∈ LW := lw_2 (List.mem_of_getElem? (i := 62) (by decide +kernel)) (by decide +kernel)
theorem in_X9 : Cond.instantiable RX9 7 ∈ LW := lw_2 (List.mem_of_getElem? (i := 86) (by decide +kernel)) (by decide +kernel)
theorem in_X10 : Cond.instantiable RX10 3 ∈ LW := lw_2 (List.mem_of_getElem? (i := 2) (by decide +kernel)) (by decide +kernel)
theorem in_X11 : Cond.instantiable RX11 18 ∈ LW := lw_1 (List.mem_of_getElem? (i := 19) (by decide +kernel)) (by decide +kernel)
theorem in_X12 : Cond.instantiable RX12 59 ∈ LW := lw_5 (List.mem_of_getElem? (i := 60) (by decide +kernel)) (by decide +kernel)
theorem ia_byte : Cond.arrayClass .byte ∈ LW := lw_1 (List.mem_of_getElem? (i := 123) (by decide +kernel)) (by decide +kernel)
theorem ia_int : Cond.arrayClass .int ∈ LW := lw_1 (List.mem_of_getElem? (i := 124) (by decide +kernel)) (by decide +kernel)
theorem ia_long : Cond.arrayClass .long ∈ LW := lw_2 (List.mem_of_getElem? (i := 185) (by decide +kernel)) (by decide +kernel)
theorem ia_boolean : Cond.arrayClass .boolean ∈ LW := lw_2 (List.mem_of_getElem? (i := 25) (by decide +kernel)) (by decide +kernel)
set_option maxHeartbeats 4000000 in
set_option maxRecDepth 100000 in
/-- the tables' fixed facts at the law's start -/
theorem gw_start {s : State} {args : Array Value} (hts : ∀ w ∈ lw_tbl, w.before args s = true) (up : ∀ w ∈ LW, w.before args s = true) : ∃ (D : va_G) (cy : Nat → ClassId), GW D cy s ∧ va_AO RX3 s ∧ va_AO RX5 s := by
  obtain ⟨c0, iS0, hn0⟩ := u_known (C := RX0) (T := TX0) (N := 4) (n := 4) up i_X0 (up _ in_X0)
  obtain ⟨c1, iS1, hn1⟩ := u_known (C := RX1) (T := TX1) (N := 17) (n := 17) up i_X1 (up _ in_X1)
  obtain ⟨c2, iS2, hn2⟩ := u_known (C := RX2) (T := TX2) (N := 7) (n := 7) up i_X2 (up _ in_X2)
  obtain ⟨c3, iS3, hn3⟩ := u_known (C := RX3) (T := TX3) (N := 9) (n := 9) up i_X3 (up _ in_X3)
  obtain ⟨c4, iS4, hn4⟩ := u_known (C := RX4) (T := TX4) (N := 7) (n := 7) up i_X4 (up _ in_X4)
  obtain ⟨c5, iS5, hn5⟩ := u_known (C := RX5) (T := TX5) (N := 2) (n := 2) up i_X5 (up _ in_X5)
  obtain ⟨c6, iS6, hn6⟩ := u_known (C := RX6) (T := TX6) (N := 3) (n := 3) up i_X6 (up _ in_X6)
  obtain ⟨c7, iS7, hn7⟩ := u_known (C := RX7) (T := TX7) (N := 11) (n := 11) up i_X7 (up _ in_X7)
  obtain ⟨c8, iS8, hn8⟩ := u_known (C := RX8) (T := TX8) (N := 5) (n := 5) up i_X8 (up _ in_X8)
  obtain ⟨c9, iS9, hn9⟩ := u_known (C := RX9) (T := TX9) (N := 7) (n := 7) up i_X9 (up _ in_X9)
  obtain ⟨c10, iS10, hn10⟩ := u_known (C := RX10) (T := TX10) (N := 3) (n := 3) up i_X10 (up _ in_X10)
  obtain ⟨c11, iS11, hn11⟩ := u_known (C := RX11) (T := TX11) (N := 18) (n := 18) up i_X11 (up _ in_X11)
  obtain ⟨c12, iS12, hn12⟩ := u_known (C := RX12) (T := TX12) (N := 59) (n := 59) up i_X12 (up _ in_X12)
  obtain ⟨y0, k0, m0, f0, g0, e0⟩ := Cond.arrayClass_spec (up _ ia_byte)
  obtain ⟨y1, k1, m1, f1, g1, e1⟩ := Cond.arrayClass_spec (up _ ia_int)
  obtain ⟨y2, k2, m2, f2, g2, e2⟩ := Cond.arrayClass_spec (up _ ia_long)
  obtain ⟨y3, k3, m3, f3, g3, e3⟩ := Cond.arrayClass_spec (up _ ia_boolean)
  have a3 : va_AO RX3 s := va_AO.of (hts _ (List.mem_append_right _ ao3_in))
  have a5 : va_AO RX5 s := va_AO.of (hts _ (List.mem_append_right _ ao5_in))
  obtain ⟨m4, y4, k4, f4, -, g4, e4, b4⟩ := Cond.arrayOver_spec a3
  obtain ⟨m5, y5, k5, f5, -, g5, e5, b5⟩ := Cond.arrayOver_spec a5
  refine ⟨(fun k => if k = 0 then c0 else if k = 1 then c1 else if k = 2 then c2 else if k = 3 then c3 else if k = 4 then c4 else if k = 5 then c5 else if k = 6 then c6 else if k = 7 then c7 else if k = 8 then c8 else if k = 9 then c9 else if k = 10 then c10 else if k = 11 then c11 else c12, fun k => if k = 0 then iS0 else if k = 1 then iS1 else if k = 2 then iS2 else if k = 3 then iS3 else if k = 4 then iS4 else if k = 5 then iS5 else if k = 6 then iS6 else if k = 7 then iS7 else if k = 8 then iS8 else if k = 9 then iS9 else if k = 10 then iS10 else if k = 11 then iS11 else iS12), fun k => if k = 0 then y0 else if k = 1 then y1 else if k = 2 then y2 else if k = 3 then y3 else if k = 4 then y4 else y5, ⟨⟨?_, ?_⟩, ?_⟩, a3, a5⟩
  · intro k q hq
    match k, hq with
    | 0, hq => cases hq; exact hn0
    | 1, hq => cases hq; exact hn1
    | 2, hq => cases hq; exact hn2
    | 3, hq => cases hq; exact hn3
    | 4, hq => cases hq; exact hn4
    | 5, hq => cases hq; exact hn5
    | 6, hq => cases hq; exact hn6
    | 7, hq => cases hq; exact hn7
    | 8, hq => cases hq; exact hn8
    | 9, hq => cases hq; exact hn9
    | 10, hq => cases hq; exact hn10
    | 11, hq => cases hq; exact hn11
    | 12, hq => cases hq; exact hn12
    | k + 13, hq => simp [vwCl] at hq
  · intro k q hq
    match k, hq with
    | 0, hq => cases hq; exact ⟨fun n z => ⟨fun k h => (by cases h), k0, g0, m0, e0⟩, f0⟩
    | 1, hq => cases hq; exact ⟨fun n z => ⟨fun k h => (by cases h), k1, g1, m1, e1⟩, f1⟩
    | 2, hq => cases hq; exact ⟨fun n z => ⟨fun k h => (by cases h), k2, g2, m2, e2⟩, f2⟩
    | 3, hq => cases hq; exact ⟨fun n z => ⟨fun k h => (by cases h), k3, g3, m3, e3⟩, f3⟩
    | 4, hq => cases hq; exact ⟨fun n z => ⟨fun k h => (by cases h), k4, g4, m4, e4⟩, k4, m4, g4, e4, f4, b4⟩
    | 5, hq => cases hq; exact ⟨fun n z => ⟨fun k h => (by cases h), k5, g5, m5, e5⟩, k5, m5, g5, e5, f5, b5⟩
    | k + 6, hq => simp at hq
  · intro q hq
    have h := of_decide_eq_true (List.all_eq_true.mp nest_in q hq)
    exact va_Nw.of rfl (hts _ (List.mem_append_right _ h))

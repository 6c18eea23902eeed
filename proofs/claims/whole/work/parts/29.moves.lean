theorem ls_in : Cond.laysStatic "BoathouseKey" "MOVES" "[I" ∈ tables_1 := (List.mem_append_right _ (List.mem_append_right _ (List.mem_append_right _ (List.mem_append_left _ (List.mem_of_getElem? (i := 226) (by decide +kernel))))))
theorem ib_in : Cond.initialized "BoathouseKey" ∈ LW := lw_1 (List.mem_of_getElem? (i := 1) (by decide +kernel)) (by decide +kernel)
set_option maxRecDepth 100000 in
theorem moves_start {s : State} {sb : Nat} (hts : ∀ w ∈ lw_tbl, w.before #[Value.ref sb] s = true) (up : ∀ w ∈ LW, w.before #[Value.ref sb] s = true) (hgv : (Jvm.Cond.and given_1 narrow_1).before #[Value.ref sb] s = true) : ∃ tS : Nat, va_Z "BoathouseKey" "MOVES" "[I" (.ref tS) (LA s) s s.heap ∧ va_T .int tS 4 mvV (LA s) s s.heap := by
  have hs := flat_of_before _ hgv
  have q1 : (Cond.arrayOf (.static "BoathouseKey" "MOVES" "[I") .int).before #[Value.ref sb] s = true := hs _ (by decide +kernel)
  have q2 : (Cond.eq (.length (.static "BoathouseKey" "MOVES" "[I")) (.int 4)).before #[Value.ref sb] s = true := hs _ (by decide +kernel)
  have r0 : (Cond.eq (.elem (.static "BoathouseKey" "MOVES" "[I") (.int 0)) (.int (-1))).before #[Value.ref sb] s = true := hs _ (by decide +kernel)
  have r1 : (Cond.eq (.elem (.static "BoathouseKey" "MOVES" "[I") (.int 1)) (.int 1)).before #[Value.ref sb] s = true := hs _ (by decide +kernel)
  have r2 : (Cond.eq (.elem (.static "BoathouseKey" "MOVES" "[I") (.int 2)) (.int (-2))).before #[Value.ref sb] s = true := hs _ (by decide +kernel)
  have r3 : (Cond.eq (.elem (.static "BoathouseKey" "MOVES" "[I") (.int 3)) (.int 2)).before #[Value.ref sb] s = true := hs _ (by decide +kernel)
  have hA : ∀ a : Nat, a < s.heap.size → ¬ LA s a := fun a h => Nat.not_le.mpr h
  obtain ⟨tS, hev, hT⟩ := va_Tof (tm := .static "BoathouseKey" "MOVES" "[I") (ty := .int) (N := 4) (f := mvV) (A := LA s) (by decide) q1 (va_eqt q2) (fun j hj => by
    match j, hj with
    | 0, _ => exact va_eqt r0
    | 1, _ => exact va_eqt r1
    | 2, _ => exact va_eqt r2
    | 3, _ => exact va_eqt r3
    | j + 4, h => exact absurd h (by omega)) hA
  exact ⟨tS, va_Zof (hts _ (List.mem_append_right _ ls_in)) (up _ ib_in) hev hA, hT⟩

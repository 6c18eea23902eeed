/-! the calls, one by one -/
theorem op_wipe : Op_wipe Rl := by
  intro X Y a b h
  obtain ⟨c, tx, L, A, P1, P2, ⟨T, l1, l2⟩, U, V, W, Q⟩ := h
  refine ⟨trivial, trivial, ?_, c, fun _ => 0, 0, A, P1, P2, ⟨⟨Nat.zero_le _, fun i hi => absurd hi (Nat.not_lt_zero _)⟩, rfl, rfl⟩, U, V, W, Q⟩
  show X.1 0 = Y.1 1
  rw [l1, l2]
theorem op_where : Op_where Rl := by
  intro X Y a b h
  obtain ⟨c, tx, L, A, P1, P2, T, U, V, W, Q⟩ := h
  refine ⟨trivial, vp_in_nI (n := 1) (by decide) (by decide), ?_, c, tx, L, A, P1, P2, T, U, V, W, Q⟩
  obtain ⟨n, z, v1, v2, v3, v4, v5, v6, v7, v8, v9⟩ := V
  exact v8.symm
theorem op_ruled : Op_ruled Rl := by
  intro x1 x2 X Y a b hR
  have key : (ok_X11_ruled (a (31 + 2 * (sel3 x1))) (rf3 (a 31) (a 33) (a 35)) (X.2.1 (26 + 1 * (sel3 x1))) x1 x2) ∧ (ok_X12_ruled x1 x2) ∧ (F_X11_ruled (X.2.1 (26 + 1 * (sel3 x1))) x1 x2) = (F_X12_ruled (Y.2.1 20) x1 x2).1 := by
    obtain ⟨c, tx, L, A, ⟨R, Fx1, G⟩, ⟨S, n3, g4⟩, T, U, V, W, Q⟩ := hR
    unfold ok_X11_ruled F_X11_ruled ok_X12_ruled F_X12_ruled
    rcases rul x1 with ⟨e1, e2⟩ | ⟨r, hr, ex, e1, e2, e3⟩
    · rw [e1, e2, if_pos rfl, if_neg i10]
      exact ⟨fun y => absurd rfl y, fun y => absurd y i10, rfl⟩
    · rw [e1, e2, if_neg i10, if_pos rfl, e3]
      rcases hou x2 with ⟨f1, f2⟩ | ⟨h, hh, fx, f1, f2⟩
      · rw [f1, f2, if_pos rfl, if_neg i10]
        exact ⟨fun _ y => absurd rfl y, fun _ y => absurd y i10, rfl⟩
      · rw [f1, f2, if_neg i10, if_pos rfl, ex, fx]
        obtain ⟨u1, u2⟩ := RuA_at U hr
        have e10 : (10 : Int32) * nI r + nI h = nI (10 * r + h) := by rw [show (10 : Int32) * nI r = nI (10 * r) from pk_mul 10 r, nI_add]
        rw [e10, (actAt_X hh (u1 h hh).1 (u1 h hh).2).2, nI_clamp (by omega), nI_clamp (by omega), (u2 h hh).1]
        exact ⟨fun _ _ => ⟨vp_in_nI hr (by decide), rf3_at rfl rfl rfl hr, (actAt_X hh (u1 h hh).1 (u1 h hh).2).1⟩, fun _ _ => vp_in_nI (by omega) (by decide), rfl⟩
  refine ⟨key.1, key.2.1, ?_, Rl_keep hR ?_ ?_ ?_ ?_⟩
  · show (nX_ruled a X x1 x2).1 = (nY_ruled b Y x1 x2).1
    unfold nX_ruled nY_ruled
    exact key.2.2
  · exact fun _ _ => rfl
  · exact fun _ _ => rfl
  · unfold nY_ruled; dsimp only; exact (st1_keep rfl (fun _ _ => rfl))
  · unfold nY_ruled; dsimp only; exact (fun _ _ => rfl)
theorem op_week : Op_week Rl := by
  intro x1 x2 x3 X Y a b hR
  have key : (ok_X11_week (a (31 + 2 * (sel3 x1))) (X.1 1) (X.1 2) (X.1 3) (X.1 5) (X.2.1 1) (X.2.1 4) (X.2.1 5) (X.2.1 6) (X.2.1 7) (X.2.1 8) (X.2.1 9) (X.2.1 10) (X.2.1 11) (X.2.1 12) (rf3 (a 31) (a 33) (a 35)) (X.2.1 (26 + 1 * (sel3 x1))) (X.2.1 32) (X.2.1 33) x1 x2 x3) ∧ (ok_X12_week (Y.1 3) (Y.1 5) (Y.1 10) (Y.1 17) (Y.1 18) (Y.1 19) (Y.2.1 1) (Y.2.1 2) (Y.2.1 3) (Y.2.1 4) (Y.2.1 5) (Y.2.1 6) (Y.2.1 7) (Y.2.1 8) (Y.2.1 9) (Y.2.1 20) x1 x2) ∧ (F_X11_week (X.1 1) (X.1 2) (X.1 3) (X.1 5) (X.2.1 1) (X.2.1 4) (X.2.1 5) (X.2.1 6) (X.2.1 7) (X.2.1 8) (X.2.1 9) (X.2.1 10) (X.2.1 11) (X.2.1 12) (X.2.1 (26 + 1 * (sel3 x1))) (X.1 51) (X.1 52) (X.1 53) (X.1 54) (X.1 55) (X.1 56) (X.1 57) (X.1 58) (X.1 59) (X.2.1 32) (X.2.1 33) x1 x2 x3).1 = (F_X12_week (Y.1 3) (Y.1 5) (Y.1 10) (Y.1 11) (Y.1 12) (Y.1 13) (Y.1 14) (Y.1 15) (Y.1 16) (Y.1 17) (Y.1 18) (Y.1 19) (Y.2.1 1) (Y.2.1 2) (Y.2.1 3) (Y.2.1 4) (Y.2.1 5) (Y.2.1 6) (Y.2.1 7) (Y.2.1 8) (Y.2.1 9) (Y.2.1 20) x1 x2 x3).1 := by
    obtain ⟨c, tx, L, A, ⟨R, Fx1, G⟩, ⟨S, n3, g4⟩, T, U, V, W, Q⟩ := hR
    unfold ok_X11_week F_X11_week ok_X12_week F_X12_week F_X11_canBegin
    obtain ⟨bo, bb⟩ := bgn R S x2
    rw [n3]
    rcases rul x1 with ⟨e1, e2⟩ | ⟨r, hr, ex, e1, e2, e3⟩
    · rw [e1, e2, if_pos rfl, if_pos rfl, if_neg i10]
      exact ⟨fun y => absurd rfl y, fun y => absurd y i10, rfl⟩
    · rw [e1, e2, if_neg i10, if_pos rfl, e3]
      rcases bb with ⟨f1, f2⟩ | ⟨k, bk, hk, fx, f1, f2⟩
      · rw [f1, f2, if_pos rfl, if_pos rfl, if_neg i10]
        exact ⟨fun y => absurd rfl y, fun _ => ⟨bo, fun y => absurd y i10⟩, rfl⟩
      · rw [f1, f2, if_neg i10, if_neg i10, if_pos rfl, ex, fx]
        obtain ⟨u1, u2⟩ := RuA_at U hr
        have hv : vp_in (nI r) 3 := vp_in_nI hr (by decide)
        have hrf : rf3 (a 31) (a 33) (a 35) (nI r).toNatClampNeg = some (a (31 + 2 * r)) := by rw [nI_clamp (by omega)]; exact rf3_at rfl rfl rfl hr
        obtain ⟨p1, p2⟩ := run_X R u1 bk (X.2.1 32) (X.2.1 33)
        have bo' : ok_X12_noBegin (nI k) := fx ▸ bo
        obtain ⟨q1, d', m', q2⟩ := go_Y S (r := r) (by omega) u2 bk (u := 10) (by decide) (Y.1 17) (Y.1 18) (Y.1 19)
        have q2' : F_X12_go (Y.1 5) (Y.1 10) (Y.1 17) (Y.1 18) (Y.1 19) (Y.2.1 1) (Y.2.1 2) (Y.2.1 3) (Y.2.1 4) (Y.2.1 5) (Y.2.1 6) (Y.2.1 7) (Y.2.1 8) (Y.2.1 9) (Y.2.1 20) (nI r) (nI k) 10 = _ := q2
        rw [q2']
        dsimp only
        unfold F_X12_week_b30
        by_cases z0 : x3 < 0
        · rw [if_pos z0, if_neg (fun z => by rw [z] at z0; exact absurd z0 (by decide)), if_neg (fun z => by rw [z] at z0; exact absurd z0 (by decide)), if_neg (fun z => by rw [z] at z0; exact absurd z0 (by decide)), if_neg (fun z => by rw [z] at z0; exact absurd z0 (by decide))]
          exact ⟨fun _ y => absurd z0 y, fun _ => ⟨bo', fun _ => q1⟩, rfl⟩
        · by_cases z3 : x3 ≤ 3
          · rw [if_neg z0, if_pos z3, p2]
            refine ⟨fun _ _ _ => ⟨hv, hrf, p1⟩, fun _ => ⟨bo', fun _ => q1⟩, ?_⟩
            dsimp only
            unfold F_X11_week_b42
            by_cases y0 : x3 = 0
            · rw [if_pos y0, if_pos y0]
            · rw [if_neg y0, if_neg y0]
              by_cases y1 : x3 = 1
              · rw [if_pos y1, if_pos y1]
              · rw [if_neg y1, if_neg y1]
                by_cases y2 : x3 = 2
                · rw [if_pos y2, if_pos y2]
                · rw [if_neg y2, if_neg y2]
                  obtain ⟨j, j1, j2⟩ := arg_in (N := 4) (by decide) z0 (fun z => absurd (Int32.le_trans z z3) (by decide))
                  have j3 : j = 3 := by
                    have : j = 0 ∨ j = 1 ∨ j = 2 ∨ j = 3 := by omega
                    rcases this with q | q | q | q
                    · exact absurd (by rw [j2, q]; rfl) y0
                    · exact absurd (by rw [j2, q]; rfl) y1
                    · exact absurd (by rw [j2, q]; rfl) y2
                    · exact q
                  rw [if_pos (show x3 = 3 by rw [j2, j3]; rfl)]
          · rw [if_neg z0, if_neg z3, if_neg (fun z => by rw [z] at z3; exact absurd (by decide) z3), if_neg (fun z => by rw [z] at z3; exact absurd (by decide) z3), if_neg (fun z => by rw [z] at z3; exact absurd (by decide) z3), if_neg (fun z => by rw [z] at z3; exact absurd (by decide) z3)]
            exact ⟨fun _ _ y => absurd y z3, fun _ => ⟨bo', fun _ => q1⟩, rfl⟩
  refine ⟨key.1, key.2.1, ?_, Rl_keep hR ?_ ?_ ?_ ?_⟩
  · show (nX_week a X x1 x2 x3).1 = (nY_week b Y x1 x2 x3).1
    unfold nX_week nY_week
    exact key.2.2
  · unfold nX_week; dsimp only; exact (st1_keep rfl (st1_keep rfl (st1_keep rfl (st1_keep rfl (st1_keep rfl (st1_keep rfl (st1_keep rfl (st1_keep rfl (st1_keep rfl (fun _ _ => rfl))))))))))
  · unfold nX_week; dsimp only; exact (st1_keep rfl (st1_keep rfl (fun _ _ => rfl)))
  · unfold nY_week; dsimp only; exact (st1_keep rfl (st1_keep rfl (st1_keep rfl (st1_keep rfl (st1_keep rfl (st1_keep rfl (st1_keep rfl (st1_keep rfl (st1_keep rfl (st1_keep rfl (fun _ _ => rfl)))))))))))
  · unfold nY_week; dsimp only; exact (fun _ _ => rfl)

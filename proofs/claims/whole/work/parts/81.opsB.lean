/-! calls: a week ahead -/
theorem op_ahead : Op_ahead Rl := by
  intro x1 x2 x3 X Y a b hR
  have key : (ok_X11_ahead (a (31 + 2 * (sel3 x1))) (X.1 1) (X.1 2) (X.1 3) (X.1 5) (X.2.1 1) (X.2.1 4) (X.2.1 5) (X.2.1 6) (X.2.1 7) (X.2.1 8) (X.2.1 9) (X.2.1 10) (X.2.1 11) (X.2.1 12) (rf3 (a 31) (a 33) (a 35)) (X.2.1 (26 + 1 * (sel3 x1))) (X.2.1 32) (X.2.1 33) x1 x2 x3) ∧ (ok_X12_ahead (Y.1 3) (Y.1 5) (Y.1 10) (Y.1 17) (Y.1 18) (Y.1 19) (Y.2.1 1) (Y.2.1 2) (Y.2.1 3) (Y.2.1 4) (Y.2.1 5) (Y.2.1 6) (Y.2.1 7) (Y.2.1 8) (Y.2.1 9) (Y.2.1 20) x1 x2 x3) ∧ (F_X11_ahead (X.1 1) (X.1 2) (X.1 3) (X.1 5) (X.2.1 1) (X.2.1 4) (X.2.1 5) (X.2.1 6) (X.2.1 7) (X.2.1 8) (X.2.1 9) (X.2.1 10) (X.2.1 11) (X.2.1 12) (X.2.1 (26 + 1 * (sel3 x1))) (X.1 51) (X.1 52) (X.1 53) (X.1 54) (X.1 55) (X.1 56) (X.1 57) (X.1 58) (X.1 59) (X.2.1 32) (X.2.1 33) x1 x2 x3).1 = (F_X12_ahead (Y.1 3) (Y.1 5) (Y.1 10) (Y.1 11) (Y.1 12) (Y.1 13) (Y.1 14) (Y.1 15) (Y.1 16) (Y.1 17) (Y.1 18) (Y.1 19) (Y.2.1 1) (Y.2.1 2) (Y.2.1 3) (Y.2.1 4) (Y.2.1 5) (Y.2.1 6) (Y.2.1 7) (Y.2.1 8) (Y.2.1 9) (Y.2.1 20) x1 x2 x3).1 := by
    obtain ⟨c, tx, L, A, ⟨R, Fx1, G⟩, ⟨S, n3, g4⟩, T, U, V, W, Q⟩ := hR
    unfold ok_X11_ahead F_X11_ahead ok_X12_ahead F_X12_ahead F_X11_canBegin
    obtain ⟨bo, bb⟩ := bgn R S x2
    rw [n3]
    rcases rul x1 with ⟨e1, e2⟩ | ⟨r, hr, ex, e1, e2, e3⟩
    · rw [e1, e2, if_pos rfl, if_pos rfl, if_neg i10]
      exact ⟨fun y => absurd rfl y, fun y => absurd y i10, rfl⟩
    · rw [e1, e2, if_neg i10, if_pos rfl, e3]
      rcases bb with ⟨f1, f2⟩ | ⟨k, bk, hk, fx, f1, f2⟩
      · rw [f1, f2, if_pos rfl, if_pos rfl, if_neg i10]
        exact ⟨fun y => absurd rfl y, fun _ => ⟨bo, fun y => absurd y i10⟩, rfl⟩
      · rw [f1, f2, if_neg i10, if_neg i10, if_pos rfl, ex, fx]
        obtain ⟨u1, u2⟩ := RuA_at U hr
        have bo' : ok_X12_noBegin (nI k) := fx ▸ bo
        have hv : vp_in (nI r) 3 := vp_in_nI hr (by decide)
        have hrf : rf3 (a 31) (a 33) (a 35) (nI r).toNatClampNeg = some (a (31 + 2 * r)) := by rw [nI_clamp (by omega)]; exact rf3_at rfl rfl rfl hr
        obtain ⟨p1, p2⟩ := run_X R u1 bk (X.2.1 32) (X.2.1 33)
        rcases hou x3 with ⟨h1, h2⟩ | ⟨h, hh, hx, h1, h2⟩
        · rw [h1, h2, if_pos rfl, if_neg i10]
          exact ⟨fun _ y => absurd rfl y, fun _ => ⟨bo', fun _ y => absurd y i10⟩, rfl⟩
        · rw [h1, h2, if_neg i10, if_pos rfl, hx, p2]
          obtain ⟨q1, d', m', q2⟩ := go_Y S (r := r) (by omega) u2 bk (u := h) (by omega) (Y.1 17) (Y.1 18) (Y.1 19)
          rw [q2]
          dsimp only
          unfold ok_X11_ahead_b37 F_X11_ahead_b37 F_X12_ahead_b36
          refine ⟨fun _ _ => ⟨hv, hrf, p1, vp_in_nI hh (by decide)⟩, fun _ => ⟨bo', fun _ _ => q1⟩, ?_⟩
          dsimp only
          rw [nI_clamp (by omega), if_pos hh]
  refine ⟨key.1, key.2.1, ?_, Rl_keep hR ?_ ?_ ?_ ?_⟩
  · show (nX_ahead a X x1 x2 x3).1 = (nY_ahead b Y x1 x2 x3).1
    unfold nX_ahead nY_ahead
    exact key.2.2
  · unfold nX_ahead; dsimp only; exact (st1_keep rfl (st1_keep rfl (st1_keep rfl (st1_keep rfl (st1_keep rfl (st1_keep rfl (st1_keep rfl (st1_keep rfl (st1_keep rfl (fun _ _ => rfl))))))))))
  · unfold nX_ahead; dsimp only; exact (st1_keep rfl (st1_keep rfl (fun _ _ => rfl)))
  · unfold nY_ahead; dsimp only; exact (st1_keep rfl (st1_keep rfl (st1_keep rfl (st1_keep rfl (st1_keep rfl (st1_keep rfl (st1_keep rfl (st1_keep rfl (st1_keep rfl (st1_keep rfl (fun _ _ => rfl)))))))))))
  · unfold nY_ahead; dsimp only; exact (fun _ _ => rfl)
theorem op_outside : Op_outside Rl := by
  intro x1 x2 x3 X Y a b hR
  have key : (ok_X11_outside (a (31 + 2 * (sel3 x1))) (X.1 1) (X.1 2) (X.1 3) (X.1 5) (X.2.1 1) (X.2.1 4) (X.2.1 5) (X.2.1 6) (X.2.1 7) (X.2.1 8) (X.2.1 9) (X.2.1 10) (X.2.1 11) (X.2.1 12) (rf3 (a 31) (a 33) (a 35)) (X.2.1 (26 + 1 * (sel3 x1))) (X.2.1 32) (X.2.1 33) x1 x2 x3) ∧ (ok_X12_outside (Y.1 3) (Y.1 5) (Y.1 10) (Y.1 17) (Y.1 18) (Y.1 19) (Y.2.1 1) (Y.2.1 2) (Y.2.1 3) (Y.2.1 4) (Y.2.1 5) (Y.2.1 6) (Y.2.1 7) (Y.2.1 8) (Y.2.1 9) (Y.2.1 20) x1 x2 x3) ∧ (F_X11_outside (X.1 1) (X.1 2) (X.1 3) (X.1 5) (X.2.1 1) (X.2.1 4) (X.2.1 5) (X.2.1 6) (X.2.1 7) (X.2.1 8) (X.2.1 9) (X.2.1 10) (X.2.1 11) (X.2.1 12) (X.2.1 (26 + 1 * (sel3 x1))) (X.1 51) (X.1 52) (X.1 53) (X.1 54) (X.1 55) (X.1 56) (X.1 57) (X.1 58) (X.1 59) (X.2.1 32) (X.2.1 33) x1 x2 x3).1 = (F_X12_outside (Y.1 3) (Y.1 5) (Y.1 10) (Y.1 11) (Y.1 12) (Y.1 13) (Y.1 14) (Y.1 15) (Y.1 16) (Y.1 17) (Y.1 18) (Y.1 19) (Y.2.1 1) (Y.2.1 2) (Y.2.1 3) (Y.2.1 4) (Y.2.1 5) (Y.2.1 6) (Y.2.1 7) (Y.2.1 8) (Y.2.1 9) (Y.2.1 20) x1 x2 x3).1 := by
    obtain ⟨c, tx, L, A, ⟨R, Fx1, G⟩, ⟨S, n3, g4⟩, T, U, V, W, Q⟩ := hR
    unfold ok_X11_outside F_X11_outside ok_X12_outside F_X12_outside F_X11_canBegin
    obtain ⟨bo, bb⟩ := bgn R S x2
    rw [n3]
    rcases rul x1 with ⟨e1, e2⟩ | ⟨r, hr, ex, e1, e2, e3⟩
    · rw [e1, e2, if_pos rfl, if_pos rfl, if_neg i10]
      exact ⟨fun y => absurd rfl y, fun y => absurd y i10, rfl⟩
    · rw [e1, e2, if_neg i10, if_pos rfl, e3]
      rcases bb with ⟨f1, f2⟩ | ⟨k, bk, hk, fx, f1, f2⟩
      · rw [f1, f2, if_pos rfl, if_pos rfl, if_neg i10]
        exact ⟨fun y => absurd rfl y, fun _ => ⟨bo, fun y => absurd y i10⟩, rfl⟩
      · rw [f1, f2, if_neg i10, if_neg i10, if_pos rfl, ex, fx]
        obtain ⟨u1, u2⟩ := RuA_at U hr
        have bo' : ok_X12_noBegin (nI k) := fx ▸ bo
        have hv : vp_in (nI r) 3 := vp_in_nI hr (by decide)
        have hrf : rf3 (a 31) (a 33) (a 35) (nI r).toNatClampNeg = some (a (31 + 2 * r)) := by rw [nI_clamp (by omega)]; exact rf3_at rfl rfl rfl hr
        obtain ⟨p1, p2⟩ := run_X R u1 bk (X.2.1 32) (X.2.1 33)
        rcases hou x3 with ⟨h1, h2⟩ | ⟨h, hh, hx, h1, h2⟩
        · rw [h1, h2, if_pos rfl, if_neg i10]
          exact ⟨fun _ y => absurd rfl y, fun _ => ⟨bo', fun _ y => absurd y i10⟩, rfl⟩
        · rw [h1, h2, if_neg i10, if_pos rfl, hx, p2]
          obtain ⟨q1, d', m', q2⟩ := go_Y S (r := r) (by omega) u2 bk (u := h + 1) (by omega) (Y.1 17) (Y.1 18) (Y.1 19)
          rw [nI_1]
          rw [q2]
          dsimp only
          unfold ok_X11_outside_b37 F_X11_outside_b37 F_X12_outside_b38
          refine ⟨fun _ _ => ⟨hv, hrf, p1, vp_in_nI hh (by decide)⟩, fun _ => ⟨bo', fun _ _ => q1⟩, ?_⟩
          dsimp only
          rw [nI_clamp (by omega), if_pos hh]; rfl
  refine ⟨key.1, key.2.1, ?_, Rl_keep hR ?_ ?_ ?_ ?_⟩
  · show (nX_outside a X x1 x2 x3).1 = (nY_outside b Y x1 x2 x3).1
    unfold nX_outside nY_outside
    exact key.2.2
  · unfold nX_outside; dsimp only; exact (st1_keep rfl (st1_keep rfl (st1_keep rfl (st1_keep rfl (st1_keep rfl (st1_keep rfl (st1_keep rfl (st1_keep rfl (st1_keep rfl (fun _ _ => rfl))))))))))
  · unfold nX_outside; dsimp only; exact (st1_keep rfl (st1_keep rfl (fun _ _ => rfl)))
  · unfold nY_outside; dsimp only; exact (st1_keep rfl (st1_keep rfl (st1_keep rfl (st1_keep rfl (st1_keep rfl (st1_keep rfl (st1_keep rfl (st1_keep rfl (st1_keep rfl (st1_keep rfl (fun _ _ => rfl)))))))))))
  · unfold nY_outside; dsimp only; exact (fun _ _ => rfl)

/-! calls: what the club is -/
theorem op_session : Op_session Rl := by
  intro x1 x2 X Y a b hR
  have key : (ok_X11_session (X.1 2) x1 x2) ∧ (ok_X12_session (Y.1 5) x1 x2) ∧ (F_X11_session (X.1 2) (X.2.1 1) (X.2.1 2) (X.2.1 3) x1 x2) = (F_X12_session (Y.1 5) (Y.2.1 1) (Y.2.1 2) (Y.2.1 3) x1 x2).1 := by
    obtain ⟨c, tx, L, A, ⟨R, Fx1, G⟩, ⟨S, n3, g4⟩, T, U, V, W, Q⟩ := hR
    unfold ok_X11_session F_X11_session ok_X12_session F_X12_session
    have s8 := R.1.s8
    rw [show Y.1 5 = nI (kS c) from S.2.1]
    rcases ses R x1 with ⟨e1, e2⟩ | ⟨s, hs, ex, e1, e2⟩
    · rw [e1, e2, if_pos rfl, if_neg i10]
      exact ⟨fun y => absurd rfl y, fun y => absurd y i10, rfl⟩
    · rw [e1, e2, if_neg i10, if_pos rfl, ex, nI_clamp (by omega), (Fx1 s hs).1, (Fx1 s hs).2, (S.2.2.2.1 s hs).1, (S.2.2.2.1 s hs).2.1, (S.2.2.2.1 s hs).2.2, R.2.2.2.2.2.1 s hs]
      have hv : vp_in (nI s) 8 := vp_in_nI (by omega) (by decide)
      exact ⟨fun _ => ⟨fun _ => hv, fun _ => ⟨fun _ => hv, fun _ _ => hv⟩⟩, fun _ => ⟨fun _ => hv, fun _ => ⟨fun _ => hv, fun _ _ => hv⟩⟩, rfl⟩
  refine ⟨key.1, key.2.1, ?_, Rl_keep hR ?_ ?_ ?_ ?_⟩
  · show (nX_session a X x1 x2).1 = (nY_session b Y x1 x2).1
    unfold nX_session nY_session
    exact key.2.2
  · exact fun _ _ => rfl
  · exact fun _ _ => rfl
  · unfold nY_session; dsimp only; exact (st1_keep rfl (fun _ _ => rfl))
  · unfold nY_session; dsimp only; exact (fun _ _ => rfl)
theorem op_place : Op_place Rl := by
  intro x1 x2 X Y a b hR
  have key : (ok_X11_place (X.1 3) x1 x2) ∧ (ok_X12_place (Y.2.1 4) x1 x2) ∧ (F_X11_place (X.1 3) (X.2.1 4) (X.2.1 5) (X.2.1 6) (X.2.1 7) x1 x2) = (F_X12_place (Y.2.1 4) (Y.2.1 5) (Y.2.1 6) (Y.2.1 7) (Y.2.1 8) x1 x2).1 := by
    obtain ⟨c, tx, L, A, ⟨R, Fx1, G⟩, ⟨S, n3, g4⟩, T, U, V, W, Q⟩ := hR
    unfold ok_X11_place F_X11_place ok_X12_place F_X12_place
    have i3 : F_X12_in x1.toInt64 0 3 = (if x1 < 0 then 0 else if (4 : Int32) ≤ x1 then 0 else 1) := in_0 x1 (K := 3) (by decide)
    rw [i3]
    by_cases h0 : x1 < 0
    · unfold F_X1_isPlace
      rw [if_pos h0, if_pos h0, if_pos rfl, if_pos rfl]
      exact ⟨fun y => absurd rfl y, fun y => absurd rfl y, rfl⟩
    · by_cases h4 : (4 : Int32) ≤ x1
      · unfold F_X1_isPlace
        rw [if_neg h0, if_pos h4, if_neg h0, if_pos h4, if_pos rfl, if_pos rfl]
        exact ⟨fun y => absurd rfl y, fun y => absurd rfl y, rfl⟩
      · obtain ⟨p, hp, ex⟩ := arg_in (N := 4) (by decide) h0 h4
        rw [if_neg h0, if_neg h4, if_neg i10, ex, isPlace_b R.2.2.2.1 (by omega), decide_eq_true hp, Bool.true_and, nI_clamp (by omega), (S.2.2.2.2.1 p hp).1]
        have hv : vp_in (nI p) 4 := vp_in_nI hp (by decide)
        cases e : kP c p with
        | false =>
          rw [if_pos bI_f, if_pos bI_f]
          exact ⟨fun y => absurd rfl y, fun _ => ⟨hv, fun y => absurd rfl y⟩, rfl⟩
        | true =>
          obtain ⟨a1, a2, a3, a4⟩ := R.2.2.2.2.2.2.1 p hp e
          obtain ⟨b1, b2, b3, b4⟩ := (S.2.2.2.2.1 p hp).2 e
          rw [if_neg bI_tn, if_neg bI_tn, a1, a2, a3, a4, b1, b2, b3, b4]
          exact ⟨fun _ => ⟨fun _ => hv, fun _ => ⟨fun _ => hv, fun _ => ⟨fun _ => hv, fun _ _ => hv⟩⟩⟩, fun _ => ⟨hv, fun _ => ⟨fun _ => hv, fun _ => ⟨fun _ => hv, fun _ => ⟨fun _ => hv, fun _ _ => hv⟩⟩⟩⟩, rfl⟩
  refine ⟨key.1, key.2.1, ?_, Rl_keep hR ?_ ?_ ?_ ?_⟩
  · show (nX_place a X x1 x2).1 = (nY_place b Y x1 x2).1
    unfold nX_place nY_place
    exact key.2.2
  · exact fun _ _ => rfl
  · exact fun _ _ => rfl
  · unfold nY_place; dsimp only; exact (st1_keep rfl (fun _ _ => rfl))
  · unfold nY_place; dsimp only; exact (fun _ _ => rfl)
theorem op_home : Op_home Rl := by
  intro x1 X Y a b hR
  have key : (ok_X11_home (X.1 1) x1) ∧ (ok_X12_home (Y.1 3) x1) ∧ (F_X11_home (X.1 1) (X.2.1 8) x1) = (F_X12_home (Y.1 3) (Y.2.1 9) x1).1 := by
    obtain ⟨c, tx, L, A, ⟨R, Fx1, G⟩, ⟨S, n3, g4⟩, T, U, V, W, Q⟩ := hR
    unfold ok_X11_home F_X11_home ok_X12_home F_X12_home
    have n6 := R.1.n6
    have n1 := R.1.1.1
    rw [n3, show nI (kN c) - 1 = nI (kN c - 1) from pk_sub (b := 1) n1, nI_l (by omega), show F_X12_in x1.toInt64 0 (lN (kN c - 1)) = _ from in_0 x1 (by omega), show kN c - 1 + 1 = kN c by omega, R.2.1]
    unfold F_X1_isPerson
    by_cases h0 : x1 < 0
    · rw [if_pos h0, if_pos h0, if_pos rfl, if_pos rfl]
      exact ⟨fun y => absurd rfl y, fun y => absurd rfl y, rfl⟩
    · by_cases h4 : nI (kN c) ≤ x1
      · rw [if_neg h0, if_pos h4, if_neg h0, if_pos h4, if_pos rfl, if_pos rfl]
        exact ⟨fun y => absurd rfl y, fun y => absurd rfl y, rfl⟩
      · obtain ⟨p, hp, ex⟩ := arg_in (by omega) h0 h4
        have hv : vp_in (nI p) 6 := vp_in_nI (by omega) (by decide)
        rw [if_neg h0, if_neg h4, if_neg h0, if_neg h4, ex, if_neg (le_lit (K := 6) 6 rfl (by omega) (by decide)), if_neg i10, if_neg i10, nI_clamp (by omega), R.2.2.2.2.2.2.2.2.1 p hp, S.2.2.2.2.2 p hp]
        exact ⟨fun _ => hv, fun _ => hv, rfl⟩
  refine ⟨key.1, key.2.1, ?_, Rl_keep hR ?_ ?_ ?_ ?_⟩
  · show (nX_home a X x1).1 = (nY_home b Y x1).1
    unfold nX_home nY_home
    exact key.2.2
  · exact fun _ _ => rfl
  · exact fun _ _ => rfl
  · unfold nY_home; dsimp only; exact (st1_keep rfl (fun _ _ => rfl))
  · unfold nY_home; dsimp only; exact (fun _ _ => rfl)
theorem op_live : Op_live Rl := by
  intro x1 X Y a b hR
  have key : True ∧ (ok_X12_live x1) ∧ (F_X11_live (X.1 24) (X.1 26) (X.1 27) (X.1 28) (X.1 29) (X.1 30) x1) = (F_X12_live (Y.2.1 22) x1).1 := by
    obtain ⟨c, tx, L, A, ⟨R, Fx1, G⟩, ⟨S, n3, g4⟩, T, U, V, W, Q⟩ := hR
    unfold F_X11_live ok_X12_live F_X12_live
    obtain ⟨n, z, v1, v2, v3, v4, v5, v6, w0, w1, w2, w3, w4, w5, w6⟩ := V
    by_cases h0 : x1 = 0
    · rw [if_pos h0, if_pos h0]
      exact ⟨trivial, ⟨fun _ => vp_in_nI (n := 0) (by decide) (by decide), fun y => absurd h0 y⟩, w0.symm⟩
    · rw [if_neg h0, if_neg h0]
      by_cases hn : x1 < 0
      · have i1 : F_X12_in x1.toInt64 1 5 = 0 := in_neg hn (a := 1) (by decide) 5
        have ne : ∀ y : Int32, ¬ y < 0 → ¬ x1 = y := fun y hy q => hy (q ▸ hn)
        rw [i1, if_pos rfl, if_neg (ne 1 (by decide)), if_neg (ne 2 (by decide)), if_neg (ne 3 (by decide)), if_neg (ne 4 (by decide)), if_neg (ne 5 (by decide))]
        exact ⟨trivial, ⟨fun y => absurd y h0, fun _ y => absurd rfl y⟩, rfl⟩
      · obtain ⟨j, hj, ex⟩ := nI_of hn
        have i1 : F_X12_in x1.toInt64 1 5 = bI (decide (1 ≤ j) && decide (j ≤ 5)) := by rw [ex, nI_l hj]; exact in_N (a := 1) (b := 5) hj (by decide) (by decide)
        rw [i1, ex]
        have e1 := eq_lit (K := 1) (k := j) 1 rfl hj (by decide)
        have e2 := eq_lit (K := 2) (k := j) 2 rfl hj (by decide)
        have e3 := eq_lit (K := 3) (k := j) 3 rfl hj (by decide)
        have e4 := eq_lit (K := 4) (k := j) 4 rfl hj (by decide)
        have e5 := eq_lit (K := 5) (k := j) 5 rfl hj (by decide)
        have e0 : ¬ j = 0 := fun q => h0 (by rw [ex, q]; rfl)
        by_cases hb : j ≤ 5
        · have hc : j = 1 ∨ j = 2 ∨ j = 3 ∨ j = 4 ∨ j = 5 := by omega
          have hv : vp_in (nI j + 1) 7 := by rw [nI_1]; exact vp_in_nI (by omega) (by decide)
          refine ⟨trivial, ⟨fun y => absurd (ex.trans y) h0, fun _ _ => hv⟩, ?_⟩
          rw [decide_eq_true (show 1 ≤ j by omega), decide_eq_true hb, Bool.and_true, if_neg bI_tn, nI_1, nI_clamp (by omega)]
          dsimp only
          rcases hc with q | q | q | q | q
          · rw [if_pos (e1.mpr q), q]; exact w2.symm
          · rw [if_neg (fun y => by have := e1.mp y; omega), if_pos (e2.mpr q), q]; exact w3.symm
          · rw [if_neg (fun y => by have := e1.mp y; omega), if_neg (fun y => by have := e2.mp y; omega), if_pos (e3.mpr q), q]; exact w4.symm
          · rw [if_neg (fun y => by have := e1.mp y; omega), if_neg (fun y => by have := e2.mp y; omega), if_neg (fun y => by have := e3.mp y; omega), if_pos (e4.mpr q), q]; exact w5.symm
          · rw [if_neg (fun y => by have := e1.mp y; omega), if_neg (fun y => by have := e2.mp y; omega), if_neg (fun y => by have := e3.mp y; omega), if_neg (fun y => by have := e4.mp y; omega), if_pos (e5.mpr q), q]; exact w6.symm
        · rw [decide_eq_false hb, Bool.and_false, if_pos bI_f, if_neg (fun y => by have := e1.mp y; omega), if_neg (fun y => by have := e2.mp y; omega), if_neg (fun y => by have := e3.mp y; omega), if_neg (fun y => by have := e4.mp y; omega), if_neg (fun y => by have := e5.mp y; omega)]
          exact ⟨trivial, ⟨fun y => absurd (ex.trans y) h0, fun _ y => absurd rfl y⟩, rfl⟩
  refine ⟨key.1, key.2.1, ?_, Rl_keep hR ?_ ?_ ?_ ?_⟩
  · show (nX_live a X x1).1 = (nY_live b Y x1).1
    unfold nX_live nY_live
    exact key.2.2
  · exact fun _ _ => rfl
  · exact fun _ _ => rfl
  · unfold nY_live; dsimp only; exact (st1_keep rfl (fun _ _ => rfl))
  · unfold nY_live; dsimp only; exact (fun _ _ => rfl)
theorem op_fits : Op_fits Rl := by
  intro x1 x2 X Y a b hR
  have key : (ok_X11_fits (X.1 2) (X.2.1 1) (X.2.1 2) (X.2.1 3) x1 x2) ∧ (ok_X12_fits (Y.1 5) (Y.2.1 1) (Y.2.1 2) (Y.2.1 3) x1 x2) ∧ (F_X11_fits (X.1 2) (X.2.1 1) (X.2.1 2) (X.2.1 3) x1 x2) = (F_X12_fits (Y.1 5) (Y.2.1 1) (Y.2.1 2) (Y.2.1 3) x1 x2).1 := by
    obtain ⟨c, tx, L, A, ⟨R, Fx1, G⟩, ⟨S, n3, g4⟩, T, U, V, W, Q⟩ := hR
    unfold ok_X11_fits F_X11_fits ok_X12_fits F_X12_fits
    have s8 := R.1.s8
    have hp := R.2.2.2.2.2.1
    rcases ses R x1 with ⟨e1, e2⟩ | ⟨s, hs, ex, e1, e2⟩
    · rw [e1, show Y.1 5 = nI (kS c) from S.2.1, e2, if_pos rfl, if_neg i10]
      exact ⟨fun y => absurd rfl y, fun y => absurd y i10, rfl⟩
    · rw [e1, show F_X12_noSession (Y.1 5) x1 = 0 by rw [show Y.1 5 = nI (kS c) from S.2.1]; exact e2, if_neg i10, if_pos rfl]
      rcases hou x2 with ⟨f1, f2⟩ | ⟨h, hh, hx, f1, f2⟩
      · rw [f1, f2, if_pos rfl, if_neg i10]
        exact ⟨fun _ y => absurd rfl y, fun _ y => absurd y i10, rfl⟩
      · obtain ⟨m1, m2⟩ := mb_X R.1 hp Fx1 hs hh
        obtain ⟨m3, m4⟩ := mb_Y S hs hh
        rw [f1, f2, if_neg i10, if_pos rfl, ex, hx, show X.1 2 = nI (kS c) from R.2.2.1, m2, m4]
        exact ⟨fun _ _ => m1, fun _ _ => m3, rfl⟩
  refine ⟨key.1, key.2.1, ?_, Rl_keep hR ?_ ?_ ?_ ?_⟩
  · show (nX_fits a X x1 x2).1 = (nY_fits b Y x1 x2).1
    unfold nX_fits nY_fits
    exact key.2.2
  · exact fun _ _ => rfl
  · exact fun _ _ => rfl
  · unfold nY_fits; dsimp only; exact (st1_keep rfl (fun _ _ => rfl))
  · unfold nY_fits; dsimp only; exact (fun _ _ => rfl)

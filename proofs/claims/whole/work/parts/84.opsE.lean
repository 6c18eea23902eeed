/-! calls: weeks for ever -/
theorem evs_loop {F : Nat → Nat} {m n : Nat} (hn : n ≤ 10) {x3 : Int32} {a1 a2 a3 : Nat → Int32} (hF : ∀ j, j < n → (if x3 = 2 then a1 j else (if x3 = 3 then a2 j else (if x3 = 4 then a3 j else 0))) = nI (F j)) : ∀ f d, m + d ≤ n → n < m + d + f → ok_X12_ever_L52 x3 (nI m) (nI (n - m)) a1 a2 a3 f (nI (sm F m d)) (nI (m + d)) ∧ F_X12_ever_L52 x3 (nI m) (nI (n - m)) a1 a2 a3 f (nI (sm F m d)) (nI (m + d)) = nI (sm F m (n - m)) := by
  intro f
  induction f with
  | zero => intro d h1 h2; omega
  | succ f ih =>
    intro d h1 h2
    rw [ok_X12_ever_L52_s, F_X12_ever_L52_s, nI_add, show m + (n - m) = n by omega]
    by_cases e : m + d = n
    · rw [e, if_pos (Int32.le_refl _)]
      refine ⟨fun q => absurd (Int32.le_refl _) q, ?_⟩
      rw [show n - m = d by omega]
    · rw [if_neg (nI_ge (by omega) (by omega)), nI_clamp (by omega), hF (m + d) (by omega)]
      dsimp only
      unfold ok_X12_ever_52_b117 F_X12_ever_52_b117
      obtain ⟨g1, g2⟩ := ih (d + 1) (by omega) (by omega)
      have hv : vp_in (nI (m + d)) 20 := vp_in_nI (by omega) (by decide)
      rw [sm, ← nI_add, show m + (d + 1) = m + d + 1 by omega, ← nI_1] at g1 g2
      exact ⟨fun _ => ⟨⟨fun _ => hv, fun _ => ⟨fun _ => hv, fun _ _ => hv⟩⟩, g1⟩, g2⟩
theorem x_cases (x : Int32) (N : Nat) (hN : N < 2 ^ 31) (h0 : ¬ x < 0) (h1 : x ≤ nI N) : ∃ j, j ≤ N ∧ x = nI j := by
  obtain ⟨j, hj, e⟩ := nI_of h0
  refine ⟨j, ?_, e⟩
  apply Nat.le_of_not_lt
  intro q
  rw [e] at h1
  exact nI_ge q hj h1
theorem op_never : Op_never Rl := by
  intro x1 x2 X Y a b hR
  have key : (ok_X11_never (a (31 + 2 * (sel3 x1))) (X.1 1) (X.1 2) (X.1 3) (X.1 5) (X.2.1 1) (X.2.1 4) (X.2.1 5) (X.2.1 6) (X.2.1 7) (X.2.1 8) (X.2.1 9) (X.2.1 10) (X.2.1 11) (X.2.1 12) (rf3 (a 31) (a 33) (a 35)) (X.2.1 (26 + 1 * (sel3 x1))) (X.1 65) (X.1 66) (X.1 67) (X.1 68) (X.1 69) (X.1 70) (X.1 71) (X.1 72) (X.1 73) (X.2.1 34) (X.2.1 35) x1 x2) ∧ (ok_X12_never (Y.1 3) (Y.1 5) (Y.1 10) (Y.1 11) (Y.1 12) (Y.1 13) (Y.1 14) (Y.1 15) (Y.1 16) (Y.1 17) (Y.1 18) (Y.1 19) (Y.2.1 1) (Y.2.1 2) (Y.2.1 3) (Y.2.1 4) (Y.2.1 5) (Y.2.1 6) (Y.2.1 7) (Y.2.1 8) (Y.2.1 9) (Y.2.1 20) (Y.2.1 26) (Y.2.1 27) (Y.2.1 28) (Y.2.1 29) x1 x2) ∧ (F_X11_never (X.1 1) (X.1 2) (X.1 3) (X.1 5) (X.2.1 1) (X.2.1 4) (X.2.1 5) (X.2.1 6) (X.2.1 7) (X.2.1 8) (X.2.1 9) (X.2.1 10) (X.2.1 11) (X.2.1 12) (X.2.1 (26 + 1 * (sel3 x1))) (X.1 65) (X.1 66) (X.1 67) (X.1 68) (X.1 69) (X.1 70) (X.1 71) (X.1 72) (X.1 73) (X.2.1 34) (X.2.1 35) x1 x2).1 = (F_X12_never (Y.1 3) (Y.1 5) (Y.1 10) (Y.1 11) (Y.1 12) (Y.1 13) (Y.1 14) (Y.1 15) (Y.1 16) (Y.1 17) (Y.1 18) (Y.1 19) (Y.1 20) (Y.1 21) (Y.2.1 1) (Y.2.1 2) (Y.2.1 3) (Y.2.1 4) (Y.2.1 5) (Y.2.1 6) (Y.2.1 7) (Y.2.1 8) (Y.2.1 9) (Y.2.1 20) (Y.2.1 26) (Y.2.1 27) (Y.2.1 28) (Y.2.1 29) x1 x2).1 := by
    obtain ⟨c, tx, L, A, ⟨R, Fx1, G⟩, ⟨S, n3, g4⟩, T, U, V, W, Q⟩ := hR
    unfold ok_X11_never F_X11_never ok_X12_never F_X12_never F_X11_canBegin
    obtain ⟨bo, bb⟩ := bgn R S x2
    rw [n3]
    rcases rul x1 with ⟨e1, e2⟩ | ⟨r, hr, ex, e1, e2, e3⟩
    · rw [e1, e2, if_pos rfl, if_pos rfl, if_neg i10]
      exact ⟨fun y => absurd rfl y, fun y => absurd y i10, rfl⟩
    · rw [e1, e2, if_neg i10, if_pos rfl, e3]
      rcases bb with ⟨f1, f2⟩ | ⟨k, bk, hk, fx, f1, f2⟩
      · rw [f1, f2, if_pos rfl, if_pos rfl, if_neg i10]
        exact ⟨fun y => absurd rfl y, fun _ => ⟨bo, fun y => absurd y i10⟩, rfl⟩
      · rw [f1, f2, if_neg i10, if_neg i10, if_pos rfl, ex, fx]
        obtain ⟨u1, u2⟩ := RuA_at U hr
        have bo' : ok_X12_noBegin (nI k) := fx ▸ bo
        have hv : vp_in (nI r) 3 := vp_in_nI hr (by decide)
        have hrf : rf3 (a 31) (a 33) (a 35) (nI r).toNatClampNeg = some (a (31 + 2 * r)) := by rw [nI_clamp (by omega)]; exact rf3_at rfl rfl rfl hr
        obtain ⟨m, n, hg⟩ := RG_ex R.1 (A := A r) bk
        obtain ⟨p1, p2⟩ := never_X R u1 bk hg (X.1 65) (X.1 66) (X.1 67) (X.1 68) (X.1 69) (X.1 70) (X.1 71) (X.1 72) (X.1 73) (X.2.1 34) (X.2.1 35)
        obtain ⟨q1, t1, t2, t3, t4, t5, t6, t7, t8, t9, N', f1', f2', f3', q2, -⟩ := never_Y S (r := r) (by omega) u2 bk hg (Y.1 11) (Y.1 12) (Y.1 13) (Y.1 14) (Y.1 15) (Y.1 16) (Y.1 17) (Y.1 18) (Y.1 19) (Y.2.1 26) (Y.2.1 27) (Y.2.1 28) (Y.2.1 29)
        rw [q2]
        dsimp only
        unfold F_X11_never_b29 F_X12_never_b30
        dsimp only
        rw [p2]
        exact ⟨fun _ => ⟨hv, hrf, p1⟩, fun _ => ⟨bo', fun _ => q1⟩, rfl⟩
  refine ⟨key.1, key.2.1, ?_, Rl_keep hR ?_ ?_ ?_ ?_⟩
  · show (nX_never a X x1 x2).1 = (nY_never b Y x1 x2).1
    unfold nX_never nY_never
    exact key.2.2
  · unfold nX_never; dsimp only; exact (st1_keep rfl (st1_keep rfl (st1_keep rfl (st1_keep rfl (st1_keep rfl (st1_keep rfl (st1_keep rfl (st1_keep rfl (st1_keep rfl (fun _ _ => rfl))))))))))
  · unfold nX_never; dsimp only; exact (st1_keep rfl (st1_keep rfl (fun _ _ => rfl)))
  · unfold nY_never; dsimp only; exact (st1_keep rfl (st1_keep rfl (st1_keep rfl (st1_keep rfl (st1_keep rfl (st1_keep rfl (st1_keep rfl (st1_keep rfl (st1_keep rfl (st1_keep rfl (st1_keep rfl (st1_keep rfl (fun _ _ => rfl)))))))))))))
  · unfold nY_never; dsimp only; exact (st1_keep rfl (st1_keep rfl (st1_keep rfl (st1_keep rfl (fun _ _ => rfl)))))
theorem op_ever : Op_ever Rl := by
  intro x1 x2 x3 X Y a b hR
  have key : (ok_X11_ever (a (31 + 2 * (sel3 x1))) (X.1 1) (X.1 2) (X.1 3) (X.1 5) (X.2.1 1) (X.2.1 4) (X.2.1 5) (X.2.1 6) (X.2.1 7) (X.2.1 8) (X.2.1 9) (X.2.1 10) (X.2.1 11) (X.2.1 12) (rf3 (a 31) (a 33) (a 35)) (X.2.1 (26 + 1 * (sel3 x1))) (X.1 65) (X.1 66) (X.1 67) (X.1 68) (X.1 69) (X.1 70) (X.1 71) (X.1 72) (X.1 73) (X.2.1 34) (X.2.1 35) (X.2.1 36) x1 x2 x3) ∧ (ok_X12_ever (Y.1 3) (Y.1 5) (Y.1 10) (Y.1 11) (Y.1 12) (Y.1 13) (Y.1 14) (Y.1 15) (Y.1 16) (Y.1 17) (Y.1 18) (Y.1 19) (Y.2.1 1) (Y.2.1 2) (Y.2.1 3) (Y.2.1 4) (Y.2.1 5) (Y.2.1 6) (Y.2.1 7) (Y.2.1 8) (Y.2.1 9) (Y.2.1 20) (Y.2.1 26) (Y.2.1 27) (Y.2.1 28) (Y.2.1 29) x1 x2 x3) ∧ (F_X11_ever (X.1 1) (X.1 2) (X.1 3) (X.1 5) (X.2.1 1) (X.2.1 4) (X.2.1 5) (X.2.1 6) (X.2.1 7) (X.2.1 8) (X.2.1 9) (X.2.1 10) (X.2.1 11) (X.2.1 12) (X.2.1 (26 + 1 * (sel3 x1))) (X.1 60) (X.1 61) (X.1 62) (X.1 63) (X.1 64) (X.1 65) (X.1 66) (X.1 67) (X.1 68) (X.1 69) (X.1 70) (X.1 71) (X.1 72) (X.1 73) (X.2.1 34) (X.2.1 35) (X.2.1 36) x1 x2 x3).1 = (F_X12_ever (Y.1 3) (Y.1 5) (Y.1 10) (Y.1 11) (Y.1 12) (Y.1 13) (Y.1 14) (Y.1 15) (Y.1 16) (Y.1 17) (Y.1 18) (Y.1 19) (Y.1 20) (Y.1 21) (Y.2.1 1) (Y.2.1 2) (Y.2.1 3) (Y.2.1 4) (Y.2.1 5) (Y.2.1 6) (Y.2.1 7) (Y.2.1 8) (Y.2.1 9) (Y.2.1 20) (Y.2.1 26) (Y.2.1 27) (Y.2.1 28) (Y.2.1 29) x1 x2 x3).1 := by
    obtain ⟨c, tx, L, A, ⟨R, Fx1, G⟩, ⟨S, n3, g4⟩, T, U, V, W, Q⟩ := hR
    unfold ok_X11_ever F_X11_ever ok_X12_ever F_X12_ever F_X11_canBegin
    obtain ⟨bo, bb⟩ := bgn R S x2
    rw [n3]
    rcases rul x1 with ⟨e1, e2⟩ | ⟨r, hr, ex, e1, e2, e3⟩
    · rw [e1, e2, if_pos rfl, if_pos rfl, if_neg i10]
      exact ⟨fun y => absurd rfl y, fun y => absurd y i10, rfl⟩
    · rw [e1, e2, if_neg i10, if_pos rfl, e3]
      rcases bb with ⟨f1, f2⟩ | ⟨k, bk, hk, fx, f1, f2⟩
      · rw [f1, f2, if_pos rfl, if_pos rfl, if_neg i10]
        exact ⟨fun y => absurd rfl y, fun _ => ⟨bo, fun y => absurd y i10⟩, rfl⟩
      · rw [f1, f2, if_neg i10, if_neg i10, if_pos rfl, ex, fx]
        obtain ⟨u1, u2⟩ := RuA_at U hr
        have bo' : ok_X12_noBegin (nI k) := fx ▸ bo
        have hv : vp_in (nI r) 3 := vp_in_nI hr (by decide)
        have hrf : rf3 (a 31) (a 33) (a 35) (nI r).toNatClampNeg = some (a (31 + 2 * r)) := by rw [nI_clamp (by omega)]; exact rf3_at rfl rfl rfl hr
        obtain ⟨m, n, hg⟩ := RG_ex R.1 (A := A r) bk
        obtain ⟨p1, v1, v2, v3, v4, v5, v6, v7, v8, v9, kA', sA', N1, p2⟩ := ring_X R u1 bk hg (X.1 65) (X.1 66) (X.1 67) (X.1 68) (X.1 69) (X.1 70) (X.1 71) (X.1 72) (X.1 73) (X.2.1 34) (X.2.1 35) (X.2.1 36)
        obtain ⟨q1, t1, t2, t3, t4, t5, t6, t7, t8, t9, N', f1', f2', f3', q2, q3⟩ := ever_Y S (r := r) (by omega) u2 bk hg (Y.1 11) (Y.1 12) (Y.1 13) (Y.1 14) (Y.1 15) (Y.1 16) (Y.1 17) (Y.1 18) (Y.1 19) (Y.2.1 26) (Y.2.1 27) (Y.2.1 28) (Y.2.1 29)
        have i4 : F_X12_in x3.toInt64 0 4 = (if x3 < 0 then 0 else if (5 : Int32) ≤ x3 then 0 else 1) := in_0 x3 (K := 4) (by decide)
        rw [i4]
        by_cases z0 : x3 < 0
        · rw [if_pos z0, if_pos z0, if_pos rfl]
          exact ⟨fun _ y => absurd z0 y, fun _ => ⟨bo', fun _ y => absurd rfl y⟩, rfl⟩
        · by_cases z4 : x3 ≤ 4
          · obtain ⟨j, j1, j2⟩ := x_cases x3 4 (by decide) z0 z4
            have z5 : ¬ (5 : Int32) ≤ x3 := by rw [j2]; exact le_lit (K := 5) 5 rfl (by omega) (by decide)
            rw [if_neg z0, if_pos z4, if_neg z0, if_neg z5, if_neg i10, p2, q2]
            dsimp only
            unfold F_X11_ever_b41 F_X12_ever_b43 ok_X12_ever_b43 F_X12_ever_b123
            have hl := fun (F : Nat → Nat) (hF : ∀ j, j < n → (if x3 = 2 then f1' j else (if x3 = 3 then f2' j else (if x3 = 4 then f3' j else 0))) = nI (F j)) => evs_loop (m := m) hg.2.1 hF FU 0 (by have := hg.1; omega) (by have := FU_ge; have := hg.2.1; omega)
            have e : j = 0 ∨ j = 1 ∨ j = 2 ∨ j = 3 ∨ j = 4 := by omega
            have c2 := eq_lit (K := 2) (k := j) 2 rfl (by omega) (by decide)
            have c3 := eq_lit (K := 3) (k := j) 3 rfl (by omega) (by decide)
            have c4 := eq_lit (K := 4) (k := j) 4 rfl (by omega) (by decide)
            rcases e with e | e | e | e | e
            · obtain ⟨l1, l2⟩ := hl (fun _ => 0) (fun i hi => by rw [j2, if_neg (fun y => by have := c2.mp y; omega), if_neg (fun y => by have := c3.mp y; omega), if_neg (fun y => by have := c4.mp y; omega)]; rfl)
              have e' : x3 = 0 := by rw [j2, e]; rfl
              refine ⟨fun _ _ _ => ⟨hv, hrf, p1⟩, fun _ => ⟨bo', fun _ _ => ⟨q1, l1⟩⟩, ?_⟩
              dsimp only
              rw [if_pos e', if_pos e']
            · obtain ⟨l1, l2⟩ := hl (fun _ => 0) (fun i hi => by rw [j2, if_neg (fun y => by have := c2.mp y; omega), if_neg (fun y => by have := c3.mp y; omega), if_neg (fun y => by have := c4.mp y; omega)]; rfl)
              have e' : x3 = 1 := by rw [j2, e]; rfl
              refine ⟨fun _ _ _ => ⟨hv, hrf, p1⟩, fun _ => ⟨bo', fun _ _ => ⟨q1, l1⟩⟩, ?_⟩
              dsimp only
              rw [if_neg (show ¬ (x3 = 0) by rw [e']; decide), if_pos e', if_neg (show ¬ (x3 = 0) by rw [e']; decide), if_pos e']
            · have e' : x3 = 2 := by rw [j2, e]; rfl
              obtain ⟨l1, l2⟩ := hl (fun j => wW c (A r) nf (xw c (A r) k j) 10) (fun i hi => by rw [if_pos e']; exact (q3 i hi).1)
              refine ⟨fun _ _ _ => ⟨hv, hrf, p1⟩, fun _ => ⟨bo', fun _ _ => ⟨q1, l1⟩⟩, ?_⟩
              have l2' : F_X12_ever_L52 x3 (nI m) (nI (n - m)) f1' f2' f3' FU 0 (nI m) = _ := l2
              rw [l2']
              dsimp only
              rw [if_neg (show ¬ (x3 = 0) by rw [e']; decide), if_neg (show ¬ (x3 = 1) by rw [e']; decide), if_neg (show ¬ (x3 = 0) by rw [e']; decide), if_neg (show ¬ (x3 = 1) by rw [e']; decide), if_pos e']
            · have e' : x3 = 3 := by rw [j2, e]; rfl
              obtain ⟨l1, l2⟩ := hl (fun j => wR c (A r) nf (xw c (A r) k j) 10) (fun i hi => by rw [if_neg (show ¬ (x3 = 2) by rw [e']; decide), if_pos e']; exact (q3 i hi).2.1)
              refine ⟨fun _ _ _ => ⟨hv, hrf, p1⟩, fun _ => ⟨bo', fun _ _ => ⟨q1, l1⟩⟩, ?_⟩
              have l2' : F_X12_ever_L52 x3 (nI m) (nI (n - m)) f1' f2' f3' FU 0 (nI m) = _ := l2
              rw [l2']
              dsimp only
              rw [if_neg (show ¬ (x3 = 0) by rw [e']; decide), if_neg (show ¬ (x3 = 1) by rw [e']; decide), if_neg (show ¬ (x3 = 0) by rw [e']; decide), if_neg (show ¬ (x3 = 1) by rw [e']; decide), if_neg (show ¬ (x3 = 2) by rw [e']; decide), if_pos e']
            · have e' : x3 = 4 := by rw [j2, e]; rfl
              obtain ⟨l1, l2⟩ := hl (fun j => wT c (A r) nf (xw c (A r) k j) 10) (fun i hi => by rw [if_neg (show ¬ (x3 = 2) by rw [e']; decide), if_neg (show ¬ (x3 = 3) by rw [e']; decide), if_pos e']; exact (q3 i hi).2.2)
              refine ⟨fun _ _ _ => ⟨hv, hrf, p1⟩, fun _ => ⟨bo', fun _ _ => ⟨q1, l1⟩⟩, ?_⟩
              have l2' : F_X12_ever_L52 x3 (nI m) (nI (n - m)) f1' f2' f3' FU 0 (nI m) = _ := l2
              rw [l2']
              dsimp only
              rw [if_neg (show ¬ (x3 = 0) by rw [e']; decide), if_neg (show ¬ (x3 = 1) by rw [e']; decide), if_neg (show ¬ (x3 = 0) by rw [e']; decide), if_neg (show ¬ (x3 = 1) by rw [e']; decide), if_neg (show ¬ (x3 = 2) by rw [e']; decide), if_neg (show ¬ (x3 = 3) by rw [e']; decide)]
          · have z5 : (5 : Int32) ≤ x3 := by
              obtain ⟨j, hj, e⟩ := nI_of z0
              have : ¬ j ≤ 4 := fun q => z4 (by rw [e]; exact nI_le (b := 4) q (by decide))
              rw [e]; exact nI_le (a := 5) (by omega) hj
            rw [if_neg z0, if_neg z4, if_neg z0, if_pos z5, if_pos rfl]
            exact ⟨fun _ _ y => absurd y z4, fun _ => ⟨bo', fun _ y => absurd rfl y⟩, rfl⟩
  refine ⟨key.1, key.2.1, ?_, Rl_keep hR ?_ ?_ ?_ ?_⟩
  · show (nX_ever a X x1 x2 x3).1 = (nY_ever b Y x1 x2 x3).1
    unfold nX_ever nY_ever
    exact key.2.2
  · unfold nX_ever; dsimp only; exact (st1_keep rfl (st1_keep rfl (st1_keep rfl (st1_keep rfl (st1_keep rfl (st1_keep rfl (st1_keep rfl (st1_keep rfl (st1_keep rfl (st1_keep rfl (st1_keep rfl (st1_keep rfl (st1_keep rfl (st1_keep rfl (fun _ _ => rfl)))))))))))))))
  · unfold nX_ever; dsimp only; exact (st1_keep rfl (st1_keep rfl (st1_keep rfl (fun _ _ => rfl))))
  · unfold nY_ever; dsimp only; exact (st1_keep rfl (st1_keep rfl (st1_keep rfl (st1_keep rfl (st1_keep rfl (st1_keep rfl (st1_keep rfl (st1_keep rfl (st1_keep rfl (st1_keep rfl (st1_keep rfl (st1_keep rfl (fun _ _ => rfl)))))))))))))
  · unfold nY_ever; dsimp only; exact (st1_keep rfl (st1_keep rfl (st1_keep rfl (st1_keep rfl (fun _ _ => rfl)))))

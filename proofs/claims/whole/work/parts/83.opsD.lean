/-! calls: chances -/
theorem S10 {c : Cl} (w : WF c) {A : Nat → Nat} {k : Nat} (hk : Bg c k) (φ : Zt → Nat → Nat) (u : Int32) : frc (SC c A k φ 10 32) 100000 u = frc (SR c A k φ 10 1024) (10 ^ 10) u := by
  have e := SC_SR w (A := A) hk (Nat.le_refl 10) φ
  exact frc_eq (by decide) (Nat.pow_pos (by decide)) e u
theorem told10 {c : Cl} (w : WF c) {A : Nat → Nat} {k : Nat} (hk : Bg c k) {φ : Zt → Nat → Nat} (hφ : ∀ G : Nat → Bool, φ (wz c A G k 10) (wT c A G k 10) ≤ 80) (u : Int32) : ok_X11_fraction (lN (SC c A k φ 10 32)) 100000 ∧ ok_X12_tens 10 ∧ ok_X12_told (lN (SR c A k φ 10 1024)) (F_X12_tens 10) u ∧ F_X11_fraction (lN (SC c A k φ 10 32)) 100000 u = F_X12_told (lN (SR c A k φ 10 1024)) (F_X12_tens 10) u := by
  have b1 := SC_le w hφ
  have b2 := SR_lt w hk (Nat.le_refl 10) hφ
  obtain ⟨t1, t2⟩ := tens_Y (u := 10) (Nat.le_refl 10)
  have t2' : F_X12_tens 10 = lN (10 ^ 10) := t2
  obtain ⟨f1, f2⟩ := frac_X (x := SC c A k φ 10 32) (y := 100000) (by omega) (by decide) (by decide) u
  obtain ⟨f3, f4⟩ := told_Y (x := SR c A k φ 10 1024) (y := 10 ^ 10) b2 (by decide) (by decide) u
  rw [t2']
  exact ⟨f1, t1, f3, f2.trans ((congrArg lN (S10 w hk φ u)).trans f4.symm)⟩
theorem phS80 {c : Cl} {A : Nat → Nat} {k : Nat} (G : Nat → Bool) : phS (wz c A G k 10) (wT c A G k 10) ≤ 80 := wT_le c A G k 10
theorem phD80 {c : Cl} {A : Nat → Nat} {k : Nat} (G : Nat → Bool) : phD (wz c A G k 10) (wT c A G k 10) ≤ 80 := by
  unfold phD
  split <;> decide
theorem op_mean : Op_mean Rl := by
  intro x1 x2 x3 X Y a b hR
  have key : (ok_X11_mean (a (31 + 2 * (sel3 x1))) (X.1 1) (X.1 2) (X.1 3) (X.1 4) (X.1 5) (X.2.1 1) (X.2.1 4) (X.2.1 5) (X.2.1 6) (X.2.1 7) (X.2.1 8) (X.2.1 9) (X.2.1 10) (X.2.1 11) (X.2.1 12) (rf3 (a 31) (a 33) (a 35)) (X.2.1 (26 + 1 * (sel3 x1))) (X.2.2.2 0) (X.1 95) (X.1 96) (X.1 97) (X.1 98) (X.1 99) (X.1 100) (X.1 101) (X.1 102) (X.1 103) (X.2.1 46) (X.2.1 47) x1 x2) ∧ (ok_X12_mean (Y.1 3) (Y.1 4) (Y.1 5) (Y.1 10) (Y.1 11) (Y.1 12) (Y.1 13) (Y.1 14) (Y.1 15) (Y.1 16) (Y.1 17) (Y.1 18) (Y.1 19) (Y.2.1 1) (Y.2.1 2) (Y.2.1 3) (Y.2.1 4) (Y.2.1 5) (Y.2.1 6) (Y.2.1 7) (Y.2.1 8) (Y.2.1 9) (Y.2.1 20) x1 x2 x3) ∧ (F_X11_mean (X.1 1) (X.1 2) (X.1 3) (X.1 4) (X.1 5) (X.2.1 1) (X.2.1 4) (X.2.1 5) (X.2.1 6) (X.2.1 7) (X.2.1 8) (X.2.1 9) (X.2.1 10) (X.2.1 11) (X.2.1 12) (X.2.1 (26 + 1 * (sel3 x1))) (X.2.2.1 0) (X.2.2.1 1) (X.2.2.2 0) (X.1 95) (X.1 96) (X.1 97) (X.1 98) (X.1 99) (X.1 100) (X.1 101) (X.1 102) (X.1 103) (X.2.1 46) (X.2.1 47) x1 x2 x3).1 = (F_X12_mean (Y.1 3) (Y.1 4) (Y.1 5) (Y.1 10) (Y.1 11) (Y.1 12) (Y.1 13) (Y.1 14) (Y.1 15) (Y.1 16) (Y.1 17) (Y.1 18) (Y.1 19) (Y.2.1 1) (Y.2.1 2) (Y.2.1 3) (Y.2.1 4) (Y.2.1 5) (Y.2.1 6) (Y.2.1 7) (Y.2.1 8) (Y.2.1 9) (Y.2.1 20) x1 x2 x3).1 := by
    obtain ⟨c, tx, L, A, ⟨R, Fx1, G⟩, ⟨S, n3, g4⟩, T, U, V, W, Q⟩ := hR
    unfold ok_X11_mean F_X11_mean ok_X12_mean F_X12_mean F_X11_canBegin
    obtain ⟨bo, bb⟩ := bgn R S x2
    rw [n3]
    rcases rul x1 with ⟨e1, e2⟩ | ⟨r, hr, ex, e1, e2, e3⟩
    · rw [e1, e2, if_pos rfl, if_pos rfl, if_neg i10]
      exact ⟨fun y => absurd rfl y, fun y => absurd y i10, rfl⟩
    · rw [e1, e2, if_neg i10, if_pos rfl, e3]
      rcases bb with ⟨f1, f2⟩ | ⟨k, bk, hk, fx, f1, f2⟩
      · rw [f1, f2, if_pos rfl, if_pos rfl, if_neg i10]
        exact ⟨fun y => absurd rfl y, fun _ => ⟨bo, fun y => absurd y i10⟩, rfl⟩
      · rw [f1, f2, if_neg i10, if_neg i10, if_pos rfl, ex, fx]
        obtain ⟨u1, u2⟩ := RuA_at U hr
        have bo' : ok_X12_noBegin (nI k) := fx ▸ bo
        have hv : vp_in (nI r) 3 := vp_in_nI hr (by decide)
        have hrf : rf3 (a 31) (a 33) (a 35) (nI r).toNatClampNeg = some (a (31 + 2 * r)) := by rw [nI_clamp (by omega)]; exact rf3_at rfl rfl rfl hr
        obtain ⟨p1, K', v1, v2, v3, v4, v5, v6, v7, v8, v9, kA', sA', p2, -⟩ := ga_X R u1 bk (hr := 0) (by decide) (X.2.2.2 0) (X.1 95) (X.1 96) (X.1 97) (X.1 98) (X.1 99) (X.1 100) (X.1 101) (X.1 102) (X.1 103) (X.2.1 46) (X.2.1 47)
        obtain ⟨q1, t1, t2, t3, t4, t5, t6, t7, t8, t9, q2⟩ := ex_Y S (r := r) (by omega) u2 bk 1 phS (Or.inr ⟨by decide, rfl⟩) (Y.1 11) (Y.1 12) (Y.1 13) (Y.1 14) (Y.1 15) (Y.1 16) (Y.1 17) (Y.1 18) (Y.1 19)
        rw [nI_0] at p1 p2
        rw [G, g4, p2, q2]
        dsimp only
        unfold ok_X11_mean_b32 F_X11_mean_b32 ok_X12_mean_b33 F_X12_mean_b33
        obtain ⟨z1, z2, z3, z4⟩ := told10 R.1 (A := A r) bk (φ := phS) phS80 x3
        exact ⟨fun _ => ⟨hv, hrf, p1, z1⟩, fun _ => ⟨bo', fun _ => ⟨q1, z2, z3⟩⟩, z4⟩
  refine ⟨key.1, key.2.1, ?_, Rl_keep hR ?_ ?_ ?_ ?_⟩
  · show (nX_mean a X x1 x2 x3).1 = (nY_mean b Y x1 x2 x3).1
    unfold nX_mean nY_mean
    exact key.2.2
  · unfold nX_mean; dsimp only; exact (st1_keep rfl (st1_keep rfl (st1_keep rfl (st1_keep rfl (st1_keep rfl (st1_keep rfl (st1_keep rfl (st1_keep rfl (st1_keep rfl (fun _ _ => rfl))))))))))
  · unfold nX_mean; dsimp only; exact (st1_keep rfl (st1_keep rfl (fun _ _ => rfl)))
  · unfold nY_mean; dsimp only; exact (st1_keep rfl (st1_keep rfl (st1_keep rfl (st1_keep rfl (st1_keep rfl (st1_keep rfl (st1_keep rfl (st1_keep rfl (st1_keep rfl (st1_keep rfl (fun _ _ => rfl)))))))))))
  · unfold nY_mean; dsimp only; exact (fun _ _ => rfl)
theorem op_dry : Op_dry Rl := by
  intro x1 x2 x3 X Y a b hR
  have key : (ok_X11_dry (a (31 + 2 * (sel3 x1))) (X.1 1) (X.1 2) (X.1 3) (X.1 4) (X.1 5) (X.2.1 1) (X.2.1 4) (X.2.1 5) (X.2.1 6) (X.2.1 7) (X.2.1 8) (X.2.1 9) (X.2.1 10) (X.2.1 11) (X.2.1 12) (rf3 (a 31) (a 33) (a 35)) (X.2.1 (26 + 1 * (sel3 x1))) (X.2.2.2 0) (X.1 95) (X.1 96) (X.1 97) (X.1 98) (X.1 99) (X.1 100) (X.1 101) (X.1 102) (X.1 103) (X.2.1 46) (X.2.1 47) x1 x2) ∧ (ok_X12_dry (Y.1 3) (Y.1 4) (Y.1 5) (Y.1 10) (Y.1 11) (Y.1 12) (Y.1 13) (Y.1 14) (Y.1 15) (Y.1 16) (Y.1 17) (Y.1 18) (Y.1 19) (Y.2.1 1) (Y.2.1 2) (Y.2.1 3) (Y.2.1 4) (Y.2.1 5) (Y.2.1 6) (Y.2.1 7) (Y.2.1 8) (Y.2.1 9) (Y.2.1 20) x1 x2 x3) ∧ (F_X11_dry (X.1 1) (X.1 2) (X.1 3) (X.1 4) (X.1 5) (X.2.1 1) (X.2.1 4) (X.2.1 5) (X.2.1 6) (X.2.1 7) (X.2.1 8) (X.2.1 9) (X.2.1 10) (X.2.1 11) (X.2.1 12) (X.2.1 (26 + 1 * (sel3 x1))) (X.2.2.1 0) (X.2.2.1 1) (X.2.2.2 0) (X.1 95) (X.1 96) (X.1 97) (X.1 98) (X.1 99) (X.1 100) (X.1 101) (X.1 102) (X.1 103) (X.2.1 46) (X.2.1 47) x1 x2 x3).1 = (F_X12_dry (Y.1 3) (Y.1 4) (Y.1 5) (Y.1 10) (Y.1 11) (Y.1 12) (Y.1 13) (Y.1 14) (Y.1 15) (Y.1 16) (Y.1 17) (Y.1 18) (Y.1 19) (Y.2.1 1) (Y.2.1 2) (Y.2.1 3) (Y.2.1 4) (Y.2.1 5) (Y.2.1 6) (Y.2.1 7) (Y.2.1 8) (Y.2.1 9) (Y.2.1 20) x1 x2 x3).1 := by
    obtain ⟨c, tx, L, A, ⟨R, Fx1, G⟩, ⟨S, n3, g4⟩, T, U, V, W, Q⟩ := hR
    unfold ok_X11_dry F_X11_dry ok_X12_dry F_X12_dry F_X11_canBegin
    obtain ⟨bo, bb⟩ := bgn R S x2
    rw [n3]
    rcases rul x1 with ⟨e1, e2⟩ | ⟨r, hr, ex, e1, e2, e3⟩
    · rw [e1, e2, if_pos rfl, if_pos rfl, if_neg i10]
      exact ⟨fun y => absurd rfl y, fun y => absurd y i10, rfl⟩
    · rw [e1, e2, if_neg i10, if_pos rfl, e3]
      rcases bb with ⟨f1, f2⟩ | ⟨k, bk, hk, fx, f1, f2⟩
      · rw [f1, f2, if_pos rfl, if_pos rfl, if_neg i10]
        exact ⟨fun y => absurd rfl y, fun _ => ⟨bo, fun y => absurd y i10⟩, rfl⟩
      · rw [f1, f2, if_neg i10, if_neg i10, if_pos rfl, ex, fx]
        obtain ⟨u1, u2⟩ := RuA_at U hr
        have bo' : ok_X12_noBegin (nI k) := fx ▸ bo
        have hv : vp_in (nI r) 3 := vp_in_nI hr (by decide)
        have hrf : rf3 (a 31) (a 33) (a 35) (nI r).toNatClampNeg = some (a (31 + 2 * r)) := by rw [nI_clamp (by omega)]; exact rf3_at rfl rfl rfl hr
        obtain ⟨p1, K', v1, v2, v3, v4, v5, v6, v7, v8, v9, kA', sA', p2, -⟩ := ga_X R u1 bk (hr := 0) (by decide) (X.2.2.2 0) (X.1 95) (X.1 96) (X.1 97) (X.1 98) (X.1 99) (X.1 100) (X.1 101) (X.1 102) (X.1 103) (X.2.1 46) (X.2.1 47)
        obtain ⟨q1, t1, t2, t3, t4, t5, t6, t7, t8, t9, q2⟩ := ex_Y S (r := r) (by omega) u2 bk 0 phD (Or.inl ⟨rfl, rfl⟩) (Y.1 11) (Y.1 12) (Y.1 13) (Y.1 14) (Y.1 15) (Y.1 16) (Y.1 17) (Y.1 18) (Y.1 19)
        rw [nI_0] at p1 p2
        rw [G, g4, p2, q2]
        dsimp only
        unfold ok_X11_dry_b32 F_X11_dry_b32 ok_X12_dry_b33 F_X12_dry_b33
        obtain ⟨z1, z2, z3, z4⟩ := told10 R.1 (A := A r) bk (φ := phD) phD80 x3
        exact ⟨fun _ => ⟨hv, hrf, p1, z1⟩, fun _ => ⟨bo', fun _ => ⟨q1, z2, z3⟩⟩, z4⟩
  refine ⟨key.1, key.2.1, ?_, Rl_keep hR ?_ ?_ ?_ ?_⟩
  · show (nX_dry a X x1 x2 x3).1 = (nY_dry b Y x1 x2 x3).1
    unfold nX_dry nY_dry
    exact key.2.2
  · unfold nX_dry; dsimp only; exact (st1_keep rfl (st1_keep rfl (st1_keep rfl (st1_keep rfl (st1_keep rfl (st1_keep rfl (st1_keep rfl (st1_keep rfl (st1_keep rfl (fun _ _ => rfl))))))))))
  · unfold nX_dry; dsimp only; exact (st1_keep rfl (st1_keep rfl (fun _ _ => rfl)))
  · unfold nY_dry; dsimp only; exact (st1_keep rfl (st1_keep rfl (st1_keep rfl (st1_keep rfl (st1_keep rfl (st1_keep rfl (st1_keep rfl (st1_keep rfl (st1_keep rfl (st1_keep rfl (fun _ _ => rfl)))))))))))
  · unfold nY_dry; dsimp only; exact (fun _ _ => rfl)
-- (Y.1 3) (Y.1 4) (Y.1 5) (Y.1 10) (Y.1 11) (Y.1 12) (Y.1 13) (Y.1 14) (Y.1 15) (Y.1 16) (Y.1 17) (Y.1 18) (Y.1 19) (Y.2.1 1) (Y.2.1 2) (Y.2.1 3) (Y.2.1 4) (Y.2.1 5) (Y.2.1 6) (Y.2.1 7) (Y.2.1 8) (Y.2.1 9) (Y.2.1 20) (Y.2.2.2 0) x1 x2 x3 x4
theorem op_look : Op_look Rl := by
  intro x1 x2 x3 x4 X Y a b hR
  have key : (ok_X11_look (a (31 + 2 * (sel3 x1))) (X.1 1) (X.1 2) (X.1 3) (X.1 4) (X.1 5) (X.2.1 1) (X.2.1 4) (X.2.1 5) (X.2.1 6) (X.2.1 7) (X.2.1 8) (X.2.1 9) (X.2.1 10) (X.2.1 11) (X.2.1 12) (rf3 (a 31) (a 33) (a 35)) (X.2.1 (26 + 1 * (sel3 x1))) (X.2.2.2 0) (X.1 95) (X.1 96) (X.1 97) (X.1 98) (X.1 99) (X.1 100) (X.1 101) (X.1 102) (X.1 103) (X.2.1 46) (X.2.1 47) x1 x2 x3 x4) ∧ (ok_X12_look (Y.1 3) (Y.1 4) (Y.1 5) (Y.1 10) (Y.1 11) (Y.1 12) (Y.1 13) (Y.1 14) (Y.1 15) (Y.1 16) (Y.1 17) (Y.1 18) (Y.1 19) (Y.2.1 1) (Y.2.1 2) (Y.2.1 3) (Y.2.1 4) (Y.2.1 5) (Y.2.1 6) (Y.2.1 7) (Y.2.1 8) (Y.2.1 9) (Y.2.1 20) (Y.2.2.2 0) x1 x2 x3 x4) ∧ (F_X11_look (X.1 1) (X.1 2) (X.1 3) (X.1 4) (X.1 5) (X.2.1 1) (X.2.1 4) (X.2.1 5) (X.2.1 6) (X.2.1 7) (X.2.1 8) (X.2.1 9) (X.2.1 10) (X.2.1 11) (X.2.1 12) (X.2.1 (26 + 1 * (sel3 x1))) (X.2.2.1 0) (X.2.2.1 1) (X.2.2.2 0) (X.1 95) (X.1 96) (X.1 97) (X.1 98) (X.1 99) (X.1 100) (X.1 101) (X.1 102) (X.1 103) (X.2.1 46) (X.2.1 47) x1 x2 x3 x4).1 = (F_X12_look (Y.1 3) (Y.1 4) (Y.1 5) (Y.1 10) (Y.1 11) (Y.1 12) (Y.1 13) (Y.1 14) (Y.1 15) (Y.1 16) (Y.1 17) (Y.1 18) (Y.1 19) (Y.2.1 1) (Y.2.1 2) (Y.2.1 3) (Y.2.1 4) (Y.2.1 5) (Y.2.1 6) (Y.2.1 7) (Y.2.1 8) (Y.2.1 9) (Y.2.1 20) (Y.2.2.2 0) x1 x2 x3 x4).1 := by
    obtain ⟨c, tx, L, A, ⟨R, Fx1, G⟩, ⟨S, n3, g4⟩, T, U, V, W, Q⟩ := hR
    unfold ok_X11_look F_X11_look ok_X12_look F_X12_look F_X11_canBegin
    obtain ⟨bo, bb⟩ := bgn R S x2
    rw [n3]
    rcases rul x1 with ⟨e1, e2⟩ | ⟨r, hr, ex, e1, e2, e3⟩
    · rw [e1, e2, if_pos rfl, if_pos rfl, if_neg i10]
      exact ⟨fun y => absurd rfl y, fun y => absurd y i10, rfl⟩
    · rw [e1, e2, if_neg i10, if_pos rfl, e3]
      rcases bb with ⟨f1, f2⟩ | ⟨k, bk, hk, fx, f1, f2⟩
      · rw [f1, f2, if_pos rfl, if_pos rfl, if_neg i10]
        exact ⟨fun y => absurd rfl y, fun _ => ⟨bo, fun y => absurd y i10⟩, rfl⟩
      · rw [f1, f2, if_neg i10, if_neg i10, if_pos rfl, ex, fx]
        obtain ⟨u1, u2⟩ := RuA_at U hr
        have bo' : ok_X12_noBegin (nI k) := fx ▸ bo
        have hv : vp_in (nI r) 3 := vp_in_nI hr (by decide)
        have hrf : rf3 (a 31) (a 33) (a 35) (nI r).toNatClampNeg = some (a (31 + 2 * r)) := by rw [nI_clamp (by omega)]; exact rf3_at rfl rfl rfl hr
        rcases hou x3 with ⟨h1, h2⟩ | ⟨h, hh, hx, h1, h2⟩
        · rw [h1, h2, if_pos rfl, if_neg i10]
          exact ⟨fun _ y => absurd rfl y, fun _ => ⟨bo', fun _ y => absurd y i10⟩, rfl⟩
        · rw [h1, h2, if_neg i10, if_pos rfl, hx]
          obtain ⟨p1, K', v1, v2, v3, v4, v5, v6, v7, v8, v9, kA', sA', p2, p3⟩ := ga_X R u1 bk hh (X.2.2.2 0) (X.1 95) (X.1 96) (X.1 97) (X.1 98) (X.1 99) (X.1 100) (X.1 101) (X.1 102) (X.1 103) (X.2.1 46) (X.2.1 47)
          obtain ⟨q1, t1, t2, t3, t4, t5, t6, t7, t8, t9, K2, q2, q3⟩ := lc_Y S (r := r) (by omega) u2 bk hh (Y.1 11) (Y.1 12) (Y.1 13) (Y.1 14) (Y.1 15) (Y.1 16) (Y.1 17) (Y.1 18) (Y.1 19) (Y.2.2.2 0)
          rw [G, g4, p2, q2]
          dsimp only
          unfold ok_X11_look_b37 F_X11_look_b37
          have hE : ∀ p, p < 4 → K' p = lN (SC c (A r) k (phK p) h 32) ∧ SC c (A r) k (phK p) h 32 ≤ 100000 := fun p hp => ⟨by
            have := p3 p (Or.inl hp)
            unfold sp at this
            rw [if_pos hp] at this
            exact this, SC_K R.1 p⟩
          have hE2 : ∀ p, p < 4 → K2 p = lN (SR c (A r) k (phK p) h (2 ^ h)) ∧ SR c (A r) k (phK p) h (2 ^ h) ≤ 1000000000 := fun p hp => ⟨q3 p (by omega), SR_K R.1 bk hh p⟩
          obtain ⟨l1, l2⟩ := look_X R hh hE x4
          obtain ⟨l3, l4⟩ := look_Y S hh hE2 x4 0 t1 t2 t3 t4 t5 t6 t7 t8 t9
          rw [l2, l4, lk_eq R.1 bk hh]
          exact ⟨fun _ _ => ⟨hv, hrf, p1, l1⟩, fun _ => ⟨bo', fun _ _ => ⟨q1, l3⟩⟩, rfl⟩
  refine ⟨key.1, key.2.1, ?_, Rl_keep hR ?_ ?_ ?_ ?_⟩
  · show (nX_look a X x1 x2 x3 x4).1 = (nY_look b Y x1 x2 x3 x4).1
    unfold nX_look nY_look
    exact key.2.2
  · unfold nX_look; dsimp only; exact (st1_keep rfl (st1_keep rfl (st1_keep rfl (st1_keep rfl (st1_keep rfl (st1_keep rfl (st1_keep rfl (st1_keep rfl (st1_keep rfl (fun _ _ => rfl))))))))))
  · unfold nX_look; dsimp only; exact (st1_keep rfl (st1_keep rfl (fun _ _ => rfl)))
  · unfold nY_look; dsimp only; exact (st1_keep rfl (st1_keep rfl (st1_keep rfl (st1_keep rfl (st1_keep rfl (st1_keep rfl (st1_keep rfl (st1_keep rfl (st1_keep rfl (st1_keep rfl (fun _ _ => rfl)))))))))))
  · unfold nY_look; dsimp only; exact (fun _ _ => rfl)

/-! calls: chances of a place, counts, short rules -/
theorem spt_v {k : Nat} (h : Vk k) : k < 32 := by
  rcases h with v | v | v <;> omega
theorem spt (x : Int32) : (∃ k, Vk k ∧ x = nI k ∧ F_X11_spotOf x = nI (sp k) ∧ (∀ {α : Type} (P Q : α), (if F_X12_in x.toInt64 0 3 = 0 then (if F_X12_in x.toInt64 10 15 = 0 then (if x = 20 then P else Q) else P) else P) = P)) ∨ (F_X11_spotOf x = -1 ∧ F_X12_in x.toInt64 0 3 = 0 ∧ F_X12_in x.toInt64 10 15 = 0 ∧ ¬ x = 20) := by
  by_cases h0 : x < 0
  · right
    have n20 : ¬ x = 20 := fun q => by rw [q] at h0; exact absurd h0 (by decide)
    refine ⟨?_, in_neg h0 (a := 0) (by decide) 3, in_neg h0 (a := 10) (by decide) 15, n20⟩
    unfold F_X11_spotOf F_X11_spotOf_b11 F_X11_spotOf_b30
    rw [if_pos h0, if_pos (Int32.lt_trans h0 (by decide)), if_neg n20]
  · obtain ⟨k, hk, e⟩ := nI_of h0
    have i1 : F_X12_in x.toInt64 0 3 = bI (decide (0 ≤ k) && decide (k ≤ 3)) := by rw [e, nI_l hk]; exact in_N (a := 0) (b := 3) hk (by decide) (by decide)
    have i2 : F_X12_in x.toInt64 10 15 = bI (decide (10 ≤ k) && decide (k ≤ 15)) := by rw [e, nI_l hk]; exact in_N (a := 10) (b := 15) hk (by decide) (by decide)
    by_cases v1 : k < 4
    · left
      refine ⟨k, Or.inl v1, e, by rw [e]; exact spotOf_X (Or.inl v1), fun P Q => ?_⟩
      rw [i1, decide_eq_true (Nat.zero_le k), decide_eq_true (show k ≤ 3 by omega), if_neg (by decide)]
    · by_cases v2 : 10 ≤ k ∧ k < 16
      · left
        refine ⟨k, Or.inr (Or.inl v2), e, by rw [e]; exact spotOf_X (Or.inr (Or.inl v2)), fun P Q => ?_⟩
        rw [i1, i2, decide_eq_true (Nat.zero_le k), decide_eq_false (show ¬ k ≤ 3 by omega), decide_eq_true v2.1, decide_eq_true (show k ≤ 15 by omega), if_pos (by decide), if_neg (by decide)]
      · by_cases v3 : k = 20
        · left
          refine ⟨k, Or.inr (Or.inr v3), e, by rw [e]; exact spotOf_X (Or.inr (Or.inr v3)), fun P Q => ?_⟩
          rw [i1, i2, v3, if_pos (by decide), if_pos (by decide), if_pos (by rw [e, v3]; rfl)]
        · right
          have n20 : ¬ x = 20 := fun q => v3 ((nI_eq hk (by decide : 20 < 2 ^ 31)).mp (e.symm.trans q))
          refine ⟨?_, ?_, ?_, n20⟩
          · unfold F_X11_spotOf F_X11_spotOf_b11 F_X11_spotOf_b30
            rw [if_neg h0, if_pos (by rw [e]; exact nI_le (a := 4) (by omega) hk)]
            by_cases v4 : k < 10
            · rw [if_pos (by rw [e]; exact nI_lt (b := 10) v4 (by decide)), if_neg n20]
            · rw [if_neg (by rw [e]; exact nI_nlt (b := 10) (by omega) hk), if_pos (by rw [e]; exact nI_le (a := 16) (by omega) hk), if_neg n20]
          · rw [i1, decide_eq_false (show ¬ k ≤ 3 by omega), Bool.and_false]; rfl
          · rw [i2]
            by_cases v4 : 10 ≤ k
            · rw [decide_eq_false (show ¬ k ≤ 15 by omega), Bool.and_false]; rfl
            · rw [decide_eq_false v4, Bool.false_and]; rfl
theorem toldh {c : Cl} (w : WF c) {A : Nat → Nat} {k h κ : Nat} (hk : Bg c k) (hh : h < 10) (u : Int32) : ok_X11_fraction (lN (SC c A k (phK κ) h 32)) 100000 ∧ ok_X12_tens (nI h) ∧ ok_X12_told (lN (SR c A k (phK κ) h (2 ^ h))) (F_X12_tens (nI h)) u ∧ F_X11_fraction (lN (SC c A k (phK κ) h 32)) 100000 u = F_X12_told (lN (SR c A k (phK κ) h (2 ^ h))) (F_X12_tens (nI h)) u := by
  have b1 := SC_K w (A := A) (k := k) (u := h) κ
  have b2 := SR_K w (A := A) hk hh κ
  obtain ⟨t1, t2⟩ := tens_Y (u := h) (by omega)
  obtain ⟨f1, f2⟩ := frac_X (x := SC c A k (phK κ) h 32) (y := 100000) (by omega) (by decide) (by decide) u
  obtain ⟨f3, f4⟩ := told_Y (x := SR c A k (phK κ) h (2 ^ h)) (y := 10 ^ h) (by omega) (Nat.lt_of_le_of_lt (Nat.pow_le_pow_right (by decide) (by omega : h ≤ 9)) (by decide)) (Nat.pow_pos (by decide)) u
  rw [t2]
  exact ⟨f1, t1, f3, f2.trans ((congrArg lN (frc_eq (by decide) (Nat.pow_pos (by decide)) (SC_SR w hk (by omega) (phK κ)) u)).trans f4.symm)⟩
theorem op_chance : Op_chance Rl := by
  intro x1 x2 x3 x4 x5 X Y a b hR
  have key : (ok_X11_chance (a (31 + 2 * (sel3 x1))) (X.1 1) (X.1 2) (X.1 3) (X.1 4) (X.1 5) (X.2.1 1) (X.2.1 4) (X.2.1 5) (X.2.1 6) (X.2.1 7) (X.2.1 8) (X.2.1 9) (X.2.1 10) (X.2.1 11) (X.2.1 12) (rf3 (a 31) (a 33) (a 35)) (X.2.1 (26 + 1 * (sel3 x1))) (X.2.2.2 0) (X.1 95) (X.1 96) (X.1 97) (X.1 98) (X.1 99) (X.1 100) (X.1 101) (X.1 102) (X.1 103) (X.2.1 46) (X.2.1 47) x1 x2 x3 x4) ∧ (ok_X12_chance (Y.1 3) (Y.1 4) (Y.1 5) (Y.1 10) (Y.1 11) (Y.1 12) (Y.1 13) (Y.1 14) (Y.1 15) (Y.1 16) (Y.1 17) (Y.1 18) (Y.1 19) (Y.2.1 1) (Y.2.1 2) (Y.2.1 3) (Y.2.1 4) (Y.2.1 5) (Y.2.1 6) (Y.2.1 7) (Y.2.1 8) (Y.2.1 9) (Y.2.1 20) (Y.2.2.2 0) x1 x2 x3 x4 x5) ∧ (F_X11_chance (X.1 1) (X.1 2) (X.1 3) (X.1 4) (X.1 5) (X.2.1 1) (X.2.1 4) (X.2.1 5) (X.2.1 6) (X.2.1 7) (X.2.1 8) (X.2.1 9) (X.2.1 10) (X.2.1 11) (X.2.1 12) (X.2.1 (26 + 1 * (sel3 x1))) (X.2.2.1 0) (X.2.2.1 1) (X.2.2.2 0) (X.1 95) (X.1 96) (X.1 97) (X.1 98) (X.1 99) (X.1 100) (X.1 101) (X.1 102) (X.1 103) (X.2.1 46) (X.2.1 47) x1 x2 x3 x4 x5).1 = (F_X12_chance (Y.1 3) (Y.1 4) (Y.1 5) (Y.1 10) (Y.1 11) (Y.1 12) (Y.1 13) (Y.1 14) (Y.1 15) (Y.1 16) (Y.1 17) (Y.1 18) (Y.1 19) (Y.2.1 1) (Y.2.1 2) (Y.2.1 3) (Y.2.1 4) (Y.2.1 5) (Y.2.1 6) (Y.2.1 7) (Y.2.1 8) (Y.2.1 9) (Y.2.1 20) (Y.2.2.2 0) x1 x2 x3 x4 x5).1 := by
    obtain ⟨c, tx, L, A, ⟨R, Fx1, G⟩, ⟨S, n3, g4⟩, T, U, V, W, Q⟩ := hR
    unfold ok_X11_chance F_X11_chance ok_X12_chance F_X12_chance F_X11_canBegin
    obtain ⟨bo, bb⟩ := bgn R S x2
    rw [n3]
    rcases rul x1 with ⟨e1, e2⟩ | ⟨r, hr, ex, e1, e2, e3⟩
    · rw [e1, e2, if_pos rfl, if_pos rfl, if_neg i10]
      exact ⟨fun y => absurd rfl y, fun y => absurd y i10, rfl⟩
    · rw [e1, e2, if_neg i10, if_pos rfl, e3]
      rcases bb with ⟨f1, f2⟩ | ⟨k, bk, hk, fx, f1, f2⟩
      · rw [f1, f2, if_pos rfl, if_pos rfl, if_neg i10]
        exact ⟨fun y => absurd rfl y, fun _ => ⟨bo, fun y => absurd y i10⟩, rfl⟩
      · rw [f1, f2, if_neg i10, if_neg i10, if_pos rfl, ex, fx]
        obtain ⟨u1, u2⟩ := RuA_at U hr
        have bo' : ok_X12_noBegin (nI k) := fx ▸ bo
        have hv : vp_in (nI r) 3 := vp_in_nI hr (by decide)
        have hrf : rf3 (a 31) (a 33) (a 35) (nI r).toNatClampNeg = some (a (31 + 2 * r)) := by rw [nI_clamp (by omega)]; exact rf3_at rfl rfl rfl hr
        rcases hou x3 with ⟨h1, h2⟩ | ⟨h, hh, hx, h1, h2⟩
        · rw [h1, h2, if_pos rfl, if_neg i10]
          exact ⟨fun _ y => absurd rfl y, fun _ => ⟨bo', fun _ y => absurd y i10⟩, rfl⟩
        · rw [h1, h2, if_neg i10, if_pos rfl, hx]
          rcases spt x4 with ⟨κ, vk, sx, s1, s2⟩ | ⟨s1, s2, s3, s4⟩
          · have hs := sp_le κ
            have h0 : (0 : Int32) ≤ nI (sp κ) := nI_le (a := 0) (Nat.zero_le _) (by omega)
            have hκ := spt_v vk
            rw [s2, s1, if_pos h0]
            obtain ⟨p1, K', v1, v2, v3, v4, v5, v6, v7, v8, v9, kA', sA', p2, p3⟩ := ga_X R u1 bk hh (X.2.2.2 0) (X.1 95) (X.1 96) (X.1 97) (X.1 98) (X.1 99) (X.1 100) (X.1 101) (X.1 102) (X.1 103) (X.2.1 46) (X.2.1 47)
            obtain ⟨q1, t1, t2, t3, t4, t5, t6, t7, t8, t9, K2, q2, q3⟩ := lc_Y S (r := r) (by omega) u2 bk hh (Y.1 11) (Y.1 12) (Y.1 13) (Y.1 14) (Y.1 15) (Y.1 16) (Y.1 17) (Y.1 18) (Y.1 19) (Y.2.2.2 0)
            unfold F_X12_chance_b70 ok_X12_chance_b70
            rw [G, g4, p2, q2]
            dsimp only
            unfold ok_X11_chance_b55 F_X11_chance_b55 ok_X12_chance_b77 F_X12_chance_b77
            dsimp only
            have c1 : (nI (sp κ)).toNatClampNeg = sp κ := nI_clamp (by omega)
            have c2 : x4.toNatClampNeg = κ := by rw [sx]; exact nI_clamp (by omega)
            rw [c1, c2, p3 κ vk, q3 κ hκ]
            obtain ⟨z1, z2, z3, z4⟩ := toldh R.1 (A := A r) (κ := κ) bk hh x5
            have hv11 : vp_in (nI (sp κ)) 11 := vp_in_nI (by omega) (by decide)
            have hv32 : vp_in x4 32 := by rw [sx]; exact vp_in_nI hκ (by decide)
            have z := And.intro q1 (And.intro hv32 (And.intro z2 z3))
            exact ⟨fun _ _ _ => ⟨hv, hrf, p1, hv11, z1⟩, fun _ => ⟨bo', fun _ _ => ⟨fun _ => ⟨fun _ _ => z, fun _ => z⟩, fun _ => z⟩⟩, z4⟩
          · rw [s1, s2, s3, if_neg (show ¬ (0 : Int32) ≤ -1 by decide), if_pos rfl, if_pos rfl, if_neg s4]
            exact ⟨fun _ _ y => absurd y (by decide), fun _ => ⟨bo', fun _ _ => ⟨fun _ => ⟨fun _ y => absurd y s4, fun y => absurd rfl y⟩, fun y => absurd rfl y⟩⟩, rfl⟩
  refine ⟨key.1, key.2.1, ?_, Rl_keep hR ?_ ?_ ?_ ?_⟩
  · show (nX_chance a X x1 x2 x3 x4 x5).1 = (nY_chance b Y x1 x2 x3 x4 x5).1
    unfold nX_chance nY_chance
    exact key.2.2
  · unfold nX_chance; dsimp only; exact (st1_keep rfl (st1_keep rfl (st1_keep rfl (st1_keep rfl (st1_keep rfl (st1_keep rfl (st1_keep rfl (st1_keep rfl (st1_keep rfl (fun _ _ => rfl))))))))))
  · unfold nX_chance; dsimp only; exact (st1_keep rfl (st1_keep rfl (fun _ _ => rfl)))
  · unfold nY_chance; dsimp only; exact (st1_keep rfl (st1_keep rfl (st1_keep rfl (st1_keep rfl (st1_keep rfl (st1_keep rfl (st1_keep rfl (st1_keep rfl (st1_keep rfl (st1_keep rfl (fun _ _ => rfl)))))))))))
  · unfold nY_chance; dsimp only; exact (fun _ _ => rfl)
theorem ct_loop {pl : Int32} {th : Nat → Int32} (h : ∀ p, p < 4 → th p = bI (bt pl p)) : ∀ f j, j ≤ 4 → 4 < j + f → ok_X12_count_L9 th f (nI (pcn pl j)) (nI j) ∧ F_X12_count_L9 th f (nI (pcn pl j)) (nI j) = nI (pcn pl 4) := by
  intro f
  induction f with
  | zero => intro j h1 h2; omega
  | succ f ih =>
    intro j h1 h2
    rw [ok_X12_count_L9_s, F_X12_count_L9_s]
    by_cases e : j = 4
    · subst e
      rw [if_pos (show (4 : Int32) ≤ nI 4 from Int32.le_refl _)]
      exact ⟨fun q => absurd (Int32.le_refl _) q, rfl⟩
    · have hj : j < 4 := by omega
      have es : nI (pcn pl j) + (if th j = 0 then (0 : Int32) else 1) = nI (pcn pl (j + 1)) := by
        rw [h j hj, pcn]
        cases bt pl j with
        | false => rw [if_pos bI_f, if_neg nft, Nat.add_zero]; exact Int32.add_zero _
        | true => rw [if_neg bI_tn, if_pos rfl]; exact nI_1 _
      rw [if_neg (le_lit (K := 4) 4 rfl hj (by decide)), nI_clamp (by omega), es, nI_1]
      obtain ⟨g1, g2⟩ := ih (j + 1) (by omega) (by omega)
      exact ⟨fun _ => ⟨vp_in_nI hj (by decide), g1⟩, g2⟩
theorem op_count : Op_count Rl := by
  intro x1 X Y a b hR
  have key : True ∧ (ok_X12_count (Y.2.1 4)) ∧ (F_X11_count (X.1 0) (X.1 1) (X.1 2) (X.1 3) (X.1 4) x1) = (F_X12_count (Y.1 1) (Y.1 3) (Y.1 4) (Y.1 5) (Y.2.1 4) x1).1 := by
    obtain ⟨c, tx, L, A, ⟨R, Fx1, G⟩, ⟨S, n3, g4⟩, T, U, V, W, Q⟩ := hR
    obtain ⟨T, l1, l2⟩ := T
    unfold F_X11_count ok_X12_count F_X12_count F_X12_count_b37
    have hpl := R.2.2.2.1
    obtain ⟨k1, k2⟩ := ct_loop (pl := X.1 3) (th := Y.2.1 4) (fun p hp => by rw [(S.2.2.2.2.1 p hp).1, hpl p, decide_eq_true hp, Bool.true_and]) FU 0 (by decide) (by have := FU_ge; omega)
    have k2' : F_X12_count_L9 (Y.2.1 4) FU 0 0 = nI (pcn (X.1 3) 4) := k2
    have b4 : ∀ i, bt (X.1 3) i = true → i < 4 := fun i hi => by
      rw [hpl i, Bool.and_eq_true, decide_eq_true_eq] at hi
      exact hi.1
    have hb : F_J6_bitCount_0f7a4 (X.1 3) = nI (pcn (X.1 3) 4) := by rw [bc_8 (fun i hi => Nat.lt_trans (b4 i hi) (by decide)), pcn_ext b4 8 (by decide)]
    rw [k2', hb, n3, g4, show X.1 1 = nI (kN c) from R.2.1, show X.1 2 = nI (kS c) from R.2.2.1, show Y.1 5 = nI (kS c) from S.2.1, G, l1, l2]
    exact ⟨trivial, k1, rfl⟩
  refine ⟨key.1, key.2.1, ?_, Rl_keep hR ?_ ?_ ?_ ?_⟩
  · show (nX_count a X x1).1 = (nY_count b Y x1).1
    unfold nX_count nY_count
    exact key.2.2
  · exact fun _ _ => rfl
  · exact fun _ _ => rfl
  · unfold nY_count; dsimp only; exact (st1_keep rfl (fun _ _ => rfl))
  · unfold nY_count; dsimp only; exact (fun _ _ => rfl)
def vB (j : Nat) : Bool := Nat.ble j 9 || (Nat.ble 22 j && Nat.ble j 25)
theorem st1_ne {α : Type} {f : Nat → α} {k : Nat} {x : α} {j : Nat} (h : Nat.beq j k = false) : st1 f k x j = f j := by
  unfold st1; rw [h]; rfl
theorem st1_eq {α : Type} {f : Nat → α} {k : Nat} {x : α} {j : Nat} (h : Nat.beq j k = true) : st1 f k x j = x := by
  unfold st1; rw [h]; rfl
theorem Rl_keepA {X X' Y Y' : Bd} (h : Rl X Y) (h1 : ∀ j, uX j = true → X'.1 j = X.1 j) (h2 : ∀ j, uA j = true → X'.2.1 j = X.2.1 j) (h3 : ∀ j, vX j = true → Y'.1 j = Y.1 j) (h4 : ∀ j, vB j = true → Y'.2.1 j = Y.2.1 j) (h5 : ∀ i, i < 30 → Y'.2.1 20 i = Y.2.1 20 i) : Rl X' Y' := by
  obtain ⟨c, tx, L, A, ⟨R, Fx1, G⟩, ⟨S, n3, g4⟩, ⟨T, l1, l2⟩, U, V, ⟨⟨b0, w1, w2, w3⟩, ⟨b1, w4, w5, w6⟩, w7⟩, Q⟩ := h
  unfold Rl
  have U' : RuA A (X.2.1 26) (X.2.1 27) (X.2.1 28) (Y'.2.1 20) := by
    intro h hh
    obtain ⟨a1, a2, a3, a4, a5, a6, a7, a8, a9⟩ := U h hh
    refine ⟨a1, a2, a3, ?_, ?_, ?_, a7, a8, a9⟩
    · rw [h5 h (by omega)]; exact a4
    · rw [h5 (10 + h) (by omega)]; exact a5
    · rw [h5 (20 + h) (by omega)]; exact a6
  rw [h1 1 rfl, h1 2 rfl, h1 3 rfl, h1 5 rfl, h1 4 rfl, h1 0 rfl, h1 24 rfl, h1 25 rfl, h1 26 rfl, h1 27 rfl, h1 28 rfl, h1 29 rfl, h1 30 rfl, h1 32 rfl, h1 41 rfl, h1 50 rfl, h1 33 rfl, h1 34 rfl, h1 35 rfl, h1 36 rfl, h1 37 rfl, h1 38 rfl, h1 39 rfl, h1 42 rfl, h1 43 rfl, h1 44 rfl, h1 45 rfl, h1 46 rfl, h1 47 rfl, h1 48 rfl, h2 0 rfl, h2 1 rfl, h2 2 rfl, h2 3 rfl, h2 4 rfl, h2 5 rfl, h2 6 rfl, h2 7 rfl, h2 8 rfl, h2 9 rfl, h2 10 rfl, h2 11 rfl, h2 12 rfl, h2 26 rfl, h2 27 rfl, h2 28 rfl, h2 30 rfl, h2 31 rfl, h3 1 rfl, h3 3 rfl, h3 4 rfl, h3 5 rfl, h3 10 rfl, h4 0 rfl, h4 1 rfl, h4 2 rfl, h4 3 rfl, h4 4 rfl, h4 5 rfl, h4 6 rfl, h4 7 rfl, h4 8 rfl, h4 9 rfl, h4 22 rfl, h4 23 rfl, h4 24 rfl, h4 25 rfl]
  exact ⟨c, tx, L, A, ⟨R, Fx1, G⟩, ⟨S, n3, g4⟩, ⟨T, l1, l2⟩, U', V, ⟨⟨b0, w1, w2, w3⟩, ⟨b1, w4, w5, w6⟩, w7⟩, Q⟩
theorem op_brief : Op_brief Rl := by
  intro x1 x2 x3 X Y a b hR
  have key : (ok_X11_brief (X.1 1) (X.1 2) (X.1 3) (X.1 5) (X.2.1 1) (X.2.1 2) (X.2.1 3) (X.2.1 4) (X.2.1 5) (X.2.1 6) (X.2.1 7) (X.2.1 8) (X.2.1 9) (X.2.1 10) (X.2.1 11) (X.2.1 12) (X.1 88) (X.1 89) (X.1 92) (X.1 93) (X.2.1 37) (X.2.1 38) (X.2.1 39) (X.2.1 40) (X.1 74) (X.1 75) (X.1 76) (X.1 77) (X.1 78) (X.1 79) (X.1 80) (X.1 81) (X.1 82) (X.1 94) (X.2.1 43) (X.2.1 44) (X.2.1 45) x1 x2 x3) ∧ (ok_X12_brief (Y.1 3) (Y.1 5) (Y.1 10) (Y.1 11) (Y.1 12) (Y.1 13) (Y.1 14) (Y.1 15) (Y.1 16) (Y.1 17) (Y.1 18) (Y.1 19) (Y.1 20) (Y.1 21) (Y.2.2.1 0) (Y.2.2.1 1) (Y.2.1 1) (Y.2.1 2) (Y.2.1 3) (Y.2.1 4) (Y.2.1 5) (Y.2.1 6) (Y.2.1 7) (Y.2.1 8) (Y.2.1 9) (Y.2.1 20) (Y.2.1 26) (Y.2.1 27) (Y.2.1 28) (Y.2.1 29) x1 x2 x3) ∧ (F_X11_brief (X.1 1) (X.1 2) (X.1 3) (X.1 5) (X.2.1 1) (X.2.1 2) (X.2.1 3) (X.2.1 4) (X.2.1 5) (X.2.1 6) (X.2.1 7) (X.2.1 8) (X.2.1 9) (X.2.1 10) (X.2.1 11) (X.2.1 12) (X.1 87) (X.1 88) (X.1 89) (X.1 90) (X.1 91) (X.1 92) (X.1 93) (X.2.1 37) (X.2.1 38) (X.2.1 39) (X.2.1 40) (X.1 74) (X.1 75) (X.1 76) (X.1 77) (X.1 78) (X.1 79) (X.1 80) (X.1 81) (X.1 82) (X.1 94) (X.2.1 43) (X.2.1 44) (X.2.1 45) x1 x2 x3).1 = (F_X12_brief (Y.1 3) (Y.1 5) (Y.1 10) (Y.1 11) (Y.1 12) (Y.1 13) (Y.1 14) (Y.1 15) (Y.1 16) (Y.1 17) (Y.1 18) (Y.1 19) (Y.1 20) (Y.1 21) (Y.2.2.1 0) (Y.2.2.1 1) (Y.2.1 1) (Y.2.1 2) (Y.2.1 3) (Y.2.1 4) (Y.2.1 5) (Y.2.1 6) (Y.2.1 7) (Y.2.1 8) (Y.2.1 9) (Y.2.1 20) (Y.2.1 26) (Y.2.1 27) (Y.2.1 28) (Y.2.1 29) x1 x2 x3).1 ∧ ∀ i, i < 30 → (F_X12_brief (Y.1 3) (Y.1 5) (Y.1 10) (Y.1 11) (Y.1 12) (Y.1 13) (Y.1 14) (Y.1 15) (Y.1 16) (Y.1 17) (Y.1 18) (Y.1 19) (Y.1 20) (Y.1 21) (Y.2.2.1 0) (Y.2.2.1 1) (Y.2.1 1) (Y.2.1 2) (Y.2.1 3) (Y.2.1 4) (Y.2.1 5) (Y.2.1 6) (Y.2.1 7) (Y.2.1 8) (Y.2.1 9) (Y.2.1 20) (Y.2.1 26) (Y.2.1 27) (Y.2.1 28) (Y.2.1 29) x1 x2 x3).2.2.2.2.2.2.2.2.2.2.2.2.2.2.2.1 i = Y.2.1 20 i := by
    obtain ⟨c, tx, L, A, ⟨R, Fx1, G⟩, ⟨S, n3, g4⟩, T, U, V, W, Q⟩ := hR
    unfold ok_X11_brief F_X11_brief ok_X12_brief F_X12_brief
    obtain ⟨bo, bb⟩ := bgn R S x1
    rw [n3]
    rcases bb with ⟨f1, f2⟩ | ⟨k, bk, hk, fx, f1, f2⟩
    · rw [f1, f2, if_pos rfl, if_neg i10]
      exact ⟨fun y => absurd rfl y, ⟨bo, fun y => absurd y i10⟩, rfl, fun _ _ => rfl⟩
    · rw [f1, f2, if_neg i10, if_pos rfl]
      rcases prc x2 x3 with ⟨e1, e2⟩ | ⟨α, β, hα, hβ, ex, ey, e1, e2⟩
      · rw [e1, e2, if_pos rfl, if_neg i10]
        exact ⟨fun _ y => absurd rfl y, ⟨bo, fun _ y => absurd y i10⟩, rfl, fun _ _ => rfl⟩
      · rw [e1, e2, if_neg i10, if_pos rfl, ex, ey, fx]
        have bo' : ok_X12_noBegin (nI k) := fx ▸ bo
        obtain ⟨p1, nu', p', wks', px, py, rp', rw', te', nx', wk', rk', at', ac', N', Q', v1, v2, v3, v4, v5, v6, v7, v8, v9, p2, p3⟩ := brief_X R Fx1 hα hβ bk (X.1 88) (X.1 89) (X.1 92) (X.1 93) (X.1 94) (X.2.1 37) (X.2.1 38) (X.2.1 39) (X.2.1 40) (X.2.1 43) (X.2.1 44) (X.2.1 45) (X.1 74) (X.1 75) (X.1 76) (X.1 77) (X.1 78) (X.1 79) (X.1 80) (X.1 81) (X.1 82)
        obtain ⟨q1, t1, t2, t3, t4, t5, t6, t7, t8, t9, ld', rg', up', low', ac2, N2, f1', f2', f3', nu2, q2, q3, q4⟩ := brief_Y S hα hβ bk (Y.1 11) (Y.1 12) (Y.1 13) (Y.1 14) (Y.1 15) (Y.1 16) (Y.1 17) (Y.1 18) (Y.1 19) (Y.1 20) (Y.1 21) (Y.2.2.1 0) (Y.2.2.1 1) (Y.2.1 20) (Y.2.1 26) (Y.2.1 27) (Y.2.1 28) (Y.2.1 29)
        rw [p2, q2]
        dsimp only
        unfold F_X11_brief_b38 F_X12_brief_b35
        refine ⟨fun _ _ => p1, ⟨bo', fun _ _ => q1⟩, ?_, q4⟩
        dsimp only
        cases hb : bz c α β k NB with
        | none =>
          rw [hb] at p3 q3
          exact Eq.trans p3 (Eq.symm q3)
        | some e =>
          rw [hb] at p3 q3
          obtain ⟨a1, a2, a3⟩ := p3
          obtain ⟨b1, b2, b3⟩ := q3
          rw [a1, b1]
  refine ⟨key.1, key.2.1, ?_, Rl_keepA hR ?_ ?_ ?_ ?_ ?_⟩
  · show (nX_brief a X x1 x2 x3).1 = (nY_brief b Y x1 x2 x3).1
    unfold nX_brief nY_brief
    exact key.2.2.1
  · unfold nX_brief; dsimp only; exact (st1_keep rfl (st1_keep rfl (st1_keep rfl (st1_keep rfl (st1_keep rfl (st1_keep rfl (st1_keep rfl (st1_keep rfl (st1_keep rfl (st1_keep rfl (st1_keep rfl (st1_keep rfl (st1_keep rfl (st1_keep rfl (st1_keep rfl (st1_keep rfl (st1_keep rfl (fun _ _ => rfl))))))))))))))))))
  · unfold nX_brief; dsimp only; exact (st1_keep rfl (st1_keep rfl (st1_keep rfl (st1_keep rfl (st1_keep rfl (st1_keep rfl (st1_keep rfl (fun _ _ => rfl))))))))
  · unfold nY_brief; dsimp only; exact (st1_keep rfl (st1_keep rfl (st1_keep rfl (st1_keep rfl (st1_keep rfl (st1_keep rfl (st1_keep rfl (st1_keep rfl (st1_keep rfl (st1_keep rfl (st1_keep rfl (st1_keep rfl (fun _ _ => rfl)))))))))))))
  · unfold nY_brief; dsimp only; exact (st1_keep rfl (st1_keep rfl (st1_keep rfl (st1_keep rfl (st1_keep rfl (fun _ _ => rfl))))))
  · unfold nY_brief; dsimp only; intro i hi; rw [st1_ne (by rfl), st1_ne (by rfl), st1_ne (by rfl), st1_ne (by rfl), st1_eq (by rfl)]; exact key.2.2.2 i hi
theorem op_briefPrice : Op_briefPrice Rl := by
  intro x1 x2 x3 x4 X Y a b hR
  have key : (ok_X11_briefPrice (X.1 1) (X.1 2) (X.1 3) (X.1 5) (X.2.1 1) (X.2.1 2) (X.2.1 3) (X.2.1 4) (X.2.1 5) (X.2.1 6) (X.2.1 7) (X.2.1 8) (X.2.1 9) (X.2.1 10) (X.2.1 11) (X.2.1 12) (X.1 88) (X.1 89) (X.1 92) (X.1 93) (X.2.1 37) (X.2.1 38) (X.2.1 39) (X.2.1 40) (X.1 74) (X.1 75) (X.1 76) (X.1 77) (X.1 78) (X.1 79) (X.1 80) (X.1 81) (X.1 82) (X.1 94) (X.2.1 43) (X.2.1 44) (X.2.1 45) x1 x2 x3) ∧ (ok_X12_briefPrice (Y.1 3) (Y.1 5) (Y.1 10) (Y.1 11) (Y.1 12) (Y.1 13) (Y.1 14) (Y.1 15) (Y.1 16) (Y.1 17) (Y.1 18) (Y.1 19) (Y.1 20) (Y.1 21) (Y.2.2.1 0) (Y.2.2.1 1) (Y.2.1 1) (Y.2.1 2) (Y.2.1 3) (Y.2.1 4) (Y.2.1 5) (Y.2.1 6) (Y.2.1 7) (Y.2.1 8) (Y.2.1 9) (Y.2.1 20) (Y.2.1 26) (Y.2.1 27) (Y.2.1 28) (Y.2.1 29) x1 x2 x3 x4) ∧ (F_X11_briefPrice (X.1 1) (X.1 2) (X.1 3) (X.1 5) (X.2.1 1) (X.2.1 2) (X.2.1 3) (X.2.1 4) (X.2.1 5) (X.2.1 6) (X.2.1 7) (X.2.1 8) (X.2.1 9) (X.2.1 10) (X.2.1 11) (X.2.1 12) (X.1 87) (X.1 88) (X.1 89) (X.1 90) (X.1 91) (X.1 92) (X.1 93) (X.2.1 37) (X.2.1 38) (X.2.1 39) (X.2.1 40) (X.1 74) (X.1 75) (X.1 76) (X.1 77) (X.1 78) (X.1 79) (X.1 80) (X.1 81) (X.1 82) (X.1 94) (X.2.1 43) (X.2.1 44) (X.2.1 45) x1 x2 x3 x4).1 = (F_X12_briefPrice (Y.1 3) (Y.1 5) (Y.1 10) (Y.1 11) (Y.1 12) (Y.1 13) (Y.1 14) (Y.1 15) (Y.1 16) (Y.1 17) (Y.1 18) (Y.1 19) (Y.1 20) (Y.1 21) (Y.2.2.1 0) (Y.2.2.1 1) (Y.2.1 1) (Y.2.1 2) (Y.2.1 3) (Y.2.1 4) (Y.2.1 5) (Y.2.1 6) (Y.2.1 7) (Y.2.1 8) (Y.2.1 9) (Y.2.1 20) (Y.2.1 26) (Y.2.1 27) (Y.2.1 28) (Y.2.1 29) x1 x2 x3 x4).1 ∧ ∀ i, i < 30 → (F_X12_briefPrice (Y.1 3) (Y.1 5) (Y.1 10) (Y.1 11) (Y.1 12) (Y.1 13) (Y.1 14) (Y.1 15) (Y.1 16) (Y.1 17) (Y.1 18) (Y.1 19) (Y.1 20) (Y.1 21) (Y.2.2.1 0) (Y.2.2.1 1) (Y.2.1 1) (Y.2.1 2) (Y.2.1 3) (Y.2.1 4) (Y.2.1 5) (Y.2.1 6) (Y.2.1 7) (Y.2.1 8) (Y.2.1 9) (Y.2.1 20) (Y.2.1 26) (Y.2.1 27) (Y.2.1 28) (Y.2.1 29) x1 x2 x3 x4).2.2.2.2.2.2.2.2.2.2.2.2.2.2.2.1 i = Y.2.1 20 i := by
    obtain ⟨c, tx, L, A, ⟨R, Fx1, G⟩, ⟨S, n3, g4⟩, T, U, V, W, Q⟩ := hR
    unfold ok_X11_briefPrice F_X11_briefPrice ok_X12_briefPrice F_X12_briefPrice
    obtain ⟨bo, bb⟩ := bgn R S x1
    rw [n3]
    rcases bb with ⟨f1, f2⟩ | ⟨k, bk, hk, fx, f1, f2⟩
    · rw [f1, f2, if_pos rfl, if_neg i10]
      exact ⟨fun y => absurd rfl y, ⟨bo, fun y => absurd y i10⟩, rfl, fun _ _ => rfl⟩
    · rw [f1, f2, if_neg i10, if_pos rfl]
      rcases prc x2 x3 with ⟨e1, e2⟩ | ⟨α, β, hα, hβ, ex, ey, e1, e2⟩
      · rw [e1, e2, if_pos rfl, if_neg i10]
        exact ⟨fun _ y => absurd rfl y, ⟨bo, fun _ y => absurd y i10⟩, rfl, fun _ _ => rfl⟩
      · rw [e1, e2, if_neg i10, if_pos rfl, ex, ey, fx]
        have bo' : ok_X12_noBegin (nI k) := fx ▸ bo
        obtain ⟨p1, nu', p', wks', px, py, rp', rw', te', nx', wk', rk', at', ac', N', Q', v1, v2, v3, v4, v5, v6, v7, v8, v9, p2, p3⟩ := brief_X R Fx1 hα hβ bk (X.1 88) (X.1 89) (X.1 92) (X.1 93) (X.1 94) (X.2.1 37) (X.2.1 38) (X.2.1 39) (X.2.1 40) (X.2.1 43) (X.2.1 44) (X.2.1 45) (X.1 74) (X.1 75) (X.1 76) (X.1 77) (X.1 78) (X.1 79) (X.1 80) (X.1 81) (X.1 82)
        obtain ⟨q1, t1, t2, t3, t4, t5, t6, t7, t8, t9, ld', rg', up', low', ac2, N2, f1', f2', f3', nu2, q2, q3, q4⟩ := brief_Y S hα hβ bk (Y.1 11) (Y.1 12) (Y.1 13) (Y.1 14) (Y.1 15) (Y.1 16) (Y.1 17) (Y.1 18) (Y.1 19) (Y.1 20) (Y.1 21) (Y.2.2.1 0) (Y.2.2.1 1) (Y.2.1 20) (Y.2.1 26) (Y.2.1 27) (Y.2.1 28) (Y.2.1 29)
        rw [p2, q2]
        dsimp only
        unfold ok_X11_briefPrice_b41 F_X11_briefPrice_b41 ok_X12_briefPrice_b36 F_X12_briefPrice_b36
        cases hb : bz c α β k NB with
        | none =>
          rw [hb] at p3 q3
          have p3' : nu' = -9 := p3
          have q3' : nu2 = -9 := q3
          rw [if_pos p3', if_pos q3']
          exact ⟨fun _ _ => ⟨p1, fun y => absurd p3' y⟩, ⟨bo', fun _ _ => ⟨q1, fun y => absurd q3' y⟩⟩, rfl, q4⟩
        | some e =>
          rw [hb] at p3 q3
          obtain ⟨a1, a2, a3⟩ := p3
          obtain ⟨b1, b2, b3⟩ := q3
          have he : e < NB := bz_lt hb
          have hn : NB = 366 := Classical.choose_spec (⟨366, rfl⟩ : ∃ n : Nat, n = 366)
          have n9 : ¬ nI e = (-9 : Int32) := nI_ne9 (by omega)
          have r1 := rpr_le R.1 hα hβ (n := e) bk
          have r2 := rwk_le R.1 (n := e) bk
          obtain ⟨g1, g2⟩ := frac_X (x := rpr c α β (shA e) k) (y := rwk c (shA e) k) (by omega) (by omega) r2.1 x4
          obtain ⟨g3, g4'⟩ := told_Y (x := rpr c α β (shA e) k) (y := rwk c (shA e) k) (by omega) (by omega) r2.1 x4
          rw [a1, a2, a3, b1, b2, b3, if_neg n9, if_neg n9, nI_l (by omega), nI_l (by omega)]
          exact ⟨fun _ _ => ⟨p1, fun _ => g1⟩, ⟨bo', fun _ _ => ⟨q1, fun _ => g3⟩⟩, g2.trans g4'.symm, q4⟩
  refine ⟨key.1, key.2.1, ?_, Rl_keepA hR ?_ ?_ ?_ ?_ ?_⟩
  · show (nX_briefPrice a X x1 x2 x3 x4).1 = (nY_briefPrice b Y x1 x2 x3 x4).1
    unfold nX_briefPrice nY_briefPrice
    exact key.2.2.1
  · unfold nX_briefPrice; dsimp only; exact (st1_keep rfl (st1_keep rfl (st1_keep rfl (st1_keep rfl (st1_keep rfl (st1_keep rfl (st1_keep rfl (st1_keep rfl (st1_keep rfl (st1_keep rfl (st1_keep rfl (st1_keep rfl (st1_keep rfl (st1_keep rfl (st1_keep rfl (st1_keep rfl (st1_keep rfl (fun _ _ => rfl))))))))))))))))))
  · unfold nX_briefPrice; dsimp only; exact (st1_keep rfl (st1_keep rfl (st1_keep rfl (st1_keep rfl (st1_keep rfl (st1_keep rfl (st1_keep rfl (fun _ _ => rfl))))))))
  · unfold nY_briefPrice; dsimp only; exact (st1_keep rfl (st1_keep rfl (st1_keep rfl (st1_keep rfl (st1_keep rfl (st1_keep rfl (st1_keep rfl (st1_keep rfl (st1_keep rfl (st1_keep rfl (st1_keep rfl (st1_keep rfl (fun _ _ => rfl)))))))))))))
  · unfold nY_briefPrice; dsimp only; exact (st1_keep rfl (st1_keep rfl (st1_keep rfl (st1_keep rfl (st1_keep rfl (fun _ _ => rfl))))))
  · unfold nY_briefPrice; dsimp only; intro i hi; rw [st1_ne (by rfl), st1_ne (by rfl), st1_ne (by rfl), st1_ne (by rfl), st1_eq (by rfl)]; exact key.2.2.2 i hi

/-! calls: the text, written and read -/
theorem bp_b (x : Int32) : x.toInt8.toInt32 &&& 255 = x &&& 255 := by
  apply Int32.toBitVec_inj.mp
  rw [Int32.toBitVec_and, Int32.toBitVec_and, Int8.toBitVec_toInt32, Int32.toBitVec_toInt8]
  apply BitVec.eq_of_getLsbD_eq
  intro i hi
  rw [BitVec.getLsbD_and, BitVec.getLsbD_and]
  have hm : ∀ i < 32, 8 ≤ i → (255 : Int32).toBitVec.getLsbD i = false := by decide
  rcases Nat.lt_or_ge i 8 with z | z
  · rw [BitVec.getLsbD_signExtend, BitVec.getLsbD_signExtend, if_pos z, if_pos hi]
    simp only [z, hi, decide_true, Bool.true_and]
  · rw [hm i hi z]; simp
theorem bt_lo (w : Int64) {i : Nat} (hi : i < 32) : bt w.toInt32 i = w.toBitVec.getLsbD i := by
  unfold bt
  rw [Int64.toBitVec_toInt32, BitVec.getLsbD_signExtend, if_pos (by omega), decide_eq_true hi, Bool.true_and]
theorem w_ushr (x : Int64) (s : UInt64) (k : Nat) (hs : (s.toBitVec % 64).toNat = k) (i : Nat) : ((x.toUInt64 >>> s).toInt64).toBitVec.getLsbD i = x.toBitVec.getLsbD (k + i) := by
  show (x.toUInt64 >>> s).toBitVec.getLsbD i = x.toUInt64.toBitVec.getLsbD (k + i)
  rw [UInt64.toBitVec_shiftRight]
  show (x.toUInt64.toBitVec >>> (s.toBitVec % 64).toNat).getLsbD i = _
  rw [hs, BitVec.getLsbD_ushiftRight]
theorem w_sshr (x t : Int64) (k : Nat) (ht : (t.toBitVec.smod 64).toNat = k) {i : Nat} (hi : k + i < 64) : (x >>> t).toBitVec.getLsbD i = x.toBitVec.getLsbD (k + i) := by
  rw [Int64.toBitVec_shiftRight]
  show (x.toBitVec.sshiftRight (t.toBitVec.smod 64).toNat).getLsbD i = _
  rw [ht, BitVec.getLsbD_sshiftRight]
  have h1 : ¬ 64 ≤ i := by omega
  simp [hi, h1]
theorem byt_u : ∀ v, v < 8 → ((((8 : Int32) * nI v).toInt64.toUInt64 &&& Int64.toUInt64 63).toBitVec % 64).toNat = 8 * v := by decide +kernel
theorem byt_s : ∀ v, v < 8 → ((((8 : Int32) * nI v).toInt64 &&& (63 : Int64)).toBitVec.smod 64).toNat = 8 * v := by decide +kernel
theorem byt (x : Int64) {v : Nat} (hv : v < 8) : ∃ d, d < 256 ∧ vp_nar .byte (x.toUInt64 >>> (((8 : Int32) * nI v).toInt64.toUInt64 &&& Int64.toUInt64 63)).toInt64.toInt32.toInt8.toInt32 = sb d ∧ ((x >>> (((8 : Int32) * nI v).toInt64 &&& (63 : Int64))).toInt32 &&& (255 : Int32)) = nI d := by
  obtain ⟨d, hd, ed⟩ := pk_andE ((x >>> (((8 : Int32) * nI v).toInt64 &&& (63 : Int64))).toInt32) (m := 255) 8 (by decide)
  have hd' : d < 256 := hd
  refine ⟨d, hd', ?_, ed⟩
  rw [pk_vb]
  unfold sb
  refine (sc_eq (by rw [← vp_nar_byte]; exact pk_vb _) hd').mpr ?_
  rw [bp_b, ← ed]
  apply b_ext
  intro i hi
  rw [b_and, b_and, b_255]
  by_cases h8 : i < 8
  · rw [bt_lo _ hi, bt_lo _ hi, w_ushr x _ _ (byt_u v hv), w_sshr x _ _ (byt_s v hv) (by omega)]
  · rw [decide_eq_false h8, Bool.and_false, Bool.and_false]
theorem wr_loop {x2 : Int64} : ∀ f v L (tx : Nat → Nat) (xs ys : Nat → Int32), v ≤ 8 → v < f → L + v ≤ 64 → TX tx L xs ys →
    ok_X11_write_L33 x2 f (nI L) xs (nI v - 1) ∧ ok_X12_write_L39 x2 f (nI L) ys (nI v - 1) ∧ ∃ (tx' : Nat → Nat) (xs' ys' : Nat → Int32), F_X11_write_L33 x2 f (nI L) xs (nI v - 1) = (nI (L + v), xs') ∧ F_X12_write_L39 x2 f (nI L) ys (nI v - 1) = (nI (L + v), ys') ∧ TX tx' (L + v) xs' ys' := by
  intro f
  induction f with
  | zero => intro v L tx xs ys h1 h2; omega
  | succ f ih =>
    intro v L tx xs ys h1 h2 h3 T
    rw [ok_X11_write_L33_s, F_X11_write_L33_s, ok_X12_write_L39_s, F_X12_write_L39_s]
    cases v with
    | zero =>
      have h0 : nI 0 - 1 < 0 := by decide
      rw [if_pos h0, if_pos h0]
      exact ⟨fun q => absurd h0 q, fun q => absurd h0 q, tx, xs, ys, rfl, rfl, T⟩
    | succ u =>
      have hp : nI (u + 1) - 1 = nI u := pk_sub (a := u + 1) (b := 1) (by omega)
      have h0 : ¬ nI u < 0 := nI_pos (by omega)
      obtain ⟨d, hd, d1, d2⟩ := byt x2 (v := u) (by omega)
      have hv : vp_in (nI L) 64 := vp_in_nI (by omega) (by decide)
      rw [hp, if_neg h0, if_neg h0, d1, d2, nI_clamp (by omega), nI_1, nI_m1]
      have T' : TX (fun i => if i = L then d else tx i) (L + 1) (upd xs L (sb d)) (upd ys L (nI d)) := by
        refine ⟨by omega, fun i hi => ?_⟩
        rw [upd_if, upd_if]
        dsimp only
        by_cases q : i = L
        · rw [if_pos q, if_pos q, if_pos q]; exact ⟨hd, rfl, rfl⟩
        · rw [if_neg q, if_neg q, if_neg q]; exact T.2 i (by omega)
      obtain ⟨g1, g2, tx', xs', ys', g3, g4, g5⟩ := ih u (L + 1) _ _ _ (by omega) (by omega) (by omega) T'
      rw [show L + 1 + u = L + (u + 1) by omega] at g3 g4 g5
      exact ⟨fun _ => ⟨hv, g1⟩, fun _ => ⟨hv, g2⟩, tx', xs', ys', g3, g4, g5⟩
theorem op_write : Op_write Rl := by
  intro x1 x2 X Y a b hR
  obtain ⟨c, tx, L, A, P1, P2, ⟨T, l1, l2⟩, U, V, W, Q⟩ := hR
  show oknX_write a X x1 x2 ∧ oknY_write b Y x1 x2 ∧ (nX_write a X x1 x2).1 = (nY_write b Y x1 x2).1 ∧ Rl (nX_write a X x1 x2).2 (nY_write b Y x1 x2).2
  unfold oknX_write oknY_write nX_write nY_write ok_X11_write F_X11_write ok_X12_write F_X12_write
  by_cases h0 : x1 < 0
  · have i1 : F_X12_in x1.toInt64 1 8 = 0 := in_neg h0 (a := 1) (by decide) 8
    have h1 : x1 < 1 := Int32.lt_trans h0 (by decide)
    rw [i1, if_pos h1, if_pos rfl]
    exact ⟨fun y => absurd h1 y, fun y => absurd rfl y, rfl, c, tx, L, A, P1, P2, ⟨T, l1, l2⟩, U, V, W, Q⟩
  · obtain ⟨k, hk, ex⟩ := nI_of h0
    have i1 : F_X12_in x1.toInt64 1 8 = bI (decide (1 ≤ k) && decide (k ≤ 8)) := by rw [ex, nI_l hk]; exact in_N (a := 1) (b := 8) hk (by decide) (by decide)
    have hL := T.1
    by_cases h1 : 1 ≤ k
    · have x1' : ¬ x1 < 1 := by rw [ex]; exact nI_nlt (b := 1) h1 hk
      by_cases h8 : k ≤ 8
      · have x8 : x1 ≤ 8 := by rw [ex]; exact nI_le (b := 8) h8 (by decide)
        rw [i1, decide_eq_true h1, decide_eq_true h8, if_neg x1', if_pos x8, if_neg (show ¬ bI (true && true) = 0 by decide), l1, l2, ex, nI_add]
        by_cases h64 : L + k ≤ 64
        · have q64 : nI (L + k) ≤ 64 := nI_le (b := 64) h64 (by decide)
          rw [if_pos q64, if_pos q64]
          obtain ⟨g1, g2, tx', xs', ys', g3, g4, g5⟩ := wr_loop (x2 := x2) FU k L tx (X.2.1 0) (Y.2.1 0) h8 (by have := FU_ge; omega) h64 T
          rw [g3, g4]
          dsimp only
          unfold F_X11_write_b72 F_X12_write_b81
          exact ⟨fun _ _ _ => g1, fun _ _ => g2, rfl, c, tx', L + k, A, P1, P2, ⟨g5, rfl, rfl⟩, U, V, W, Q⟩
        · have q64 : ¬ nI (L + k) ≤ 64 := nI_ge (a := 64) (by omega) (by omega)
          rw [if_neg q64, if_neg q64]
          exact ⟨fun _ _ y => absurd y q64, fun _ y => absurd y q64, rfl, c, tx, L, A, P1, P2, ⟨T, rfl, rfl⟩, U, V, W, Q⟩
      · have x8 : ¬ x1 ≤ 8 := by rw [ex]; exact nI_ge (a := 8) (by omega) hk
        rw [i1, decide_eq_false h8, Bool.and_false, if_neg x1', if_neg x8, if_pos bI_f]
        exact ⟨fun _ y => absurd y x8, fun y => absurd rfl y, rfl, c, tx, L, A, P1, P2, ⟨T, l1, l2⟩, U, V, W, Q⟩
    · have x1' : x1 < 1 := by rw [ex]; exact nI_lt (b := 1) (by omega) (by decide)
      rw [i1, decide_eq_false h1, Bool.false_and, if_pos x1', if_pos bI_f]
      exact ⟨fun y => absurd x1' y, fun y => absurd rfl y, rfl, c, tx, L, A, P1, P2, ⟨T, l1, l2⟩, U, V, W, Q⟩
theorem op_fault : Op_fault Rl := by
  intro x1 X Y a b hR
  have key : (ok_X11_fault (X.1 0) (X.2.1 0) (X.2.1 13) (X.2.1 14) (X.2.1 15) (X.2.1 16) (X.2.1 17) (X.2.1 18) (X.2.1 19) (X.2.1 20) (X.2.1 21) (X.2.1 22) (X.2.1 23) (X.2.1 24) (X.1 12) (X.1 13) (X.1 14) (X.2.1 25) (X.2.1 29) x1) ∧ (ok_X12_fault (Y.1 1) (Y.2.1 0) (Y.2.1 10) (Y.2.1 11) (Y.2.1 12) (Y.2.1 13) (Y.2.1 14) (Y.2.1 15) (Y.2.1 16) (Y.2.1 17) (Y.2.1 18) (Y.2.1 19) (Y.2.1 21) x1) ∧ (F_X11_fault (X.1 0) (X.2.1 0) (X.1 6) (X.1 7) (X.1 8) (X.1 9) (X.1 10) (X.2.1 13) (X.2.1 14) (X.2.1 15) (X.2.1 16) (X.2.1 17) (X.2.1 18) (X.2.1 19) (X.2.1 20) (X.2.1 21) (X.2.1 22) (X.2.1 23) (X.2.1 24) (X.1 11) (X.1 12) (X.1 13) (X.1 14) (X.1 15) (X.1 16) (X.2.1 25) (X.1 20) (X.2.1 29) (X.1 21) (X.1 22) (X.1 23) x1).1 = (F_X12_fault (Y.1 1) (Y.1 6) (Y.1 7) (Y.1 8) (Y.1 9) (Y.2.1 0) (Y.2.1 10) (Y.2.1 11) (Y.2.1 12) (Y.2.1 13) (Y.2.1 14) (Y.2.1 15) (Y.2.1 16) (Y.2.1 17) (Y.2.1 18) (Y.2.1 19) (Y.2.1 21) x1).1 := by
    obtain ⟨c, tx, L, A, ⟨R, Fx1, G⟩, ⟨S, n3, g4⟩, T, U, V, W, Q⟩ := hR
    obtain ⟨T, l1, l2⟩ := T
    obtain ⟨p1, p2⟩ := club_X T (X.1 12) (X.1 13) (X.1 14) (X.2.1 25) (X.2.1 13) (X.2.1 14) (X.2.1 15) (X.2.1 16) (X.2.1 17) (X.2.1 18) (X.2.1 19) (X.2.1 20) (X.2.1 21) (X.2.1 22) (X.2.1 23) (X.2.1 24)
    obtain ⟨q1, q2⟩ := club_Y T (Y.1 6) (Y.1 7) (Y.1 8) (Y.2.1 10) (Y.2.1 11) (Y.2.1 12) (Y.2.1 13) (Y.2.1 14) (Y.2.1 15) (Y.2.1 16) (Y.2.1 17) (Y.2.1 18) (Y.2.1 19)
    obtain ⟨r1, f, e, w, h, m, ac', r2, r3⟩ := rule_X T (X.2.1 29)
    obtain ⟨s1, s3⟩ := rule_Y T (Y.2.1 21)
    unfold ok_X11_fault F_X11_fault ok_X12_fault F_X12_fault
    rw [l1, l2]
    refine ⟨⟨fun _ => p1, fun _ => r1⟩, ⟨fun _ => q1, fun _ => s1⟩, ?_⟩
    by_cases x0 : x1 = 0
    · rw [if_pos x0, if_pos x0]
      unfold F_X11_fault_b45 F_X12_fault_b20
      dsimp only
      cases ho : (cr tx L L (0, 0, 0, 0, c0)).1 with
      | some pos => exact (p2.1 pos ho).trans (q2.1 pos ho).symm
      | none => exact (p2.2 ho).1.trans (q2.2 ho).1.symm
    · rw [if_neg x0, if_neg x0]
      unfold F_X11_fault_b23 F_X12_fault_b13
      dsimp only
      unfold RVY at s3
      rw [r2]
      cases ho : (rr tx L L r0).1 with
      | some pos => exact (r3.1 pos ho).trans (s3.1 pos ho).symm
      | none => exact (r3.2 ho).1.trans (s3.2 ho).1.symm
  refine ⟨key.1, key.2.1, ?_, Rl_keep hR ?_ ?_ ?_ ?_⟩
  · show (nX_fault a X x1).1 = (nY_fault b Y x1).1
    unfold nX_fault nY_fault
    exact key.2.2
  · unfold nX_fault; dsimp only; exact (st1_keep rfl (st1_keep rfl (st1_keep rfl (st1_keep rfl (st1_keep rfl (st1_keep rfl (st1_keep rfl (st1_keep rfl (st1_keep rfl (st1_keep rfl (st1_keep rfl (st1_keep rfl (st1_keep rfl (st1_keep rfl (st1_keep rfl (fun _ _ => rfl))))))))))))))))
  · unfold nX_fault; dsimp only; exact (st1_keep rfl (st1_keep rfl (st1_keep rfl (st1_keep rfl (st1_keep rfl (st1_keep rfl (st1_keep rfl (st1_keep rfl (st1_keep rfl (st1_keep rfl (st1_keep rfl (st1_keep rfl (st1_keep rfl (st1_keep rfl (fun _ _ => rfl)))))))))))))))
  · unfold nY_fault; dsimp only; exact (st1_keep rfl (st1_keep rfl (st1_keep rfl (st1_keep rfl (st1_keep rfl (st1_keep rfl (fun _ _ => rfl)))))))
  · unfold nY_fault; dsimp only; exact (st1_keep rfl (st1_keep rfl (st1_keep rfl (st1_keep rfl (st1_keep rfl (st1_keep rfl (st1_keep rfl (st1_keep rfl (st1_keep rfl (st1_keep rfl (st1_keep rfl (fun _ _ => rfl))))))))))))

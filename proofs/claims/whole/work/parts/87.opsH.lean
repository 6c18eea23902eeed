/-! calls that change what is: own keys, the key brought, a row told, an hour, kept and gone on -/
theorem LV_mono {c c' : Cl} (h : ∀ z, ZI c z → ZI c' z) {a1 a2 a3 a4 a5 a6 a7 : Int32} {lv : Nat → Int32} (V : LV c a1 a2 a3 a4 a5 a6 a7 lv) : LV c' a1 a2 a3 a4 a5 a6 a7 lv := by
  obtain ⟨n, z, v1, v2, v3⟩ := V
  exact ⟨n, z, v1, h z v2, v3⟩
theorem ZI_setK {c : Cl} {v : Nat} (z : Zt) (h : ZI c z) : ZI (setK c v) z := h
def WS (c : Cl) (x30 : Nat → Int32) (s0 s1 s2 s3 s4 s5 s6 s8 t0 t1 t2 t3 t4 t5 t6 t8 n8 : Int32) (y23 y24 : Nat → Int32) : Prop := (∃ b, x30 0 = bI b ∧ y24 0 = bI b ∧ (b = true → LV c s0 s1 s2 s3 s4 s5 s6 (fun k => y23 k) ∧ isB s8)) ∧ (∃ b, x30 1 = bI b ∧ y24 1 = bI b ∧ (b = true → LV c t0 t1 t2 t3 t4 t5 t6 (fun k => y23 (7 + k)) ∧ isB t8)) ∧ isB n8
theorem WS_mono {c c' : Cl} (h : ∀ z, ZI c z → ZI c' z) {x30 : Nat → Int32} {s0 s1 s2 s3 s4 s5 s6 s8 t0 t1 t2 t3 t4 t5 t6 t8 n8 : Int32} {y23 y24 : Nat → Int32} (W : WS c x30 s0 s1 s2 s3 s4 s5 s6 s8 t0 t1 t2 t3 t4 t5 t6 t8 n8 y23 y24) : WS c' x30 s0 s1 s2 s3 s4 s5 s6 s8 t0 t1 t2 t3 t4 t5 t6 t8 n8 y23 y24 := by
  obtain ⟨⟨b0, w1, w2, w3⟩, ⟨b1, w4, w5, w6⟩, w7⟩ := W
  exact ⟨⟨b0, w1, w2, fun q => ⟨LV_mono h (w3 q).1, (w3 q).2⟩⟩, ⟨b1, w4, w5, fun q => ⟨LV_mono h (w6 q).1, (w6 q).2⟩⟩, w7⟩
theorem op_own : Op_own Rl := by
  intro x1 X Y a b hR
  obtain ⟨c, tx, L, A, ⟨R, Fx1, G⟩, ⟨S, n3, g4⟩, T, U, V, W, Q⟩ := hR
  show True ∧ True ∧ (nX_own a X x1).1 = (nY_own b Y x1).1 ∧ Rl (nX_own a X x1).2 (nY_own b Y x1).2
  have n6 := R.1.n6
  have h64 := pow_le64 n6
  have hpos : 0 < 2 ^ kN c := Nat.pow_pos (by decide)
  have e : (1 : Int32) <<< (nI (kN c) &&& 31) = nI (2 ^ kN c) := shl1 (kN c) (by omega)
  unfold nX_own nY_own F_X11_own F_X12_own
  have i1 : F_X12_in x1.toInt64 0 (nI (2 ^ kN c) - 1).toInt64 = (if x1 < 0 then 0 else if nI (2 ^ kN c) ≤ x1 then 0 else 1) := by
    rw [show nI (2 ^ kN c) - 1 = nI (2 ^ kN c - 1) from pk_sub (b := 1) hpos, nI_l (by omega), show F_X12_in x1.toInt64 0 (lN (2 ^ kN c - 1)) = _ from in_0 x1 (by omega), show 2 ^ kN c - 1 + 1 = 2 ^ kN c by omega]
  have eo : X.1 5 = nI (kK c) := R.2.2.2.2.1
  have eo' : Y.1 10 = nI (kK c) := S.2.2.1
  rw [n3, show X.1 1 = nI (kN c) from R.2.1, e, i1]
  by_cases h0 : x1 < 0
  · rw [if_pos h0, if_pos h0, if_pos rfl]
    exact ⟨trivial, trivial, rfl, c, tx, L, A, ⟨R, Fx1, G⟩, ⟨S, n3, g4⟩, T, U, V, W, Q⟩
  · obtain ⟨k, hk, ex⟩ := nI_of h0
    by_cases h1 : k < 2 ^ kN c
    · have l1 : x1 < nI (2 ^ kN c) := by rw [ex]; exact nI_lt h1 (by omega)
      have l2 : ¬ nI (2 ^ kN c) ≤ x1 := by rw [ex]; exact nI_ge h1 (by omega)
      rw [if_neg h0, if_pos l1, if_neg h0, if_neg l2, if_neg i10]
      have R' := RX_setK R h1
      have S' := RY_setK S h1
      rw [← ex] at R' S'
      exact ⟨trivial, trivial, eo.trans eo'.symm, setK c k, tx, L, A, ⟨R', Fx1, G⟩, ⟨S', n3, g4⟩, T, U, LV_mono ZI_setK V, WS_mono ZI_setK W, Q⟩
    · have l1 : ¬ x1 < nI (2 ^ kN c) := by rw [ex]; exact nI_nlt (by omega) hk
      have l2 : nI (2 ^ kN c) ≤ x1 := by rw [ex]; exact nI_le (by omega) hk
      rw [if_neg h0, if_neg l1, if_neg h0, if_pos l2, if_pos rfl]
      exact ⟨trivial, trivial, rfl, c, tx, L, A, ⟨R, Fx1, G⟩, ⟨S, n3, g4⟩, T, U, V, W, Q⟩
theorem tc0 : (0 : Int32).toNatClampNeg = 0 := rfl
theorem tc1 : (1 : Int32).toNatClampNeg = 1 := rfl
theorem tc2 : (2 : Int32).toNatClampNeg = 2 := rfl
theorem tc3 : (3 : Int32).toNatClampNeg = 3 := rfl
theorem tc4 : (4 : Int32).toNatClampNeg = 4 := rfl
theorem tc5 : (5 : Int32).toNatClampNeg = 5 := rfl
theorem tc6 : (6 : Int32).toNatClampNeg = 6 := rfl
theorem op_bring : Op_bring Rl := by
  intro x1 X Y a b hR
  obtain ⟨c, tx, L, A, ⟨R, Fx1, G⟩, ⟨S, n3, g4⟩, T, U, V, W, Q⟩ := hR
  show True ∧ oknY_bring b Y x1 ∧ (nX_bring a X x1).1 = (nY_bring b Y x1).1 ∧ Rl (nX_bring a X x1).2 (nY_bring b Y x1).2
  unfold nX_bring nY_bring oknY_bring F_X11_bring F_X12_bring ok_X12_bring
  obtain ⟨bo, bb⟩ := bgn R S x1
  have hv : vp_in (1 : Int32) 7 := vp_in_nI (n := 1) (by decide) (by decide)
  have V0 := V
  obtain ⟨n, z, hn, hz, v1, v2, v3, v4, l0, l1, l2, l3, l4, l5, l6⟩ := V0
  rw [n3, tc1, l1]
  rcases bb with ⟨f1, f2⟩ | ⟨k, bk, hk, fx, f1, f2⟩
  · rw [f1, f2, if_pos rfl, if_neg i10]
    exact ⟨trivial, ⟨bo, fun y => absurd y i10⟩, rfl, c, tx, L, A, ⟨R, Fx1, G⟩, ⟨S, n3, g4⟩, T, U, V, W, Q⟩
  · rw [f1, f2, if_neg i10, if_pos rfl]
    by_cases k20 : X.1 25 = 20
    · rw [if_pos k20, if_pos k20]
      exact ⟨trivial, ⟨bo, fun _ => ⟨hv, fun _ => ⟨hv, hv⟩⟩⟩, rfl, c, tx, L, A, ⟨R, Fx1, G⟩, ⟨S, n3, g4⟩, T, U, V, W, Q⟩
    · rw [if_neg k20, if_neg k20]
      have V' : LV c (X.1 24) x1 (X.1 26) (X.1 27) (X.1 28) (X.1 29) (X.1 30) (upd (Y.2.1 22) 1 x1) := ⟨n, (k, z.2), hn, ⟨Or.inl bk, hz.2⟩, v1, fx, v3, v4, l0, rfl, l2, l3, l4, l5, l6⟩
      exact ⟨trivial, ⟨bo, fun _ => ⟨hv, fun _ => ⟨hv, hv⟩⟩⟩, rfl, c, tx, L, A, ⟨R, Fx1, G⟩, ⟨S, n3, g4⟩, T, U, V', W, Q⟩
theorem op_tell : Op_tell Rl := by
  intro x1 x2 X Y a b hR
  obtain ⟨c, tx, L, A, P1, P2, T, U, V, W, Q⟩ := hR
  show oknX_tell a X x1 x2 ∧ oknY_tell b Y x1 x2 ∧ (nX_tell a X x1 x2).1 = (nY_tell b Y x1 x2).1 ∧ Rl (nX_tell a X x1 x2).2 (nY_tell b Y x1 x2).2
  unfold oknX_tell oknY_tell nX_tell nY_tell ok_X11_tell F_X11_tell ok_X12_tell F_X12_tell
  rcases hou x1 with ⟨e1, e2⟩ | ⟨h, hh, ex, e1, e2⟩
  · rw [e1, e2, if_pos rfl, if_neg i10]
    exact ⟨fun y => absurd rfl y, fun y => absurd y i10, rfl, c, tx, L, A, P1, P2, T, U, V, W, Q⟩
  · rw [e1, e2, if_neg i10, if_pos rfl]
    unfold ok_X11_tell_b25 ok_X12_tell_b55
    have hv : vp_in x1 10 := by rw [ex]; exact vp_in_nI hh (by decide)
    have o1 : ¬ (1 : Int32) = 0 → ((x2 = 99 → vp_in x1 10 ∧ vp_in x1 10) ∧ (¬ x2 = 99 → (0 ≤ F_X11_spotOf x2 → vp_in x1 10 ∧ vp_in x1 10))) := fun _ => ⟨fun _ => ⟨hv, hv⟩, fun _ _ => ⟨hv, hv⟩⟩
    have ea : X.2.1 31 x1.toNatClampNeg = Y.2.1 25 x1.toNatClampNeg := by rw [ex, nI_clamp (by omega)]; exact Q h hh
    have Q' : ∀ j, j < 10 → upd (X.2.1 31) x1.toNatClampNeg x2 j = upd (Y.2.1 25) x1.toNatClampNeg x2 j := fun j hj => by
      rw [upd_if, upd_if, Q j hj]
    refine ⟨o1, fun _ => ⟨fun _ => ⟨fun _ => ⟨fun _ => ⟨hv, hv⟩, fun _ _ => ⟨hv, hv⟩⟩, fun _ => ⟨hv, hv⟩⟩, fun _ => ⟨hv, hv⟩⟩, ?_⟩
    rcases spt x2 with ⟨κ, vk, sx, s1, s2⟩ | ⟨s1, s2, s3, s4⟩
    · have hs := sp_le κ
      have h0 : (0 : Int32) ≤ nI (sp κ) := nI_le (a := 0) (Nat.zero_le _) (by omega)
      rw [s2, s1, if_pos h0, ite_self]
      unfold F_X11_tell_b25 F_X12_tell_b55
      exact ⟨ea, c, tx, L, A, P1, P2, T, U, V, W, Q'⟩
    · rw [s1, s2, s3, if_neg (show ¬ (0 : Int32) ≤ -1 by decide), if_pos rfl, if_pos rfl, if_neg s4]
      by_cases z9 : x2 = 99
      · rw [if_pos z9, if_pos z9]
        unfold F_X11_tell_b25 F_X12_tell_b55
        exact ⟨ea, c, tx, L, A, P1, P2, T, U, V, W, Q'⟩
      · rw [if_neg z9, if_neg z9]
        exact ⟨rfl, c, tx, L, A, P1, P2, T, U, V, W, Q⟩
theorem hr10 : ∀ n, n < 10 → (nI n + 1) - (nI n + 1) / 10 * 10 = nI ((n + 1) % 10) := by decide +kernel
theorem op_hour : Op_hour Rl := by
  intro x1 X Y a b hR
  obtain ⟨c, tx, L, A, ⟨R, Fx1, G⟩, ⟨S, n3, g4⟩, T, U, V, ⟨W0, W1, w7⟩, Q⟩ := hR
  show oknX_hour a X x1 ∧ oknY_hour b Y x1 ∧ (nX_hour a X x1).1 = (nY_hour b Y x1).1 ∧ Rl (nX_hour a X x1).2 (nY_hour b Y x1).2
  unfold oknX_hour oknY_hour nX_hour nY_hour ok_X11_hour F_X11_hour ok_X12_hour F_X12_hour
  rcases rul x1 with ⟨e1, e2⟩ | ⟨r, hr, ex, e1, e2, e3⟩
  · rw [e1, e2, if_pos rfl, if_neg i10]
    exact ⟨fun y => absurd rfl y, fun y => absurd y i10, rfl, c, tx, L, A, ⟨R, Fx1, G⟩, ⟨S, n3, g4⟩, T, U, V, ⟨W0, W1, w7⟩, Q⟩
  · obtain ⟨n, z, hn, hz, v1, v2, v3, v4, l0, l1, l2, l3, l4, l5, l6⟩ := V
    obtain ⟨u1, u2⟩ := RuA_at U hr
    have hv : vp_in (nI r) 3 := vp_in_nI hr (by decide)
    have hrf : rf3 (a 31) (a 33) (a 35) (nI r).toNatClampNeg = some (a (31 + 2 * r)) := by rw [nI_clamp (by omega)]; exact rf3_at rfl rfl rfl hr
    have ha := (u1 n hn).2
    obtain ⟨p1, p2⟩ := ph_X R hn ha hz (X.1 28) (X.1 29) (X.1 30) (X.1 31) 0 false rfl
    obtain ⟨q1, q2⟩ := ps_Y S hn ha hz (X.1 28) (X.1 29) (X.1 30) 0 false rfl
    obtain ⟨a1, a2⟩ := actAt_X hn (u1 n hn).1 ha
    have h7 : ∀ j, j < 7 → vp_in (nI j) 7 := fun j hj => vp_in_nI hj (by decide)
    have e10 : (10 : Int32) * nI r + nI n = nI (10 * r + n) := by rw [show (10 : Int32) * nI r = nI (10 * r) from pk_mul 10 r, nI_add]
    have c10 : (nI (10 * r + n)).toNatClampNeg = 10 * r + n := nI_clamp (by omega)
    have hv40 : vp_in (nI (10 * r + n)) 40 := vp_in_nI (by omega) (by decide)
    unfold F_X12_load F_X12_hour_b18 ok_X12_hour_b18
    dsimp only
    rw [e1, e2, if_neg i10, if_pos rfl, e3, ex, tc0, tc1, tc2, tc3, tc4, tc5, tc6, l0, l1, l2, l3, l4, l5, l6, v1, v2, v3, v4, a2, p2, e10, c10, (u2 n hn).1, q2]
    dsimp only
    unfold F_X11_hour_b37 F_X12_hour_b45 ok_X12_hour_b45 ok_X12_load
    dsimp only
    rw [tc0, tc1, tc2, tc3, tc4, tc5, tc6, l0, v1, hr10 n hn]
    have bc : F_J6_bitCount_0f7a4 (zS c n z) = nI (zn c n z) := bc_8 (Sb.b8 R.1 (cin_ZI R.1 hz).2.2)
    have V' : LV c (nI ((n + 1) % 10)) (nI (zN c n (A r n) false z).1) (zN c n (A r n) false z).2.1 (zN c n (A r n) false z).2.2 (X.1 28 + nI (zw c n (A r n) false z)) (X.1 29 + nI (zr c n z)) (X.1 30 + nI (zn c n z)) (upd (upd (upd (upd (upd (upd (upd (Y.2.1 22) 0 (nI ((n + 1) % 10))) 1 (nI (zN c n (A r n) false z).1)) 2 (zN c n (A r n) false z).2.1) 3 (zN c n (A r n) false z).2.2) 4 (X.1 28 + nI (zw c n (A r n) false z))) 5 (X.1 29 + nI (zr c n z))) 6 (X.1 30 + nI (zn c n z))) := ⟨(n + 1) % 10, zN c n (A r n) false z, by omega, zN_ZI R.1 hz, rfl, rfl, rfl, rfl, rfl, rfl, rfl, rfl, rfl, rfl, rfl⟩
    exact ⟨fun _ => ⟨hv, hrf, a1, p1⟩, fun _ => ⟨⟨h7 1 (by decide), h7 2 (by decide), h7 3 (by decide), h7 4 (by decide), h7 5 (by decide), h7 6 (by decide)⟩, h7 0 (by decide), h7 0 (by decide), hv40, q1, h7 0 (by decide), h7 0 (by decide), h7 1 (by decide), h7 2 (by decide), h7 3 (by decide), h7 4 (by decide), h7 5 (by decide), h7 6 (by decide)⟩, bc, c, tx, L, A, ⟨R, Fx1, G⟩, ⟨S, n3, g4⟩, T, U, V', ⟨W0, W1, isB_bI _⟩, Q⟩
theorem slo (x : Int32) : (F_X11_isSlot x = 0 ∧ F_X12_in x.toInt64 0 1 = 0) ∨ ∃ k, k < 2 ∧ x = nI k ∧ F_X11_isSlot x = 1 ∧ F_X12_in x.toInt64 0 1 = 1 ∧ sel2 x = k := by
  have i1 : F_X12_in x.toInt64 0 1 = (if x < 0 then 0 else if (2 : Int32) ≤ x then 0 else 1) := in_0 x (K := 1) (by decide)
  rw [i1]
  unfold F_X11_isSlot
  by_cases h0 : x < 0
  · left
    rw [if_pos h0]; exact ⟨rfl, rfl⟩
  · by_cases h1 : (2 : Int32) ≤ x
    · left
      rw [if_neg h0, if_pos h1]; exact ⟨rfl, rfl⟩
    · right
      obtain ⟨k, j1, j2⟩ := arg_in (N := 2) (by decide) h0 h1
      refine ⟨k, j1, j2, ?_⟩
      rw [if_neg h0, if_neg h1]
      have : k = 0 ∨ k = 1 := by omega
      rcases this with q | q <;> (rw [j2, q]; decide)
theorem kp_loop {k : Nat} (hk : k < 2) {live : Nat → Int32} : ∀ f j (kept : Nat → Int32), j ≤ 7 → 7 < j + f → ok_X12_keep_L41 live (nI k) f kept (nI j) ∧ ∀ i, F_X12_keep_L41 live (nI k) f kept (nI j) i = if 7 * k + j ≤ i ∧ i < 7 * k + 7 then live (i - 7 * k) else kept i := by
  intro f
  induction f with
  | zero => intro j kept h1 h2; omega
  | succ f ih =>
    intro j kept h1 h2
    rw [ok_X12_keep_L41_s, F_X12_keep_L41_s]
    by_cases e : j = 7
    · subst e
      rw [if_pos (show (7 : Int32) ≤ nI 7 from Int32.le_refl _)]
      refine ⟨fun q => absurd (Int32.le_refl _) q, fun i => ?_⟩
      rw [if_neg (by omega)]
    · have hj : j < 7 := by omega
      have e7 : (7 : Int32) * nI k + nI j = nI (7 * k + j) := by rw [show (7 : Int32) * nI k = nI (7 * k) from pk_mul 7 k, nI_add]
      rw [if_neg (le_lit (K := 7) 7 rfl hj (by decide)), e7, nI_clamp (by omega), nI_clamp (by omega), nI_1]
      obtain ⟨g1, g2⟩ := ih (j + 1) (upd kept (7 * k + j) (live j)) (by omega) (by omega)
      refine ⟨fun _ => ⟨vp_in_nI hj (by decide), vp_in_nI (by omega) (by decide), g1⟩, fun i => ?_⟩
      rw [g2 i, upd_if]
      by_cases q : i = 7 * k + j
      · rw [if_neg (by omega), if_pos q, if_pos (by omega), show i - 7 * k = j by omega]
      · by_cases q2 : 7 * k + (j + 1) ≤ i ∧ i < 7 * k + 7
        · rw [if_pos q2, if_pos (by omega)]
        · rw [if_neg q2, if_neg q, if_neg (by omega)]
theorem ag_loop {k : Nat} (hk : k < 2) {kept : Nat → Int32} : ∀ f j (live : Nat → Int32), j ≤ 7 → 7 < j + f → ok_X12_again_L31 kept (nI k) f live (nI j) ∧ ∀ i, F_X12_again_L31 kept (nI k) f live (nI j) i = if j ≤ i ∧ i < 7 then kept (7 * k + i) else live i := by
  intro f
  induction f with
  | zero => intro j live h1 h2; omega
  | succ f ih =>
    intro j live h1 h2
    rw [ok_X12_again_L31_s, F_X12_again_L31_s]
    by_cases e : j = 7
    · subst e
      rw [if_pos (show (7 : Int32) ≤ nI 7 from Int32.le_refl _)]
      refine ⟨fun q => absurd (Int32.le_refl _) q, fun i => ?_⟩
      rw [if_neg (by omega)]
    · have hj : j < 7 := by omega
      have e7 : (7 : Int32) * nI k + nI j = nI (7 * k + j) := by rw [show (7 : Int32) * nI k = nI (7 * k) from pk_mul 7 k, nI_add]
      rw [if_neg (le_lit (K := 7) 7 rfl hj (by decide)), e7, nI_clamp (by omega), nI_clamp (by omega), nI_1]
      obtain ⟨g1, g2⟩ := ih (j + 1) (upd live j (kept (7 * k + j))) (by omega) (by omega)
      refine ⟨fun _ => ⟨vp_in_nI (by omega) (by decide), vp_in_nI hj (by decide), g1⟩, fun i => ?_⟩
      rw [g2 i, upd_if]
      by_cases q : i = j
      · rw [if_neg (by omega), if_pos q, if_pos (by omega), q]
      · by_cases q2 : j + 1 ≤ i ∧ i < 7
        · rw [if_pos q2, if_pos (by omega)]
        · rw [if_neg q2, if_neg q, if_neg (by omega)]
theorem rf2_at {x y k : Nat} {a : Nat → Nat} (hx : x = a 42) (hy : y = a 43) (hk : k < 2) : rf2 x y k = some (a (42 + 1 * k)) := by
  have : k = 0 ∨ k = 1 := by omega
  rcases this with q | q <;> (rw [q]; subst hx hy; rfl)
theorem LV_lv {c : Cl} {a1 a2 a3 a4 a5 a6 a7 : Int32} {lv lv' : Nat → Int32} (h : ∀ k, k < 7 → lv' k = lv k) (V : LV c a1 a2 a3 a4 a5 a6 a7 lv) : LV c a1 a2 a3 a4 a5 a6 a7 lv' := by
  obtain ⟨n, z, hn, hz, v1, v2, v3, v4, l0, l1, l2, l3, l4, l5, l6⟩ := V
  exact ⟨n, z, hn, hz, v1, v2, v3, v4, (h 0 (by decide)).trans l0, (h 1 (by decide)).trans l1, (h 2 (by decide)).trans l2, (h 3 (by decide)).trans l3, (h 4 (by decide)).trans l4, (h 5 (by decide)).trans l5, (h 6 (by decide)).trans l6⟩
theorem vnb1 : vp_nar .boolean 1 = 1 := rfl
theorem op_keep : Op_keep Rl := by
  intro x1 X Y a b hR
  obtain ⟨c, tx, L, A, P1, P2, T, U, V, ⟨W0, W1, w7⟩, Q⟩ := hR
  show oknX_keep a X x1 ∧ oknY_keep b Y x1 ∧ (nX_keep a X x1).1 = (nY_keep b Y x1).1 ∧ Rl (nX_keep a X x1).2 (nY_keep b Y x1).2
  unfold oknX_keep oknY_keep nX_keep nY_keep ok_X11_keep F_X11_keep ok_X12_keep F_X12_keep
  rcases slo x1 with ⟨e1, e2⟩ | ⟨k, hk, ex, e1, e2, e3⟩
  · rw [e1, e2, if_pos rfl, if_pos rfl]
    refine ⟨fun y => absurd rfl y, fun y => absurd rfl y, rfl, ?_⟩
    have : sel2 x1 = 0 ∨ sel2 x1 = 1 := sel2_cases x1
    rcases this with q | q
    · rw [q]; exact ⟨c, tx, L, A, P1, P2, T, U, V, ⟨W0, W1, w7⟩, Q⟩
    · rw [q]; exact ⟨c, tx, L, A, P1, P2, T, U, V, ⟨W0, W1, w7⟩, Q⟩
  · obtain ⟨g1, g2⟩ := kp_loop hk (live := Y.2.1 22) FU 0 (Y.2.1 23) (by decide) (by have := FU_ge; omega)
    rw [nI_0] at g1 g2
    have hv : vp_in (nI k) 2 := vp_in_nI hk (by decide)
    have hrf : rf2 (a 42) (a 43) (nI k).toNatClampNeg = some (a (42 + 1 * k)) := by rw [nI_clamp (by omega)]; exact rf2_at rfl rfl hk
    rw [e1, e2, if_neg i10, if_neg i10, e3, ex]
    unfold F_X3_copyOf ok_X3_copyOf
    dsimp only
    unfold F_X11_keep_b37 ok_X11_keep_b37 F_X12_keep_b70
    dsimp only
    rw [vnb1]
    have ck : (nI k).toNatClampNeg = k := nI_clamp (by omega)
    refine ⟨fun _ => ⟨hv, hv, hrf, w7, hv⟩, fun _ => ⟨hv, hv, g1⟩, ?_⟩
    rw [ck]
    have : k = 0 ∨ k = 1 := by omega
    rcases this with q | q
    · subst q
      obtain ⟨b0, w1, w2, w3⟩ := W0
      obtain ⟨b1, w4, w5, w6⟩ := W1
      have V' : LV c (X.1 24) (X.1 25) (X.1 26) (X.1 27) (X.1 28) (X.1 29) (X.1 30) (fun j => F_X12_keep_L41 (Y.2.1 22) (nI 0) FU (Y.2.1 23) 0 j) := LV_lv (fun j hj => by
        rw [g2 j, if_pos (by omega)]; rfl) V
      have V1 : b1 = true → LV c (X.1 42) (X.1 43) (X.1 44) (X.1 45) (X.1 46) (X.1 47) (X.1 48) (fun j => F_X12_keep_L41 (Y.2.1 22) (nI 0) FU (Y.2.1 23) 0 (7 + j)) ∧ isB (X.1 50) := fun y => ⟨LV_lv (fun j hj => by
        rw [g2 (7 + j), if_neg (by omega)]) (w6 y).1, (w6 y).2⟩
      exact ⟨by rw [w1, w2], c, tx, L, A, P1, P2, T, U, V, ⟨⟨true, rfl, rfl, fun _ => ⟨V', w7⟩⟩, ⟨b1, w4, w5, V1⟩, w7⟩, Q⟩
    · subst q
      obtain ⟨b0, w1, w2, w3⟩ := W0
      obtain ⟨b1, w4, w5, w6⟩ := W1
      have V' : LV c (X.1 24) (X.1 25) (X.1 26) (X.1 27) (X.1 28) (X.1 29) (X.1 30) (fun j => F_X12_keep_L41 (Y.2.1 22) (nI 1) FU (Y.2.1 23) 0 (7 + j)) := LV_lv (fun j hj => by
        rw [g2 (7 + j), if_pos (by omega), show 7 + j - 7 * 1 = j by omega]) V
      have V1 : b0 = true → LV c (X.1 33) (X.1 34) (X.1 35) (X.1 36) (X.1 37) (X.1 38) (X.1 39) (fun j => F_X12_keep_L41 (Y.2.1 22) (nI 1) FU (Y.2.1 23) 0 j) ∧ isB (X.1 41) := fun y => ⟨LV_lv (fun j hj => by
        rw [g2 j, if_neg (by omega)]) (w3 y).1, (w3 y).2⟩
      exact ⟨by rw [w4, w5], c, tx, L, A, P1, P2, T, U, V, ⟨⟨b0, w1, w2, V1⟩, ⟨true, rfl, rfl, fun _ => ⟨V', w7⟩⟩, w7⟩, Q⟩
theorem op_again : Op_again Rl := by
  intro x1 X Y a b hR
  obtain ⟨c, tx, L, A, P1, P2, T, U, V, ⟨W0, W1, w7⟩, Q⟩ := hR
  show oknX_again a X x1 ∧ oknY_again b Y x1 ∧ (nX_again a X x1).1 = (nY_again b Y x1).1 ∧ Rl (nX_again a X x1).2 (nY_again b Y x1).2
  unfold oknX_again oknY_again nX_again nY_again ok_X11_again F_X11_again ok_X12_again F_X12_again
  rcases slo x1 with ⟨e1, e2⟩ | ⟨k, hk, ex, e1, e2, e3⟩
  · rw [e1, e2, if_pos rfl, if_pos rfl]
    exact ⟨fun y => absurd rfl y, fun y => absurd rfl y, rfl, c, tx, L, A, P1, P2, T, U, V, ⟨W0, W1, w7⟩, Q⟩
  · obtain ⟨g1, g2⟩ := ag_loop hk (kept := Y.2.1 23) FU 0 (Y.2.1 22) (by decide) (by have := FU_ge; omega)
    rw [nI_0] at g1 g2
    have hv : vp_in (nI k) 2 := vp_in_nI hk (by decide)
    have hv0 : vp_in (0 : Int32) 7 := vp_in_nI (n := 0) (by decide) (by decide)
    have hrf : rf2 (a 42) (a 43) (nI k).toNatClampNeg = some (a (42 + 1 * k)) := by rw [nI_clamp (by omega)]; exact rf2_at rfl rfl hk
    rw [e1, e2, if_neg i10, if_neg i10, e3, ex]
    unfold F_X3_copyOf ok_X3_copyOf
    dsimp only
    unfold F_X11_again_b34 F_X12_again_b60 ok_X12_again_b60
    have ck : (nI k).toNatClampNeg = k := nI_clamp (by omega)
    rw [ck] at hrf
    rw [ck, tc0]
    have : k = 0 ∨ k = 1 := by omega
    rcases this with q | q
    · subst q
      have W0' := W0
      obtain ⟨b0, w1, w2, w3⟩ := W0'
      rw [w1, w2]
      cases b0 with
      | false =>
        rw [if_pos bI_f, if_pos bI_f]
        exact ⟨fun _ => ⟨hv, fun y => absurd rfl y⟩, fun _ => ⟨hv, fun y => absurd rfl y⟩, rfl, c, tx, L, A, P1, P2, T, U, V, ⟨W0, W1, w7⟩, Q⟩
      | true =>
        obtain ⟨w8, w9⟩ := w3 rfl
        have V' : LV c (X.1 33) (X.1 34) (X.1 35) (X.1 36) (X.1 37) (X.1 38) (X.1 39) (F_X12_again_L31 (Y.2.1 23) (nI 0) FU (Y.2.1 22) 0) := LV_lv (fun j hj => by
          rw [g2 j, if_pos (by omega), show 7 * 0 + j = j by omega]) w8
        rw [if_neg bI_tn, if_neg bI_tn]
        have V2 := V'
        obtain ⟨n, z, hn, hz, v1, v2, v3, v4, l0, l7⟩ := V2
        exact ⟨fun _ => ⟨hv, fun _ => ⟨hv, hrf, w9⟩⟩, fun _ => ⟨hv, fun _ => ⟨g1, hv0⟩⟩, l0.symm, c, tx, L, A, P1, P2, T, U, V', ⟨W0, W1, w9⟩, Q⟩
    · subst q
      have W1' := W1
      obtain ⟨b0, w1, w2, w3⟩ := W1'
      rw [w1, w2]
      cases b0 with
      | false =>
        rw [if_pos bI_f, if_pos bI_f]
        exact ⟨fun _ => ⟨hv, fun y => absurd rfl y⟩, fun _ => ⟨hv, fun y => absurd rfl y⟩, rfl, c, tx, L, A, P1, P2, T, U, V, ⟨W0, W1, w7⟩, Q⟩
      | true =>
        obtain ⟨w8, w9⟩ := w3 rfl
        have V' : LV c (X.1 42) (X.1 43) (X.1 44) (X.1 45) (X.1 46) (X.1 47) (X.1 48) (F_X12_again_L31 (Y.2.1 23) (nI 1) FU (Y.2.1 22) 0) := LV_lv (fun j hj => by
          rw [g2 j, if_pos (by omega)]) w8
        rw [if_neg bI_tn, if_neg bI_tn]
        have V2 := V'
        obtain ⟨n, z, hn, hz, v1, v2, v3, v4, l0, l7⟩ := V2
        exact ⟨fun _ => ⟨hv, fun _ => ⟨hv, hrf, w9⟩⟩, fun _ => ⟨hv, fun _ => ⟨g1, hv0⟩⟩, l0.symm, c, tx, L, A, P1, P2, T, U, V', ⟨W0, W1, w9⟩, Q⟩

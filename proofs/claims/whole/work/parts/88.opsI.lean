/-! calls that change rules; keys; moves -/
theorem RuA_set {A : Nat → Nat → Nat} {XX : Nat → Nat → Int32} {ya : Nat → Int32} (U : RuA A (XX 26) (XX 27) (XX 28) ya) {r : Nat} (hr : r < 3) {B : Nat → Nat} {xr ya' : Nat → Int32} (h1 : ∀ h, h < 10 → xr h = nI (B h)) (hB : ∀ h, h < 10 → B h ≤ 5) (h2 : ∀ h, h < 10 → ya' (10 * r + h) = nI (B h)) (h3 : ∀ i, i < 30 → (i < 10 * r ∨ 10 * r + 10 ≤ i) → ya' i = ya i) : RuA (fun q h => if q = r then B h else A q h) (st1 XX (26 + 1 * r) xr 26) (st1 XX (26 + 1 * r) xr 27) (st1 XX (26 + 1 * r) xr 28) ya' := by
  have hc : r = 0 ∨ r = 1 ∨ r = 2 := by omega
  intro h hh
  obtain ⟨a1, a2, a3, a4, a5, a6, a7, a8, a9⟩ := U h hh
  have b1 := h1 h hh
  have b2 := hB h hh
  have b3 := h2 h hh
  rcases hc with q | q | q
  · subst q
    rw [Nat.mul_zero, Nat.zero_add] at b3
    have b4 := h3 (10 + h) (by omega) (by omega)
    have b5 := h3 (20 + h) (by omega) (by omega)
    exact ⟨b1, a2, a3, b3, b4.trans a5, b5.trans a6, b2, a8, a9⟩
  · subst q
    have b4 := h3 h (by omega) (by omega)
    have b5 := h3 (20 + h) (by omega) (by omega)
    exact ⟨a1, b1, a3, b4.trans a4, b3, b5.trans a6, a7, b2, a9⟩
  · subst q
    have b4 := h3 h (by omega) (by omega)
    have b5 := h3 (10 + h) (by omega) (by omega)
    exact ⟨a1, a2, b1, b4.trans a4, b5.trans a5, b3, a7, a8, b2⟩
theorem op_put : Op_put Rl := by
  intro x1 x2 X Y a b hR
  obtain ⟨c, tx, L, A, P1, P2, T, U, V, W, Q⟩ := hR
  show oknX_put a X x1 x2 ∧ oknY_put b Y x1 x2 ∧ (nX_put a X x1 x2).1 = (nY_put b Y x1 x2).1 ∧ Rl (nX_put a X x1 x2).2 (nY_put b Y x1 x2).2
  unfold oknX_put oknY_put nX_put nY_put ok_X11_put F_X11_put ok_X12_put F_X12_put
  rcases rul x1 with ⟨e1, e2⟩ | ⟨r, hr, ex, e1, e2, e3⟩
  · rw [e1, e2, if_pos rfl, if_neg i10]
    refine ⟨fun y => absurd rfl y, fun y => absurd y i10, rfl, ?_⟩
    rcases sel3_cases x1 with q | q | q
    · rw [q]; exact ⟨c, tx, L, A, P1, P2, T, U, V, W, Q⟩
    · rw [q]; exact ⟨c, tx, L, A, P1, P2, T, U, V, W, Q⟩
    · rw [q]; exact ⟨c, tx, L, A, P1, P2, T, U, V, W, Q⟩
  · have i3 : F_X12_in x2.toInt64 0 365 = (if x2 < 0 then 0 else if (366 : Int32) ≤ x2 then 0 else 1) := in_0 x2 (K := 365) (by decide)
    have hc : r = 0 ∨ r = 1 ∨ r = 2 := by omega
    rw [e1, e2, if_neg i10, if_pos rfl, i3, e3]
    have same : Rl ((st1 X.1 (17 + 1 * r) (X.1 (17 + 1 * r))), (st1 X.2.1 (26 + 1 * r) (X.2.1 (26 + 1 * r))), X.2.2.1, X.2.2.2) ((st1 Y.1 0 0), (st1 Y.2.1 20 (Y.2.1 20)), Y.2.2.1, Y.2.2.2) := by
      rcases hc with q | q | q
      · subst q; exact ⟨c, tx, L, A, P1, P2, T, U, V, W, Q⟩
      · subst q; exact ⟨c, tx, L, A, P1, P2, T, U, V, W, Q⟩
      · subst q; exact ⟨c, tx, L, A, P1, P2, T, U, V, W, Q⟩
    by_cases h0 : x2 < 0
    · rw [if_pos h0, if_pos h0, if_pos rfl]
      exact ⟨fun _ y => absurd h0 y, fun _ y => absurd rfl y, rfl, same⟩
    · obtain ⟨n, hn, ey⟩ := nI_of h0
      by_cases h1 : n < 366
      · have l1 : x2 < 366 := by rw [ey]; exact nI_lt (b := 366) h1 (by decide)
        have l2 : ¬ (366 : Int32) ≤ x2 := by rw [ey]; exact nI_ge (b := 366) h1 (by decide)
        rw [if_neg h0, if_pos l1, if_neg h0, if_neg l2, if_neg i10]
        have l6 : (if (6 : Int32) ≤ x2 then (1 : Int32) else 0) = nI (if n < 6 then 0 else 1) := by
          rw [ey]
          by_cases h6 : n < 6
          · rw [if_neg (le_lit (K := 6) 6 rfl h6 (by decide)), if_pos h6]; rfl
          · rw [if_pos (show (6 : Int32) ≤ nI n from nI_le (a := 6) (by omega) hn), if_neg h6]; rfl
        unfold F_X12_put_b35
        dsimp only
        rw [l6, ex, ey]
        obtain ⟨p1, ac', p2, p3⟩ := short_X h1 (X.2.1 (26 + 1 * r))
        obtain ⟨q1, q2, q3⟩ := try_Y h1 (show r ≤ 3 by omega) (Y.2.1 20)
        have hv : vp_in (nI r) 3 := vp_in_nI hr (by decide)
        have hrf : rf3 (a 31) (a 33) (a 35) (nI r).toNatClampNeg = some (a (31 + 2 * r)) := by rw [nI_clamp (by omega)]; exact rf3_at rfl rfl rfl hr
        rw [p2]
        dsimp only
        unfold F_X11_put_b33 ok_X11_put_b33
        have U' := RuA_set U hr p3 (fun h _ => shA_le) q2 (fun i _ hi => q3 i hi)
        refine ⟨fun _ _ _ => ⟨hv, hrf, p1, hv, hrf⟩, fun _ _ => q1, rfl, ?_⟩
        rcases hc with q | q | q
        · subst q; exact ⟨c, tx, L, _, P1, P2, T, U', V, W, Q⟩
        · subst q; exact ⟨c, tx, L, _, P1, P2, T, U', V, W, Q⟩
        · subst q; exact ⟨c, tx, L, _, P1, P2, T, U', V, W, Q⟩
      · have l1 : ¬ x2 < 366 := by rw [ey]; exact nI_nlt (b := 366) (by omega) hn
        have l2 : (366 : Int32) ≤ x2 := by rw [ey]; exact nI_le (a := 366) (by omega) hn
        rw [if_neg h0, if_neg l1, if_neg h0, if_pos l2, if_pos rfl]
        exact ⟨fun _ _ y => absurd y l1, fun _ y => absurd rfl y, rfl, same⟩
/-- a rule that was read is whole -/
def RT (s : Rs) : Prop := (∀ j v, s.2.2.2.2 j = some v → v ≤ 5) ∧ (s.1 = true → ∀ j, ∃ v, s.2.2.2.2 j = some v)
theorem RT_ena {s : Rs} {v : Nat} (h : RT s) (hv : v ≤ 5) : RT (ena s v) := by
  obtain ⟨e, w, ho, m, a⟩ := s
  cases ho with
  | none =>
    refine ⟨fun j u q => ?_, fun _ j => ?_⟩
    · have q' : (match a j with | none => some v | some x => some x) = some u := q
      cases ej : a j with
      | none => rw [ej] at q'; have := Option.some.inj q'; omega
      | some x => rw [ej] at q'; exact h.1 j u (by rw [← q']; exact ej)
    · show ∃ u, (match a j with | none => some v | some x => some x) = some u
      cases a j with
      | none => exact ⟨v, rfl⟩
      | some x => exact ⟨x, rfl⟩
  | some g =>
    refine ⟨fun j u q => ?_, fun q => ?_⟩
    · have q' : (if j = g then some v else a j) = some u := q
      by_cases ej : j = g
      · rw [if_pos ej] at q'; have := Option.some.inj q'; omega
      · rw [if_neg ej] at q'; exact h.1 j u q'
    · have q' : false = true := q
      cases q'
theorem RT_stp {s s' : Rs} {b : Nat} (h : RT s) (q : stp s b = some s') : RT s' := by
  unfold stp at q
  by_cases c1 : s.1 = true
  · rw [if_pos c1] at q; cases q
  · rw [if_neg c1] at q
    by_cases c2 : s.2.1 = true
    · rw [if_pos c2] at q
      by_cases c3 : 48 ≤ b ∧ b ≤ 51
      · rw [if_pos c3] at q; rw [← Option.some.inj q]; exact RT_ena h (by omega)
      · rw [if_neg c3] at q; cases q
    · rw [if_neg c2] at q
      by_cases c3 : b = 72
      · rw [if_pos c3] at q; rw [← Option.some.inj q]; exact RT_ena h (by decide)
      · rw [if_neg c3] at q
        by_cases c4 : b = 78
        · rw [if_pos c4] at q; rw [← Option.some.inj q]; exact RT_ena h (by decide)
        · rw [if_neg c4] at q
          by_cases c5 : b = 80
          · rw [if_pos c5] at q; rw [← Option.some.inj q]
            exact ⟨h.1, fun z => by cases z⟩
          · rw [if_neg c5] at q
            cases e1 : s.2.2.1 with
            | some x => rw [e1] at q; cases q
            | none =>
              rw [e1] at q
              by_cases c6 : dig b = true
              · have q' : (match s.2.2.2.2 (b - 48) with | none => some ((false, false, some (b - 48), s.2.2.2) : Rs) | some _ => none) = some s' := by
                  rw [← q]; exact (if_pos c6).symm
                cases e2 : s.2.2.2.2 (b - 48) with
                | some x => rw [e2] at q'; cases q'
                | none =>
                  rw [e2] at q'; rw [← Option.some.inj q']
                  exact ⟨h.1, fun z => by cases z⟩
              · have q' : (none : Option Rs) = some s' := by rw [← q]; exact (if_neg c6).symm
                cases q'
theorem RT_rr {tx : Nat → Nat} {L : Nat} : ∀ d s, RT s → RT (rr tx L d s).2 ∧ ((rr tx L d s).1 = none → (rr tx L d s).2.1 = true) ∧ (∀ pos, (rr tx L d s).1 = some pos → pos ≤ L) := by
  intro d
  induction d with
  | zero =>
    intro s h
    refine ⟨h, fun q => ?_, fun pos q => ?_⟩
    · have q' : (if s.1 = true then none else some L) = none := q
      by_cases c1 : s.1 = true
      · exact c1
      · rw [if_neg c1] at q'; cases q'
    · have q' : (if s.1 = true then none else some L) = some pos := q
      by_cases c1 : s.1 = true
      · rw [if_pos c1] at q'; cases q'
      · rw [if_neg c1] at q'; have := Option.some.inj q'; omega
  | succ d ih =>
    intro s h
    rw [rr]
    cases e : stp s (tx (L - (d + 1))) with
    | none =>
      refine ⟨h, fun q => ?_, fun pos q => ?_⟩
      · cases q
      · have := Option.some.inj q; omega
    | some s' => exact ih s' (RT_stp h e)
theorem rl28_loop {r : Nat} (hr : r < 3) {ra : Nat → Int32} : ∀ f j (ac : Nat → Int32), j ≤ 10 → 10 < j + f → ok_X12_rule_L28 (nI r) ra f ac (nI j) ∧ ∀ i, F_X12_rule_L28 (nI r) ra f ac (nI j) i = if 10 * r + j ≤ i ∧ i < 10 * r + 10 then ra (i - 10 * r) else ac i := by
  intro f
  induction f with
  | zero => intro j ac h1 h2; omega
  | succ f ih =>
    intro j ac h1 h2
    rw [ok_X12_rule_L28_s, F_X12_rule_L28_s]
    by_cases e : j = 10
    · subst e
      rw [if_pos (show (10 : Int32) ≤ nI 10 from Int32.le_refl _)]
      refine ⟨fun q => absurd (Int32.le_refl _) q, fun i => ?_⟩
      rw [if_neg (by omega)]
    · have hj : j < 10 := by omega
      have e7 : (10 : Int32) * nI r + nI j = nI (10 * r + j) := by rw [show (10 : Int32) * nI r = nI (10 * r) from pk_mul 10 r, nI_add]
      rw [if_neg (le_lit (K := 10) 10 rfl hj (by decide)), e7, nI_clamp (by omega), nI_clamp (by omega), nI_1]
      obtain ⟨g1, g2⟩ := ih (j + 1) (upd ac (10 * r + j) (ra j)) (by omega) (by omega)
      refine ⟨fun _ => ⟨vp_in_nI hj (by decide), vp_in_nI (by omega) (by decide), g1⟩, fun i => ?_⟩
      rw [g2 i, upd_if]
      by_cases q : i = 10 * r + j
      · rw [if_neg (by omega), if_pos q, if_pos (by omega), show i - 10 * r = j by omega]
      · by_cases q2 : 10 * r + (j + 1) ≤ i ∧ i < 10 * r + 10
        · rw [if_pos q2, if_pos (by omega)]
        · rw [if_neg q2, if_neg q, if_neg (by omega)]
theorem ex4 (q : Int32 × Int32 × Int32 × (Nat → Int32)) : ∃ q0 q1 q2 q3, q = (q0, q1, q2, q3) := ⟨q.1, q.2.1, q.2.2.1, q.2.2.2, rfl⟩
theorem op_rule : Op_rule Rl := by
  intro x1 X Y a b hR
  obtain ⟨c, tx, L, A, P1, P2, ⟨T, t1, t2⟩, U, V, W, Q⟩ := hR
  show oknX_rule a X x1 ∧ oknY_rule b Y x1 ∧ (nX_rule a X x1).1 = (nY_rule b Y x1).1 ∧ Rl (nX_rule a X x1).2 (nY_rule b Y x1).2
  unfold oknX_rule oknY_rule nX_rule nY_rule ok_X11_rule F_X11_rule ok_X12_rule F_X12_rule
  rcases rul x1 with ⟨e1, e2⟩ | ⟨r, hr, ex, e1, e2, e3⟩
  · rw [e1, e2, if_pos rfl, if_neg i10]
    refine ⟨fun y => absurd rfl y, fun y => absurd y i10, rfl, ?_⟩
    rcases sel3_cases x1 with q | q | q
    · rw [q]; exact ⟨c, tx, L, A, P1, P2, ⟨T, t1, t2⟩, U, V, W, Q⟩
    · rw [q]; exact ⟨c, tx, L, A, P1, P2, ⟨T, t1, t2⟩, U, V, W, Q⟩
    · rw [q]; exact ⟨c, tx, L, A, P1, P2, ⟨T, t1, t2⟩, U, V, W, Q⟩
  · have hc : r = 0 ∨ r = 1 ∨ r = 2 := by omega
    obtain ⟨p1, f, e, w, h, m, ac', p2, p3⟩ := rule_X T (X.2.1 29)
    obtain ⟨q1, q3⟩ := rule_Y T (Y.2.1 21)
    obtain ⟨y0, y1, y2, y3, q2⟩ := ex4 (F_X12_readRule (nI L) (Y.2.1 0) (Y.2.1 21))
    rw [q2] at q3
    unfold RVY at q3
    dsimp only at q3
    have hv : vp_in (nI r) 3 := vp_in_nI hr (by decide)
    have hrf : rf3 (a 31) (a 33) (a 35) (nI r).toNatClampNeg = some (a (31 + 2 * r)) := by rw [nI_clamp (by omega)]; exact rf3_at rfl rfl rfl hr
    rw [e1, e2, if_neg i10, if_pos rfl, e3, ex, t1, t2, p2, q2]
    dsimp only
    unfold F_X11_rule_b28 ok_X11_rule_b28 F_X12_rule_b18 ok_X12_rule_b18
    obtain ⟨z1, z2, z3⟩ := RT_rr (tx := tx) (L := L) L r0 ⟨fun j v q => (by cases q), fun q => (by cases q)⟩
    obtain ⟨g1, g2⟩ := rl28_loop hr (ra := y3) FU 0 (Y.2.1 20) (by decide) (by have := FU_ge; omega)
    rw [nI_0] at g1 g2
    cases ho : (rr tx L L r0).1 with
    | some pos =>
      have hp := z3 pos ho
      have hL := T.1
      have f9 : ¬ f = -9 := by rw [p3.1 pos ho]; exact nI_ne9 (by omega)
      have y9 : ¬ y0 = -9 := by rw [q3.1 pos ho]; exact nI_ne9 (by omega)
      rw [if_neg f9, if_neg y9]
      refine ⟨fun _ => ⟨p1, fun y => absurd y f9⟩, fun _ => ⟨q1, fun y => absurd y y9⟩, rfl, ?_⟩
      rcases hc with q | q | q
      · subst q; exact ⟨c, tx, L, A, P1, P2, ⟨T, t1, t2⟩, U, V, W, Q⟩
      · subst q; exact ⟨c, tx, L, A, P1, P2, ⟨T, t1, t2⟩, U, V, W, Q⟩
      · subst q; exact ⟨c, tx, L, A, P1, P2, ⟨T, t1, t2⟩, U, V, W, Q⟩
    | none =>
      obtain ⟨f9, m1, m2⟩ := p3.2 ho
      obtain ⟨y9, n1, n2⟩ := q3.2 ho
      have hB : ∀ j, ∃ v, (rr tx L L r0).2.2.2.2.2 j = some v := z1.2 (z2 ho)
      have hB2 : ∀ j, aI ((rr tx L L r0).2.2.2.2.2 j) = nI (((rr tx L L r0).2.2.2.2.2 j).getD 0) ∧ ((rr tx L L r0).2.2.2.2.2 j).getD 0 ≤ 5 := fun j => by
        obtain ⟨v, ev⟩ := hB j
        have := z1.1 j v ev
        rw [ev]
        exact ⟨rfl, this⟩
      rw [if_pos f9, if_pos y9]
      unfold F_X5_copyOf
      dsimp only
      unfold F_X11_rule_b49 F_X12_rule_b57
      have U' := RuA_set (XX := X.2.1) (xr := va_cpy ac' (X.2.1 (26 + 1 * r)) (0 : Int32).toNatClampNeg (0 : Int32).toNatClampNeg (10 : Int32).toNatClampNeg) (ya' := F_X12_rule_L28 (nI r) y3 FU (Y.2.1 20) 0) (B := fun j => ((rr tx L L r0).2.2.2.2.2 j).getD 0) U hr (fun h hh => by
        show (if 0 ≤ h ∧ h < 0 + 10 then ac' (0 + (h - 0)) else _) = _
        rw [if_pos (by omega), show 0 + (h - 0) = h by omega, m2 h hh]; exact (hB2 h).1) (fun h _ => (hB2 h).2) (fun h hh => by
        rw [g2 (10 * r + h), if_pos (by omega), show 10 * r + h - 10 * r = h by omega, n2 h hh]; exact (hB2 h).1) (fun i _ hi => by
        rw [g2 i, if_neg (by omega)])
      refine ⟨fun _ => ⟨p1, fun _ => ⟨hv, hrf⟩⟩, fun _ => ⟨q1, fun _ => g1⟩, m1.trans n1.symm, ?_⟩
      rcases hc with q | q | q
      · subst q; exact ⟨c, tx, L, _, P1, P2, ⟨T, t1, t2⟩, U', V, W, Q⟩
      · subst q; exact ⟨c, tx, L, _, P1, P2, ⟨T, t1, t2⟩, U', V, W, Q⟩
      · subst q; exact ⟨c, tx, L, _, P1, P2, ⟨T, t1, t2⟩, U', V, W, Q⟩
theorem st1_back {α : Type} {u : Nat → Bool} {f g : Nat → α} {k : Nat} {x : α} (hx : x = g k) (h : ∀ j, u j = true → f j = g j) : ∀ j, u j = true → st1 f k x j = g j := by
  intro j hj
  unfold st1
  cases e : Nat.beq j k with
  | true =>
    have := Nat.eq_of_beq_eq_true e
    rw [this]; exact hx
  | false => exact h j hj
theorem op_keys : Op_keys Rl := by
  intro x1 x2 X Y a b hR
  have key : (ok_X11_keys (a (31 + 2 * (sel3 x1))) (X.1 1) (X.1 2) (X.1 3) (X.1 5) (X.2.1 1) (X.2.1 4) (X.2.1 5) (X.2.1 6) (X.2.1 7) (X.2.1 8) (X.2.1 9) (X.2.1 10) (X.2.1 11) (X.2.1 12) (rf3 (a 31) (a 33) (a 35)) (X.2.1 (26 + 1 * (sel3 x1))) (X.1 65) (X.1 66) (X.1 67) (X.1 68) (X.1 69) (X.1 70) (X.1 71) (X.1 72) (X.1 73) (X.2.1 34) (X.2.1 35) x1 x2) ∧ (ok_X12_keys (Y.1 3) (Y.1 5) (Y.1 10) (Y.1 11) (Y.1 12) (Y.1 13) (Y.1 14) (Y.1 15) (Y.1 16) (Y.1 17) (Y.1 18) (Y.1 19) (Y.1 20) (Y.1 21) (Y.2.1 1) (Y.2.1 2) (Y.2.1 3) (Y.2.1 4) (Y.2.1 5) (Y.2.1 6) (Y.2.1 7) (Y.2.1 8) (Y.2.1 9) (Y.2.1 20) (Y.2.1 26) (Y.2.1 27) (Y.2.1 28) (Y.2.1 29) x1 x2) ∧ (F_X11_keys (X.1 1) (X.1 2) (X.1 3) (X.1 5) (X.2.1 1) (X.2.1 4) (X.2.1 5) (X.2.1 6) (X.2.1 7) (X.2.1 8) (X.2.1 9) (X.2.1 10) (X.2.1 11) (X.2.1 12) (X.2.1 (26 + 1 * (sel3 x1))) (X.1 65) (X.1 66) (X.1 67) (X.1 68) (X.1 69) (X.1 70) (X.1 71) (X.1 72) (X.1 73) (X.2.1 34) (X.2.1 35) x1 x2).1 = (F_X12_keys (Y.1 3) (Y.1 5) (Y.1 10) (Y.1 11) (Y.1 12) (Y.1 13) (Y.1 14) (Y.1 15) (Y.1 16) (Y.1 17) (Y.1 18) (Y.1 19) (Y.1 20) (Y.1 21) (Y.2.1 1) (Y.2.1 2) (Y.2.1 3) (Y.2.1 4) (Y.2.1 5) (Y.2.1 6) (Y.2.1 7) (Y.2.1 8) (Y.2.1 9) (Y.2.1 20) (Y.2.1 26) (Y.2.1 27) (Y.2.1 28) (Y.2.1 29) x1 x2).1 ∧ (F_X11_keys (X.1 1) (X.1 2) (X.1 3) (X.1 5) (X.2.1 1) (X.2.1 4) (X.2.1 5) (X.2.1 6) (X.2.1 7) (X.2.1 8) (X.2.1 9) (X.2.1 10) (X.2.1 11) (X.2.1 12) (X.2.1 (26 + 1 * (sel3 x1))) (X.1 65) (X.1 66) (X.1 67) (X.1 68) (X.1 69) (X.1 70) (X.1 71) (X.1 72) (X.1 73) (X.2.1 34) (X.2.1 35) x1 x2).2.1 = X.1 5 ∧ (F_X12_keys (Y.1 3) (Y.1 5) (Y.1 10) (Y.1 11) (Y.1 12) (Y.1 13) (Y.1 14) (Y.1 15) (Y.1 16) (Y.1 17) (Y.1 18) (Y.1 19) (Y.1 20) (Y.1 21) (Y.2.1 1) (Y.2.1 2) (Y.2.1 3) (Y.2.1 4) (Y.2.1 5) (Y.2.1 6) (Y.2.1 7) (Y.2.1 8) (Y.2.1 9) (Y.2.1 20) (Y.2.1 26) (Y.2.1 27) (Y.2.1 28) (Y.2.1 29) x1 x2).2.2.1 = Y.1 10 := by
    obtain ⟨c, tx, L, A, ⟨R, Fx1, G⟩, ⟨S, n3, g4⟩, T, U, V, W, Q⟩ := hR
    unfold ok_X11_keys F_X11_keys ok_X12_keys F_X12_keys F_X11_canBegin
    obtain ⟨bo, bb⟩ := bgn R S x2
    rw [n3]
    rcases rul x1 with ⟨e1, e2⟩ | ⟨r, hr, ex, e1, e2, e3⟩
    · rw [e1, e2, if_pos rfl, if_pos rfl, if_neg i10]
      exact ⟨fun y => absurd rfl y, fun y => absurd y i10, rfl, rfl, rfl⟩
    · rw [e1, e2, if_neg i10, if_pos rfl, e3]
      rcases bb with ⟨f1, f2⟩ | ⟨k, bk, hk, fx, f1, f2⟩
      · rw [f1, f2, if_pos rfl, if_pos rfl, if_neg i10]
        exact ⟨fun y => absurd rfl y, fun _ => ⟨bo, fun y => absurd y i10⟩, rfl, rfl, rfl⟩
      · rw [f1, f2, if_neg i10, if_neg i10, if_pos rfl, ex, fx]
        obtain ⟨u1, u2⟩ := RuA_at U hr
        have bo' : ok_X12_noBegin (nI k) := fx ▸ bo
        have hv : vp_in (nI r) 3 := vp_in_nI hr (by decide)
        have hrf : rf3 (a 31) (a 33) (a 35) (nI r).toNatClampNeg = some (a (31 + 2 * r)) := by rw [nI_clamp (by omega)]; exact rf3_at rfl rfl rfl hr
        obtain ⟨p1, K1, k1, p2⟩ := fk_X R u1 bk (X.1 65) (X.1 66) (X.1 67) (X.1 68) (X.1 69) (X.1 70) (X.1 71) (X.1 72) (X.1 73) (X.2.1 34) (X.2.1 35)
        obtain ⟨q1, o', t1, t2, t3, t4, t5, t6, t7, t8, t9, ld', rg', N', f1', f2', f3', q', q2, q3⟩ := ky_loop S (r := r) (by omega) u2 bk FU 0 (Nat.zero_le _) (by have := FU_ge; have := pow_le64 R.1.n6; omega) (Y.1 10) (Y.1 11) (Y.1 12) (Y.1 13) (Y.1 14) (Y.1 15) (Y.1 16) (Y.1 17) (Y.1 18) (Y.1 19) (Y.1 20) (Y.1 21) (Y.2.1 26) (Y.2.1 27) (Y.2.1 28) (Y.2.1 29) none (fun v hv => absurd hv (Nat.not_lt_zero _))
        obtain ⟨K2, k2, k3⟩ := KQ_KP R.1 bk q3
        have k4 := KP_uni k1 k3
        have q2' : F_X12_keys_L34 (nI (kN c)) (Y.1 5) (Y.2.1 1) (Y.2.1 2) (Y.2.1 3) (Y.2.1 4) (Y.2.1 5) (Y.2.1 6) (Y.2.1 7) (Y.2.1 8) (Y.2.1 9) (Y.2.1 20) (nI r) (nI k) FU (Y.1 10) (Y.1 11) (Y.1 12) (Y.1 13) (Y.1 14) (Y.1 15) (Y.1 16) (Y.1 17) (Y.1 18) (Y.1 19) (Y.1 20) (Y.1 21) (Y.2.1 26) (Y.2.1 27) (Y.2.1 28) (Y.2.1 29) (-9) 0 = _ := q2
        rw [q2']
        dsimp only
        unfold F_X11_keys_b30 F_X12_keys_b95
        dsimp only
        rw [p2, k2, k4]
        exact ⟨fun _ => ⟨hv, hrf, p1⟩, fun _ => ⟨bo', fun _ => q1⟩, rfl, rfl, rfl⟩
  refine ⟨key.1, key.2.1, ?_, Rl_keep hR ?_ ?_ ?_ ?_⟩
  · show (nX_keys a X x1 x2).1 = (nY_keys b Y x1 x2).1
    unfold nX_keys nY_keys
    exact key.2.2.1
  · unfold nX_keys; dsimp only; exact (st1_keep rfl (st1_keep rfl (st1_keep rfl (st1_keep rfl (st1_keep rfl (st1_keep rfl (st1_keep rfl (st1_keep rfl (st1_keep rfl (st1_back key.2.2.2.1 (fun _ _ => rfl)))))))))))
  · unfold nX_keys; dsimp only; exact (st1_keep rfl (st1_keep rfl (fun _ _ => rfl)))
  · unfold nY_keys; dsimp only; exact (st1_keep rfl (st1_keep rfl (st1_keep rfl (st1_keep rfl (st1_keep rfl (st1_keep rfl (st1_keep rfl (st1_keep rfl (st1_keep rfl (st1_keep rfl (st1_keep rfl (st1_back key.2.2.2.2 (st1_keep rfl (fun _ _ => rfl))))))))))))))
  · unfold nY_keys; dsimp only; exact (st1_keep rfl (st1_keep rfl (st1_keep rfl (st1_keep rfl (fun _ _ => rfl)))))
theorem ex12 (q : Int32 × Int32 × Int32 × Int32 × Int32 × Int32 × Int32 × Int32 × Int32 × Int32 × (Nat → Int32) × (Nat → Int32)) : ∃ q0 q1 q2 q3 q4 q5 q6 q7 q8 q9 q10 q11, q = (q0, q1, q2, q3, q4, q5, q6, q7, q8, q9, q10, q11) := ⟨q.1, q.2.1, q.2.2.1, q.2.2.2.1, q.2.2.2.2.1, q.2.2.2.2.2.1, q.2.2.2.2.2.2.1, q.2.2.2.2.2.2.2.1, q.2.2.2.2.2.2.2.2.1, q.2.2.2.2.2.2.2.2.2.1, q.2.2.2.2.2.2.2.2.2.2.1, q.2.2.2.2.2.2.2.2.2.2.2, rfl⟩
theorem op_move : Op_move Rl := by
  intro x1 x2 X Y a b hR
  obtain ⟨c, tx, L, A, ⟨R, Fx1, G⟩, ⟨S, n3, g4⟩, T, U, V, W, Q⟩ := hR
  show oknX_move a X x1 x2 ∧ oknY_move b Y x1 x2 ∧ (nX_move a X x1 x2).1 = (nY_move b Y x1 x2).1 ∧ Rl (nX_move a X x1 x2).2 (nY_move b Y x1 x2).2
  unfold oknX_move oknY_move nX_move nY_move ok_X11_move F_X11_move ok_X12_move F_X12_move F_X11_canBegin
  obtain ⟨bo, bb⟩ := bgn R S x2
  rw [n3]
  rcases rul x1 with ⟨e1, e2⟩ | ⟨r, hr, ex, e1, e2, e3⟩
  · rw [e1, e2, if_pos rfl, if_pos rfl, if_neg i10]
    exact ⟨fun y => absurd rfl y, fun y => absurd y i10, rfl, c, tx, L, A, ⟨R, Fx1, G⟩, ⟨S, n3, g4⟩, T, U, V, W, Q⟩
  · rw [e1, e2, if_neg i10, if_pos rfl, e3]
    rcases bb with ⟨f1, f2⟩ | ⟨k, bk, hk, fx, f1, f2⟩
    · rw [f1, f2, if_pos rfl, if_pos rfl, if_neg i10]
      exact ⟨fun y => absurd rfl y, fun _ => ⟨bo, fun y => absurd y i10⟩, rfl, c, tx, L, A, ⟨R, Fx1, G⟩, ⟨S, n3, g4⟩, T, U, V, W, Q⟩
    · rw [f1, f2, if_neg i10, if_neg i10, if_pos rfl, ex, fx]
      obtain ⟨u1, u2⟩ := RuA_at U hr
      have bo' : ok_X12_noBegin (nI k) := fx ▸ bo
      have hv : vp_in (nI r) 3 := vp_in_nI hr (by decide)
      have hrf : rf3 (a 31) (a 33) (a 35) (nI r).toNatClampNeg = some (a (31 + 2 * r)) := by rw [nI_clamp (by omega)]; exact rf3_at rfl rfl rfl hr
      obtain ⟨m, n, hg⟩ := RG_ex R.1 (A := A r) bk
      obtain ⟨p1, p2⟩ := never_X R u1 bk hg (X.1 65) (X.1 66) (X.1 67) (X.1 68) (X.1 69) (X.1 70) (X.1 71) (X.1 72) (X.1 73) (X.2.1 34) (X.2.1 35)
      obtain ⟨q1, t1, t2, t3, t4, t5, t6, t7, t8, t9, N', f1', f2', f3', q2, -⟩ := never_Y S (r := r) (by omega) u2 bk hg (Y.1 11) (Y.1 12) (Y.1 13) (Y.1 14) (Y.1 15) (Y.1 16) (Y.1 17) (Y.1 18) (Y.1 19) (Y.2.1 26) (Y.2.1 27) (Y.2.1 28) (Y.2.1 29)
      obtain ⟨s0, s1, s2, s3, s4, s5, s6, s7, s8, s9, sK, sS, hs⟩ := ex12 (F_X4_nobodyStands (X.1 65) (X.1 66) (X.1 67) (X.1 68) (X.1 69) (X.1 70) (X.1 71) (X.1 72) (X.1 73) (X.2.1 34) (X.2.1 35) (X.1 1) (X.1 2) (X.1 3) (X.1 5) (X.2.1 1) (X.2.1 4) (X.2.1 5) (X.2.1 6) (X.2.1 7) (X.2.1 8) (X.2.1 9) (X.2.1 10) (X.2.1 11) (X.2.1 12) (X.2.1 (26 + 1 * r)) (nI k))
      rw [hs] at p2
      dsimp only at p2
      rw [hs, q2]
      dsimp only
      unfold F_X11_move_b29 ok_X11_move_b29 F_X12_move_b28 ok_X12_move_b28
      rw [p2]
      cases az (fun j => wT c (A r) nf (xw c (A r) k j) 10) n with
      | true =>
        rw [if_neg bI_tn, if_neg bI_tn]
        exact ⟨fun _ => ⟨hv, hrf, p1, fun y => absurd y bI_tn⟩, fun _ => ⟨bo', fun _ => ⟨q1, fun y => absurd y bI_tn⟩⟩, rfl, c, tx, L, A, ⟨R, Fx1, G⟩, ⟨S, n3, g4⟩, T, U, V, W, Q⟩
      | false =>
        rw [if_pos bI_f, if_pos bI_f]
        obtain ⟨m1, fi', la', be', en', co', nc', v1, v2, v3, v4, v5, v6, v7, v8, v9, kA', sA', R', F', m2⟩ := mt_loop u1 bk (rf3 (a 31) (a 33) (a 35)) (a (31 + 2 * r)) (nI r) hv hrf FU 0 (Nat.zero_le _) (by have := FU_ge; omega) (X.2.1 2) (X.2.1 3) (X.2.1 9) (X.2.1 10) (X.2.1 11) (X.2.1 12) s1 s2 s3 s4 s5 s6 s7 s8 s9 sK sS R Fx1
        obtain ⟨m3, w1, w2, w3, w4, w5, w6, w7, w8, w9, ld', rg', fr', to', N2, g1', g2', g3', S', m4⟩ := mu_loop (r := r) (by omega) u2 bk 0 FU 0 (Nat.zero_le _) (by have := FU_ge; omega) t1 t2 t3 t4 t5 t6 t7 t8 t9 (nI m) (nI (n - m)) (Y.2.1 2) (Y.2.1 3) N' f1' f2' f3' S
        rw [nI_0] at m1 m2 m3 m4
        rw [m2, m4]
        exact ⟨fun _ => ⟨hv, hrf, p1, fun _ => m1⟩, fun _ => ⟨bo', fun _ => ⟨q1, fun _ => m3⟩⟩, rfl, c, tx, L, A, ⟨R', F', G⟩, ⟨S', n3, g4⟩, T, U, V, W, Q⟩
theorem ZI_mvc {c : Cl} {s h : Nat} (z : Zt) (q : ZI c z) : ZI (mvc c s h) z := q
theorem op_shift : Op_shift Rl := by
  intro x1 x2 X Y a b hR
  obtain ⟨c, tx, L, A, ⟨R, Fx1, G⟩, ⟨S, n3, g4⟩, T, U, V, W, Q⟩ := hR
  show oknX_shift a X x1 x2 ∧ oknY_shift b Y x1 x2 ∧ (nX_shift a X x1 x2).1 = (nY_shift b Y x1 x2).1 ∧ Rl (nX_shift a X x1 x2).2 (nY_shift b Y x1 x2).2
  unfold oknX_shift oknY_shift nX_shift nY_shift ok_X11_shift F_X11_shift ok_X12_shift F_X12_shift
  have s8 := R.1.s8
  have hp := R.2.2.2.2.2.1
  have V0 := V
  obtain ⟨n, z, hn, hz, v1, v2, v3, v4, l0, l1, l2, l3, l4, l5, l6⟩ := V0
  rcases ses R x1 with ⟨e1, e2⟩ | ⟨s, hs, ex, e1, e2⟩
  · rw [e1, show F_X12_noSession (Y.1 5) x1 = 1 by rw [show Y.1 5 = nI (kS c) from S.2.1]; exact e2, if_pos rfl, if_neg i10]
    exact ⟨fun y => absurd rfl y, fun y => absurd y i10, rfl, c, tx, L, A, ⟨R, Fx1, G⟩, ⟨S, n3, g4⟩, T, U, V, W, Q⟩
  · rw [e1, show F_X12_noSession (Y.1 5) x1 = 0 by rw [show Y.1 5 = nI (kS c) from S.2.1]; exact e2, if_neg i10, if_pos rfl]
    rcases hou x2 with ⟨f1, f2⟩ | ⟨h, hh, hx, f1, f2⟩
    · rw [f1, f2, if_pos rfl, if_neg i10]
      exact ⟨fun _ y => absurd rfl y, fun _ y => absurd y i10, rfl, c, tx, L, A, ⟨R, Fx1, G⟩, ⟨S, n3, g4⟩, T, U, V, W, Q⟩
    · obtain ⟨m1, m2⟩ := mb_X R.1 hp Fx1 hs hh
      obtain ⟨m3, m4⟩ := mb_Y S hs hh
      have m1' : ok_X1_mayBegin (X.1 2) (X.2.1 1) (X.2.1 2) (X.2.1 3) (nI s) (nI h) := by rw [show X.1 2 = nI (kS c) from R.2.2.1]; exact m1
      have m2' : F_X1_mayBegin (X.1 2) (X.2.1 1) (X.2.1 2) (X.2.1 3) (nI s) (nI h) = bI (mb c s h) := by rw [show X.1 2 = nI (kS c) from R.2.2.1]; exact m2
      have hv8 : vp_in (nI s) 8 := vp_in_nI (by omega) (by decide)
      have h2 : vp_in (2 : Int32) 7 := vp_in_nI (n := 2) (by decide) (by decide)
      have h3 : vp_in (3 : Int32) 7 := vp_in_nI (n := 3) (by decide) (by decide)
      rw [f1, f2, if_neg i10, if_pos rfl, ex, hx, m2', m4, tc2, tc3, l2, l3]
      cases hm : mb c s h with
      | false =>
        rw [if_pos bI_f, if_pos bI_f]
        exact ⟨fun _ _ => ⟨m1', fun y => absurd rfl y⟩, fun _ _ => ⟨m3, fun y => absurd rfl y⟩, rfl, c, tx, L, A, ⟨R, Fx1, G⟩, ⟨S, n3, g4⟩, T, U, V, W, Q⟩
      | true =>
        rw [if_neg bI_tn, if_neg bI_tn]
        by_cases i0 : X.1 26 = 0
        · rw [if_pos i0, if_pos i0]
          by_cases o0 : X.1 27 = 0
          · rw [if_pos o0, if_pos o0]
            obtain ⟨b1, fi', la', be', en', co', nc', b2, R', F'⟩ := beg_X R Fx1 hs (mb_len hm)
            obtain ⟨c1, fr', to', c2, S'⟩ := put_Y S hs (mb_len hm)
            rw [b2, c2]
            dsimp only
            unfold F_X11_shift_b77 F_X12_shift_b68
            dsimp only
            refine ⟨fun _ _ => ⟨m1', fun _ _ _ => ⟨hv8, b1⟩⟩, fun _ _ => ⟨m3, fun _ => ⟨h2, fun _ => ⟨h3, fun _ => ⟨hv8, c1⟩⟩⟩⟩, ?_, mvc c s h, tx, L, A, ⟨R', F', G⟩, ⟨S', n3, g4⟩, T, U, LV_mono ZI_mvc V, WS_mono ZI_mvc W, Q⟩
            rw [nI_clamp (by omega), (Fx1 s hs).1, (S.2.2.2.1 s hs).2.1]
          · rw [if_neg o0, if_neg o0]
            exact ⟨fun _ _ => ⟨m1', fun _ _ y => absurd y o0⟩, fun _ _ => ⟨m3, fun _ => ⟨h2, fun _ => ⟨h3, fun y => absurd y o0⟩⟩⟩, rfl, c, tx, L, A, ⟨R, Fx1, G⟩, ⟨S, n3, g4⟩, T, U, V, W, Q⟩
        · rw [if_neg i0, if_neg i0]
          exact ⟨fun _ _ => ⟨m1', fun _ y => absurd y i0⟩, fun _ _ => ⟨m3, fun _ => ⟨h2, fun y => absurd y i0⟩⟩, rfl, c, tx, L, A, ⟨R, Fx1, G⟩, ⟨S, n3, g4⟩, T, U, V, W, Q⟩

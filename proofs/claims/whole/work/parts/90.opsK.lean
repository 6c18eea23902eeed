/-! a club is made -/
theorem cr_pos {tx : Nat → Nat} {L : Nat} : ∀ d s pos, (cr tx L d s).1 = some pos → pos ≤ L := by
  intro d
  induction d with
  | zero =>
    intro s pos q
    have q' : (if s.1 = 0 ∧ ¬ kN s.2.2.2.2 = 0 then none else some L) = some pos := q
    by_cases c1 : s.1 = 0 ∧ ¬ kN s.2.2.2.2 = 0
    · rw [if_pos c1] at q'; cases q'
    · rw [if_neg c1] at q'; have := Option.some.inj q'; omega
  | succ d ih =>
    intro s pos
    rw [cr]
    cases e : stc s (tx (L - (d + 1))) with
    | none =>
      intro q
      have := Option.some.inj q; omega
    | some s' => exact ih s' pos
theorem mk47_loop : ∀ f j (kept : Nat → Int32), j ≤ 2 → 2 < j + f → ok_X11_make_L47 f kept (nI j) ∧ ∀ i, F_X11_make_L47 f kept (nI j) i = if j ≤ i ∧ i < 2 then 0 else kept i := by
  intro f
  induction f with
  | zero => intro j kept h1 h2; omega
  | succ f ih =>
    intro j kept h1 h2
    rw [ok_X11_make_L47_s, F_X11_make_L47_s]
    by_cases e : j = 2
    · subst e
      rw [if_pos (show (2 : Int32) ≤ nI 2 from Int32.le_refl _)]
      refine ⟨fun q => absurd (Int32.le_refl _) q, fun i => ?_⟩
      rw [if_neg (by omega)]
    · have hj : j < 2 := by omega
      rw [if_neg (le_lit (K := 2) 2 rfl hj (by decide)), nI_clamp (by omega), nI_1]
      obtain ⟨g1, g2⟩ := ih (j + 1) (upd kept j (vp_nar .boolean 0)) (by omega) (by omega)
      refine ⟨fun _ => ⟨vp_in_nI hj (by decide), g1⟩, fun i => ?_⟩
      rw [g2 i, upd_if]
      by_cases q : i = j
      · rw [if_neg (by omega), if_pos q, if_pos (by omega)]; rfl
      · by_cases q2 : j + 1 ≤ i ∧ i < 2
        · rw [if_pos q2, if_pos (by omega)]
        · rw [if_neg q2, if_neg q, if_neg (by omega)]
theorem bg2_loop : ∀ f j (live : Nat → Int32), j ≤ 7 → 7 < j + f → ok_X12_begin_L2 f live (nI j) ∧ ∀ i, F_X12_begin_L2 f live (nI j) i = if j ≤ i ∧ i < 7 then (if i = 1 then 10 else 0) else live i := by
  intro f
  induction f with
  | zero => intro j live h1 h2; omega
  | succ f ih =>
    intro j live h1 h2
    rw [ok_X12_begin_L2_s, F_X12_begin_L2_s]
    by_cases e : j = 7
    · subst e
      rw [if_pos (show (7 : Int32) ≤ nI 7 from Int32.le_refl _)]
      refine ⟨fun q => absurd (Int32.le_refl _) q, fun i => ?_⟩
      rw [if_neg (by omega)]
    · have hj : j < 7 := by omega
      have e1 : (if nI j = 1 then (10 : Int32) else 0) = if j = 1 then 10 else 0 := by
        by_cases q : j = 1
        · rw [if_pos q, if_pos (by rw [q]; rfl)]
        · rw [if_neg q, if_neg (fun y => q ((eq_lit (K := 1) 1 rfl (by omega) (by decide)).mp y))]
      rw [if_neg (le_lit (K := 7) 7 rfl hj (by decide)), nI_clamp (by omega), nI_1, e1]
      obtain ⟨g1, g2⟩ := ih (j + 1) (upd live j (if j = 1 then 10 else 0)) (by omega) (by omega)
      refine ⟨fun _ => ⟨vp_in_nI hj (by decide), g1⟩, fun i => ?_⟩
      rw [g2 i, upd_if]
      by_cases q : i = j
      · rw [if_neg (show ¬ (j + 1 ≤ i ∧ i < 7) by omega), if_pos q, if_pos (show j ≤ i ∧ i < 7 by omega), q]
      · by_cases q2 : j + 1 ≤ i ∧ i < 7
        · rw [if_pos q2, if_pos (show j ≤ i ∧ i < 7 by omega)]
        · rw [if_neg q2, if_neg q, if_neg (show ¬ (j ≤ i ∧ i < 7) by omega)]
theorem bg33_loop : ∀ f j (row : Nat → Int32), j ≤ 10 → 10 < j + f → ok_X12_begin_L33 f row (nI j) ∧ ∀ i, F_X12_begin_L33 f row (nI j) i = if j ≤ i ∧ i < 10 then 99 else row i := by
  intro f
  induction f with
  | zero => intro j row h1 h2; omega
  | succ f ih =>
    intro j row h1 h2
    rw [ok_X12_begin_L33_s, F_X12_begin_L33_s]
    by_cases e : j = 10
    · subst e
      rw [if_pos (show (10 : Int32) ≤ nI 10 from Int32.le_refl _)]
      refine ⟨fun q => absurd (Int32.le_refl _) q, fun i => ?_⟩
      rw [if_neg (by omega)]
    · have hj : j < 10 := by omega
      rw [if_neg (le_lit (K := 10) 10 rfl hj (by decide)), nI_clamp (by omega), nI_1]
      obtain ⟨g1, g2⟩ := ih (j + 1) (upd row j 99) (by omega) (by omega)
      refine ⟨fun _ => ⟨vp_in_nI hj (by decide), g1⟩, fun i => ?_⟩
      rw [g2 i, upd_if]
      by_cases q : i = j
      · rw [if_neg (by omega), if_pos q, if_pos (by omega)]
      · by_cases q2 : j + 1 ≤ i ∧ i < 10
        · rw [if_pos q2, if_pos (by omega)]
        · rw [if_neg q2, if_neg q, if_neg (by omega)]
/-- the reference's beginning -/
theorem bg_Y (live kept row : Nat → Int32) : ok_X12_begin live row ∧ ∃ live' kept' row', F_X12_begin live kept row = (0, live', kept', row') ∧ (∀ j, j < 7 → live' j = if j = 1 then 10 else 0) ∧ kept' 0 = 0 ∧ kept' 1 = 0 ∧ ∀ h, h < 10 → row' h = 99 := by
  obtain ⟨g1, g2⟩ := bg2_loop FU 0 live (by decide) (by have := FU_ge; omega)
  obtain ⟨g3, g4⟩ := bg33_loop FU 0 row (by decide) (by have := FU_ge; omega)
  rw [nI_0] at g1 g2 g3 g4
  unfold ok_X12_begin F_X12_begin
  dsimp only
  unfold ok_X12_begin_b31 F_X12_begin_b31 ok_X12_begin_b53 F_X12_begin_b53
  have h0 : vp_in (0 : Int32) 2 := vp_in_nI (n := 0) (by decide) (by decide)
  have h1 : vp_in (1 : Int32) 2 := vp_in_nI (n := 1) (by decide) (by decide)
  refine ⟨⟨g1, g3, h0, h1⟩, _, _, _, rfl, fun j hj => ?_, rfl, rfl, fun h hh => ?_⟩
  · rw [g2 j, if_pos (by omega)]
  · rw [g4 h, if_pos (by omega)]
theorem st10 : F_X3_startAt 10 = (0, 10, 0, 0, 0, 0, 0, 0, 0) := rfl
theorem LV_new {c : Cl} (w : 1 ≤ kN c) {lv : Nat → Int32} (h : ∀ j, j < 7 → lv j = if j = 1 then 10 else 0) : LV c 0 10 0 0 0 0 0 lv := by
  refine ⟨0, (10, 0, 0), by decide, ⟨Or.inl (Or.inr ⟨Nat.le_refl _, ?_⟩), Sb_0 c, Sb_0 c⟩, rfl, rfl, rfl, rfl, h 0 (by decide), h 1 (by decide), h 2 (by decide), h 3 (by decide), h 4 (by decide), h 5 (by decide), h 6 (by decide)⟩
  show 10 < 10 + kN c
  omega
theorem mk43_loop {rw1 rf1 rt1 : Nat → Int32} : ∀ f j (wh fr to : Nat → Int32), j ≤ 8 → 8 < j + f → ok_X12_make_L43 rw1 rf1 rt1 f wh fr to (nI j) ∧ ∃ wh' fr' to', F_X12_make_L43 rw1 rf1 rt1 f wh fr to (nI j) = (wh', fr', to') ∧ ∀ i, (j ≤ i → i < 8 → wh' i = rw1 i ∧ fr' i = rf1 i ∧ to' i = rt1 i) ∧ (i < j → wh' i = wh i ∧ fr' i = fr i ∧ to' i = to i) := by
  intro f
  induction f with
  | zero => intro j wh fr to h1 h2; omega
  | succ f ih =>
    intro j wh fr to h1 h2
    rw [ok_X12_make_L43_s, F_X12_make_L43_s]
    by_cases e : j = 8
    · subst e
      rw [if_pos (show (8 : Int32) ≤ nI 8 from Int32.le_refl _)]
      exact ⟨fun q => absurd (Int32.le_refl _) q, wh, fr, to, rfl, fun i => ⟨fun h3 h4 => by omega, fun _ => ⟨rfl, rfl, rfl⟩⟩⟩
    · have hj : j < 8 := by omega
      have hv : vp_in (nI j) 8 := vp_in_nI hj (by decide)
      rw [if_neg (le_lit (K := 8) 8 rfl hj (by decide)), nI_clamp (by omega), nI_1]
      obtain ⟨g1, wh', fr', to', g2, g3⟩ := ih (j + 1) (upd wh j (rw1 j)) (upd fr j (rf1 j)) (upd to j (rt1 j)) (by omega) (by omega)
      refine ⟨fun _ => ⟨hv, hv, hv, hv, hv, hv, g1⟩, wh', fr', to', g2, fun i => ⟨fun h3 h4 => ?_, fun h3 => ?_⟩⟩
      · by_cases q : i = j
        · obtain ⟨z1, z2, z3⟩ := (g3 i).2 (by omega)
          rw [upd_if, if_pos q] at z1 z2 z3
          rw [q] at z1 z2 z3 ⊢
          exact ⟨z1, z2, z3⟩
        · exact (g3 i).1 (by omega) h4
      · obtain ⟨z1, z2, z3⟩ := (g3 i).2 (by omega)
        rw [upd_if, if_neg (by omega)] at z1 z2 z3
        exact ⟨z1, z2, z3⟩
theorem mk93_loop {r1 r2 r3 r4 r5 : Nat → Int32} : ∀ f j (a1 a2 a3 a4 a5 : Nat → Int32), j ≤ 4 → 4 < j + f → ok_X12_make_L93 r1 r2 r3 r4 r5 f a1 a2 a3 a4 a5 (nI j) ∧ ∃ b1 b2 b3 b4 b5, F_X12_make_L93 r1 r2 r3 r4 r5 f a1 a2 a3 a4 a5 (nI j) = (b1, b2, b3, b4, b5) ∧ ∀ i, (j ≤ i → i < 4 → b1 i = vp_nar .boolean (r1 i) ∧ b2 i = r2 i ∧ b3 i = r3 i ∧ b4 i = r4 i ∧ b5 i = r5 i) ∧ (i < j → b1 i = a1 i ∧ b2 i = a2 i ∧ b3 i = a3 i ∧ b4 i = a4 i ∧ b5 i = a5 i) := by
  intro f
  induction f with
  | zero => intro j a1 a2 a3 a4 a5 h1 h2; omega
  | succ f ih =>
    intro j a1 a2 a3 a4 a5 h1 h2
    rw [ok_X12_make_L93_s, F_X12_make_L93_s]
    by_cases e : j = 4
    · subst e
      rw [if_pos (show (4 : Int32) ≤ nI 4 from Int32.le_refl _)]
      exact ⟨fun q => absurd (Int32.le_refl _) q, a1, a2, a3, a4, a5, rfl, fun i => ⟨fun h3 h4 => by omega, fun _ => ⟨rfl, rfl, rfl, rfl, rfl⟩⟩⟩
    · have hj : j < 4 := by omega
      have hv : vp_in (nI j) 4 := vp_in_nI hj (by decide)
      rw [if_neg (le_lit (K := 4) 4 rfl hj (by decide)), nI_clamp (by omega), nI_1]
      obtain ⟨g1, b1, b2, b3, b4, b5, g2, g3⟩ := ih (j + 1) (upd a1 j (vp_nar .boolean (r1 j))) (upd a2 j (r2 j)) (upd a3 j (r3 j)) (upd a4 j (r4 j)) (upd a5 j (r5 j)) (by omega) (by omega)
      refine ⟨fun _ => ⟨hv, hv, hv, hv, hv, hv, hv, hv, hv, hv, g1⟩, b1, b2, b3, b4, b5, g2, fun i => ⟨fun h3 h4 => ?_, fun h3 => ?_⟩⟩
      · by_cases q : i = j
        · obtain ⟨z1, z2, z3, z4, z5⟩ := (g3 i).2 (by omega)
          rw [upd_if, if_pos q] at z1 z2 z3 z4 z5
          rw [q] at z1 z2 z3 z4 z5 ⊢
          exact ⟨z1, z2, z3, z4, z5⟩
        · exact (g3 i).1 (by omega) h4
      · obtain ⟨z1, z2, z3, z4, z5⟩ := (g3 i).2 (by omega)
        rw [upd_if, if_neg (by omega)] at z1 z2 z3 z4 z5
        exact ⟨z1, z2, z3, z4, z5⟩
theorem mk166_loop {rh : Nat → Int32} : ∀ f j (ho : Nat → Int32), j ≤ 6 → 6 < j + f → ok_X12_make_L166 rh f ho (nI j) ∧ ∀ i, F_X12_make_L166 rh f ho (nI j) i = if j ≤ i ∧ i < 6 then (if rh i = -9 then 0 else rh i) else ho i := by
  intro f
  induction f with
  | zero => intro j ho h1 h2; omega
  | succ f ih =>
    intro j ho h1 h2
    rw [ok_X12_make_L166_s, F_X12_make_L166_s]
    by_cases e : j = 6
    · subst e
      rw [if_pos (show (6 : Int32) ≤ nI 6 from Int32.le_refl _)]
      refine ⟨fun q => absurd (Int32.le_refl _) q, fun i => ?_⟩
      rw [if_neg (by omega)]
    · have hj : j < 6 := by omega
      have hv : vp_in (nI j) 6 := vp_in_nI hj (by decide)
      rw [if_neg (le_lit (K := 6) 6 rfl hj (by decide)), nI_clamp (by omega), nI_1]
      obtain ⟨g1, g2⟩ := ih (j + 1) (upd ho j (if rh j = -9 then 0 else rh j)) (by omega) (by omega)
      refine ⟨fun _ => ⟨hv, fun _ => hv, hv, g1⟩, fun i => ?_⟩
      rw [g2 i, upd_if]
      by_cases q : i = j
      · rw [if_neg (show ¬ (j + 1 ≤ i ∧ i < 6) by omega), if_pos q, if_pos (show j ≤ i ∧ i < 6 by omega), q]
      · by_cases q2 : j + 1 ≤ i ∧ i < 6
        · rw [if_pos q2, if_pos (show j ≤ i ∧ i < 6 by omega)]
        · rw [if_neg q2, if_neg q, if_neg (show ¬ (j ≤ i ∧ i < 6) by omega)]
theorem vnb_bI (b : Bool) : vp_nar .boolean (bI b) = bI b := by cases b <;> rfl
set_option maxHeartbeats 4000000 in
set_option maxRecDepth 10000 in
theorem op_make : Op_make Rl := by
  intro X Y a b hR
  obtain ⟨c, tx, L, A, P1, P2, ⟨T, l1, l2⟩, U, V, W, Q⟩ := hR
  show oknX_make a X ∧ oknY_make b Y ∧ (nX_make a X).1 = (nY_make b Y).1 ∧ Rl (nX_make a X).2.2 (nY_make b Y).2
  unfold oknX_make oknY_make nX_make nY_make ok_X11_make F_X11_make ok_X12_make F_X12_make
  obtain ⟨p1, p2⟩ := club_X T (X.1 12) (X.1 13) (X.1 14) (X.2.1 25) (X.2.1 13) (X.2.1 14) (X.2.1 15) (X.2.1 16) (X.2.1 17) (X.2.1 18) (X.2.1 19) (X.2.1 20) (X.2.1 21) (X.2.1 22) (X.2.1 23) (X.2.1 24)
  obtain ⟨q1, q2⟩ := club_Y T (Y.1 6) (Y.1 7) (Y.1 8) (Y.2.1 10) (Y.2.1 11) (Y.2.1 12) (Y.2.1 13) (Y.2.1 14) (Y.2.1 15) (Y.2.1 16) (Y.2.1 17) (Y.2.1 18) (Y.2.1 19)
  rw [l1, l2]
  generalize F_X2_faultIn 64 (X.1 12) (X.1 13) (X.1 14) (X.2.1 25) (X.2.1 0) (X.2.1 13) (X.2.1 14) (X.2.1 15) (X.2.1 16) (X.2.1 17) (X.2.1 18) (X.2.1 19) (X.2.1 20) (X.2.1 21) (X.2.1 22) (X.2.1 23) (X.2.1 24) (nI L) = FX at p2 ⊢
  generalize F_X12_readClub (nI L) (Y.1 6) (Y.1 7) (Y.1 8) (Y.2.1 0) (Y.2.1 10) (Y.2.1 11) (Y.2.1 12) (Y.2.1 13) (Y.2.1 14) (Y.2.1 15) (Y.2.1 16) (Y.2.1 17) (Y.2.1 18) (Y.2.1 19) = FY at q2 ⊢
  obtain ⟨x0, x1, x2, x3, x4, x5, x6, x7, x8, x9, x10, x11, x12, x13, x14, x15, x16, x17, x18, x19, x20, x21, x22, x23, x24⟩ := FX
  obtain ⟨y0, y1, y2, y3, y4, y5, y6, y7, y8, y9, y10, y11, y12, y13, y14⟩ := FY
  unfold FV at p2
  unfold FW at q2
  dsimp only at p2 q2 ⊢
  unfold F_X11_make_b19 ok_X11_make_b19 F_X12_make_b9 ok_X12_make_b9
  have hL := T.1
  cases ho : (cr tx L L (0, 0, 0, 0, c0)).1 with
  | some pos =>
    have hp := cr_pos L _ pos ho
    have x9' : ¬ x0 = -9 := by rw [p2.1 pos ho]; exact nI_ne9 (by omega)
    have y9' : ¬ y0 = -9 := by rw [q2.1 pos ho]; exact nI_ne9 (by omega)
    rw [if_neg x9', if_neg x9', if_neg y9']
    exact ⟨⟨p1, fun y => absurd y x9'⟩, ⟨q1, fun y => absurd y y9'⟩, rfl, c, tx, L, A, P1, P2, ⟨T, l1, l2⟩, U, V, W, Q⟩
  | none =>
    obtain ⟨x9', R, F, G⟩ := p2.2 ho
    obtain ⟨y9', PWc, n1, C1, C2, C3, C4, C5, C6⟩ := q2.2 ho
    generalize (cr tx L L (0, 0, 0, 0, c0)).2 = c' at R F G PWc n1 C1 C2 C3 C4 C5 C6
    obtain ⟨k1, k2⟩ := mk47_loop FU 0 (X.2.1 30) (by decide) (by have := FU_ge; omega)
    obtain ⟨a1, wh', fr', to', a2, a3⟩ := mk43_loop (rw1 := y5) (rf1 := y6) (rt1 := y7) FU 0 (Y.2.1 1) (Y.2.1 2) (Y.2.1 3) (by decide) (by have := FU_ge; omega)
    obtain ⟨b1, th', mi', ri', op', sh', b2, b3⟩ := mk93_loop (r1 := y8) (r2 := y9) (r3 := y10) (r4 := y12) (r5 := y13) FU 0 (Y.2.1 4) (Y.2.1 5) (Y.2.1 6) (Y.2.1 7) (Y.2.1 8) (by decide) (by have := FU_ge; omega)
    obtain ⟨d1, d2⟩ := mk166_loop (rh := y14) FU 0 (Y.2.1 9) (by decide) (by have := FU_ge; omega)
    obtain ⟨e1, live', kept', row', e2, e3, e4, e5, e6⟩ := bg_Y (Y.2.1 22) (Y.2.1 24) (Y.2.1 25)
    rw [nI_0] at k1 k2 a1 a2 b1 b2 d1 d2
    rw [if_pos x9', if_pos x9', if_pos y9', a2]
    dsimp only
    unfold F_X11_make_b65 ok_X11_make_b65 F_X12_make_b91 ok_X12_make_b91
    rw [b2]
    dsimp only
    unfold F_X11_make_b74 F_X12_make_b164 ok_X12_make_b164
    rw [st10]
    dsimp only
    unfold F_X11_make_b83 F_X12_make_b205 ok_X12_make_b205
    rw [e2]
    dsimp only
    unfold F_X12_make_b209
    have kK0 : kK c' = 0 := PWc.2.2.2.2.2.2.1
    have S' : RY c' y4 0 wh' fr' to' th' mi' ri' op' sh' (F_X12_make_L166 y14 FU (Y.2.1 9) 0) := by
      refine ⟨R.1, C3, by rw [kK0]; rfl, fun s hs => ?_, fun p hp => ?_, fun i hi => ?_⟩
      · have s8 := R.1.s8
        obtain ⟨z1, z2, z3⟩ := (a3 s).1 (Nat.zero_le _) (by omega)
        obtain ⟨w1, w2, w3⟩ := C4 s hs
        exact ⟨z1.trans w1, z2.trans w2, z3.trans w3⟩
      · obtain ⟨z1, z2, z3, z4, z5⟩ := (b3 p).1 (Nat.zero_le _) hp
        obtain ⟨w1, w2, w3, w4, w5, w6⟩ := C5 p hp
        refine ⟨?_, fun _ => ⟨z2.trans w2, z3.trans w3, z4.trans w5, z5.trans w6⟩⟩
        rw [z1, w1, vnb_bI]
      · have n6 := R.1.n6
        have w1 := C6 i (by omega)
        rw [d2 i, if_pos (show 0 ≤ i ∧ i < 6 by omega), w1]
        cases t4 : t14 c' i with
        | true =>
          have h9 := R.1.hh (i := i) (by omega)
          rw [if_pos rfl, if_neg (nI_ne9 (by omega))]
        | false =>
          have := PWc.2.2.2.2.2.2.2.2.2.2 i t4
          rw [if_neg nft, if_pos rfl, this]; rfl
    have Q' : ∀ h, h < 10 → F_J7_fill_53178 10 (X.2.1 31) 99 h = row' h := fun h hh => by
      rw [fill_eq 10 (by decide), e6 h hh]
      exact if_pos hh
    have W' : WS c' (F_X11_make_L47 FU (X.2.1 30) 0) (X.1 33) (X.1 34) (X.1 35) (X.1 36) (X.1 37) (X.1 38) (X.1 39) (X.1 41) (X.1 42) (X.1 43) (X.1 44) (X.1 45) (X.1 46) (X.1 47) (X.1 48) (X.1 50) 0 (Y.2.1 23) kept' := by
      refine ⟨⟨false, ?_, e4, fun q => by cases q⟩, ⟨false, ?_, e5, fun q => by cases q⟩, Or.inl rfl⟩
      · rw [k2 0, if_pos (by decide)]; rfl
      · rw [k2 1, if_pos (by decide)]; rfl
    exact ⟨⟨p1, fun _ => ⟨k1, fill_ok 10 (by decide) _ _⟩⟩, ⟨q1, fun _ => ⟨a1, b1, d1, e1⟩⟩, R.2.1.trans C1.symm, c', tx, L, A, ⟨R, F, G⟩, ⟨S', C1, C2⟩, ⟨T, l1, l2⟩, U, LV_new n1 e3, W', Q'⟩

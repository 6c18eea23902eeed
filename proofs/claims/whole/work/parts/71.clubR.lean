/-! a club as a text: the class -/
abbrev D19 : Type := Int32 × Int32 × Int32 × Int32 × Int32 × Int32 × (Nat → Int32) × Int32 × Int32 × Int32 × Int32 × (Nat → Int32) × (Nat → Int32) × (Nat → Int32) × (Nat → Int32) × (Nat → Int32) × (Nat → Int32) × (Nat → Int32) × (Nat → Int32)
abbrev D25 : Type := Int32 × Int32 × Int32 × Int32 × Int32 × Int32 × Int32 × (Nat → Int32) × Int32 × Int32 × Int32 × Int32 × Int32 × (Nat → Int32) × (Nat → Int32) × (Nat → Int32) × (Nat → Int32) × (Nat → Int32) × (Nat → Int32) × (Nat → Int32) × (Nat → Int32) × (Nat → Int32) × (Nat → Int32) × (Nat → Int32) × (Nat → Int32)
def NQ (s : Cs) (q : D19) : Prop := q.1 = nI s.1 ∧ (¬ s.1 = 0 → q.2.1 = nI s.2.1 ∧ (1 ≤ s.2.1 → q.2.2.1 = nI s.2.2.1) ∧ (2 ≤ s.2.1 → q.2.2.2.1 = nI s.2.2.2.1)) ∧ CQ s.2.2.2.2 q.2.2.2.2
def TQ (s : Cs) (q : Int32 × D19) : Prop := q.1 = 1 ∧ NQ s q.2
theorem sb_d : ∀ b, b < 256 → decide (sb b - 48 < 0 ∨ (9 : Int32) < sb b - 48) = !dig b := by decide +kernel
theorem okL_lt {c : Cl} {b : Nat} (h : okL c b = true) : b < 128 := by
  unfold okL at h
  by_cases h0 : kN c = 0
  · rw [if_pos h0, beq_iff_eq] at h; omega
  · rw [if_neg h0] at h
    by_cases q1 : b = 70
    · omega
    · rw [if_neg q1] at h
      by_cases q2 : b = 72
      · omega
      · rw [if_neg q2] at h
        by_cases q3 : b = 79
        · omega
        · rw [if_neg q3] at h
          by_cases q4 : b = 80
          · omega
          · rw [if_neg q4] at h
            by_cases q5 : b = 82
            · omega
            · rw [if_neg q5] at h; cases h
section CX4
variable {c : Cl} {pe se pl fo ot ht : Int32} {bu pr fi la mi ri oF oL hm : Nat → Int32}
theorem nf_X {l g o t : Nat} (hI : CI (l, g, o, t, c)) (hl : ¬ l = 0) (R : CX c pe se pl fo ot ht bu pr fi la mi ri oF oL hm) {oI' tI : Int32} (ho : 1 ≤ g → oI' = nI o) (ht2 : 2 ≤ g → tI = nI t) {f : Nat} (hf : f ≤ 9) (hr : rgt l g o t c f = true) :
    ok_X2_noteFigure (nI l) (nI g) oI' tI pe se pl pr fi la (nI f) ∧ NQ (if g + 1 = nFg l then (0, g + 1, o, t, enp l o t c f) else if g = 0 then (l, 1, f, t, c) else (l, g + 1, o, f, c)) (F_X2_noteFigure (nI l) (nI g) oI' tI ot ht bu pe se pl fo pr fi la mi ri oF oL hm (nI f)) := by
  have hI' := hI
  obtain ⟨-, hI'⟩ := hI'
  rcases hI' with hI' | hI'
  · exact absurd hI' hl
  obtain ⟨i1, i2, -⟩ := hI'
  have i2 : l = 70 ∨ l = 72 ∨ l = 78 ∨ l = 79 ∨ l = 80 ∨ l = 82 := i2
  have i1 : g < nFg l := i1
  have n3 : nFg l ≤ 3 := by
    unfold nFg
    split
    · decide
    · split
      · decide
      · split <;> decide
  unfold ok_X2_noteFigure F_X2_noteFigure
  rw [fig_X (by omega), nI_1]
  have e1 : nI (g + 1) = nI (nFg l) ↔ g + 1 = nFg l := nI_eq (by omega) (by omega)
  by_cases hg : g + 1 = nFg l
  · obtain ⟨p1, p2⟩ := ep_X hI hl R ho ht2 hf hg hr
    rw [if_pos (e1.mpr hg), if_pos hg]
    refine ⟨fun _ => p1, ?_⟩
    exact ⟨rfl, fun q => absurd rfl q, p2⟩
  · have hn : ¬ nI (g + 1) = nI (nFg l) := fun z => hg (e1.mp z)
    rw [if_neg hn, if_neg hg]
    refine ⟨fun q => absurd q hn, ?_⟩
    have g0 : nI g = (0 : Int32) ↔ g = 0 := eq_lit (K := 0) 0 rfl (by omega) (by decide)
    by_cases q0 : g = 0
    · rw [if_pos (g0.mpr q0), if_pos q0, q0]
      exact ⟨rfl, fun _ => ⟨rfl, fun _ => rfl, fun q => absurd q (show ¬ 2 ≤ 1 by decide)⟩, R⟩
    · rw [if_neg (fun z => q0 (g0.mp z)), if_neg q0]
      exact ⟨rfl, fun _ => ⟨rfl, fun _ => ho (by omega), fun _ => rfl⟩, R⟩
theorem tc_X {l g o t : Nat} (hI : CI (l, g, o, t, c)) (R : CX c pe se pl fo ot ht bu pr fi la mi ri oF oL hm) {lI gI oI' tI : Int32} (hlI : lI = nI l) (hgo : ¬ l = 0 → gI = nI g ∧ (1 ≤ g → oI' = nI o) ∧ (2 ≤ g → tI = nI t)) {b : Nat} (hb : b < 256) :
    ok_X2_takes lI gI oI' tI ot ht bu pe se pl fo pr fi la (sb b) ∧ (stc (l, g, o, t, c) b = none → (F_X2_takes lI gI oI' tI ot ht bu pe se pl fo pr fi la mi ri oF oL hm (sb b)).1 = 0) ∧ (∀ s', stc (l, g, o, t, c) b = some s' → TQ s' (F_X2_takes lI gI oI' tI ot ht bu pe se pl fo pr fi la mi ri oF oL hm (sb b))) := by
  have hP : PW c := hI.1
  have hl8 : l < 128 := by
    rcases hI.2 with q | q
    · have q : l = 0 := q
      omega
    · have q : l = 70 ∨ l = 72 ∨ l = 78 ∨ l = 79 ∨ l = 80 ∨ l = 82 := q.2.1
      omega
  subst hlI
  unfold ok_X2_takes F_X2_takes stc
  dsimp only
  by_cases hl : l = 0
  · have z : nI l = (0 : Int32) := by rw [hl]; rfl
    obtain ⟨m1, m2⟩ := mf_X hP R hb
    rw [if_pos z, if_pos hl, m2]
    refine ⟨⟨fun _ => ⟨m1, isB_bI _⟩, fun q => absurd z q⟩, ?_⟩
    cases e : okL c b with
    | false =>
      rw [if_neg nft]
      exact ⟨fun _ => rfl, fun s' q => (by cases q)⟩
    | true =>
      rw [if_pos rfl, if_neg bI_tn]
      refine ⟨fun q => (by cases q), fun s' q => ?_⟩
      rw [← Option.some.inj q]
      exact ⟨rfl, sb_lo b (okL_lt e), fun _ => ⟨rfl, fun q => absurd q (show ¬ 1 ≤ 0 by decide), fun q => absurd q (show ¬ 2 ≤ 0 by decide)⟩, R⟩
  · obtain ⟨h1, h2, h3⟩ := hgo hl
    have z : ¬ nI l = (0 : Int32) := nI_ne0 (by omega) (by omega)
    rw [if_neg z, if_neg hl, h1]
    have hd := sb_d b hb
    cases ed : dig b with
    | false =>
      rw [ed] at hd
      have hd' := of_decide_eq_true hd
      rw [Bool.false_and, if_neg nft]
      refine ⟨⟨fun q => absurd q z, fun _ q1 q2 => hd'.elim (fun x => absurd x q1) (fun x => absurd x q2)⟩, fun _ => ?_, fun s' q => (by cases q)⟩
      by_cases x1 : sb b - 48 < 0
      · rw [if_pos x1]
      · rw [if_neg x1, if_pos (hd'.resolve_left x1)]
    | true =>
      rw [ed] at hd
      have hd' := of_decide_eq_false hd
      have x1 : ¬ sb b - 48 < 0 := fun q => hd' (Or.inl q)
      have x2 : ¬ (9 : Int32) < sb b - 48 := fun q => hd' (Or.inr q)
      rw [if_neg x1, if_neg x2, Bool.true_and]
      obtain ⟨d1, d2⟩ := dig_t.mp ed
      rw [sb_val b hb ed]
      obtain ⟨r1, r2⟩ := ir_X hI hl R h2 h3 (f := b - 48) (by omega)
      rw [r2]
      cases er : rgt l g o t c (b - 48) with
      | false =>
        rw [if_pos bI_f, if_neg nft]
        exact ⟨⟨fun q => absurd q z, fun _ _ _ => ⟨r1, fun q => absurd bI_f q⟩⟩, fun _ => rfl, fun s' q => (by cases q)⟩
      | true =>
        obtain ⟨n1, n2⟩ := nf_X hI hl R h2 h3 (f := b - 48) (by omega) er
        rw [if_neg bI_tn, if_pos rfl]
        refine ⟨⟨fun q => absurd q z, fun _ _ _ => ⟨r1, fun _ => n1⟩⟩, fun q => (by cases q), fun s' q => ?_⟩
        rw [← Option.some.inj q]
        exact ⟨rfl, n2⟩
end CX4
/-- the class's draft, once it is whole -/
def FV (o : Option Nat × Cl) (q : D25) : Prop := (∀ pos, o.1 = some pos → q.1 = nI pos) ∧ (o.1 = none → q.1 = -9 ∧ RX o.2 q.2.2.2.2.2.2.2.2.1 q.2.2.2.2.2.2.2.2.2.1 q.2.2.2.2.2.2.2.2.2.2.1 q.2.2.2.2.2.2.2.2.2.2.2.2.1 q.2.2.2.2.2.2.2.2.2.2.2.2.2.1 q.2.2.2.2.2.2.2.2.2.2.2.2.2.2.2.2.1 q.2.2.2.2.2.2.2.2.2.2.2.2.2.2.2.2.2.1 q.2.2.2.2.2.2.2.2.2.2.2.2.2.2.2.2.2.2.1 q.2.2.2.2.2.2.2.2.2.2.2.2.2.2.2.2.2.2.2.1 q.2.2.2.2.2.2.2.2.2.2.2.2.2.2.2.2.2.2.2.2.1 q.2.2.2.2.2.2.2.2.2.2.2.2.2.2.2.2.2.2.2.2.2.1 q.2.2.2.2.2.2.2.2.2.2.2.2.2.2.2.2.2.2.2.2.2.2.1 q.2.2.2.2.2.2.2.2.2.2.2.2.2.2.2.2.2.2.2.2.2.2.2.1 q.2.2.2.2.2.2.2.2.2.2.2.2.2.2.2.2.2.2.2.2.2.2.2.2 ∧ Fx o.2 q.2.2.2.2.2.2.2.2.2.2.2.2.2.2.1 q.2.2.2.2.2.2.2.2.2.2.2.2.2.2.2.1 ∧ q.2.2.2.2.2.2.2.2.2.2.2.1 = nI (kG o.2))
theorem cf_loop {tx : Nat → Nat} {L : Nat} {xs ys : Nat → Int32} (T : TX tx L xs ys) (be en co nc : Nat → Int32) : ∀ n d, d ≤ L → d < n → ∀ (s : Cs) (q : D19), CI s → NQ s q →
    ok_X2_faultIn_L30 64 xs (nI L) (fun e30_0 e30_1 e30_2 e30_3 e30_4 e30_5 e30_6 e30_7 e30_8 e30_9 e30_10 e30_11 e30_12 e30_13 e30_14 e30_15 e30_16 e30_17 e30_18 => (ok_X2_faultIn_b64 e30_0 e30_7 e30_8 e30_11 e30_12 e30_13 be en co nc)) n q.1 q.2.1 q.2.2.1 q.2.2.2.1 q.2.2.2.2.1 q.2.2.2.2.2.1 q.2.2.2.2.2.2.1 q.2.2.2.2.2.2.2.1 q.2.2.2.2.2.2.2.2.1 q.2.2.2.2.2.2.2.2.2.1 q.2.2.2.2.2.2.2.2.2.2.1 q.2.2.2.2.2.2.2.2.2.2.2.1 q.2.2.2.2.2.2.2.2.2.2.2.2.1 q.2.2.2.2.2.2.2.2.2.2.2.2.2.1 q.2.2.2.2.2.2.2.2.2.2.2.2.2.2.1 q.2.2.2.2.2.2.2.2.2.2.2.2.2.2.2.1 q.2.2.2.2.2.2.2.2.2.2.2.2.2.2.2.2.1 q.2.2.2.2.2.2.2.2.2.2.2.2.2.2.2.2.2.1 q.2.2.2.2.2.2.2.2.2.2.2.2.2.2.2.2.2.2 (nI (L - d)) ∧ FV (cr tx L d s) (F_X2_faultIn_L30 64 xs (nI L) (fun e30_0 e30_1 e30_2 e30_3 e30_4 e30_5 e30_6 e30_7 e30_8 e30_9 e30_10 e30_11 e30_12 e30_13 e30_14 e30_15 e30_16 e30_17 e30_18 => (F_X2_faultIn_b64 (nI L) e30_0 e30_1 e30_2 e30_3 e30_4 e30_5 e30_6 e30_7 e30_8 e30_9 e30_10 0 e30_11 e30_12 e30_13 e30_14 e30_15 e30_16 e30_17 e30_18 be en co nc)) 0 be en co nc n q.1 q.2.1 q.2.2.1 q.2.2.2.1 q.2.2.2.2.1 q.2.2.2.2.2.1 q.2.2.2.2.2.2.1 q.2.2.2.2.2.2.2.1 q.2.2.2.2.2.2.2.2.1 q.2.2.2.2.2.2.2.2.2.1 q.2.2.2.2.2.2.2.2.2.2.1 q.2.2.2.2.2.2.2.2.2.2.2.1 q.2.2.2.2.2.2.2.2.2.2.2.2.1 q.2.2.2.2.2.2.2.2.2.2.2.2.2.1 q.2.2.2.2.2.2.2.2.2.2.2.2.2.2.1 q.2.2.2.2.2.2.2.2.2.2.2.2.2.2.2.1 q.2.2.2.2.2.2.2.2.2.2.2.2.2.2.2.2.1 q.2.2.2.2.2.2.2.2.2.2.2.2.2.2.2.2.2.1 q.2.2.2.2.2.2.2.2.2.2.2.2.2.2.2.2.2.2 (nI (L - d))) := by
  obtain ⟨hL, hT⟩ := T
  intro n
  induction n with
  | zero => intro d h1 h2; omega
  | succ n ih =>
    intro d h1 h2 s q hI hN
    rw [ok_X2_faultIn_L30_s, F_X2_faultIn_L30_s]
    obtain ⟨l, g, o, t, c⟩ := s
    obtain ⟨m1, m2, m3⟩ := hN
    have m1 : q.1 = nI l := m1
    have hP : PW c := hI.1
    have hl8 : l < 128 := by
      rcases hI.2 with q | q
      · have q : l = 0 := q
        omega
      · have q : l = 70 ∨ l = 72 ∨ l = 78 ∨ l = 79 ∨ l = 80 ∨ l = 82 := q.2.1
        omega
    cases d with
    | zero =>
      have hle : nI L ≤ nI (L - 0) := Int32.le_refl _
      rw [if_pos hle]
      unfold ok_X2_faultIn_b64 F_X2_faultIn_b64 cr FV
      dsimp only
      rw [m1]
      obtain ⟨r1, r2, r3, r4, r5, r6, r7, r8, r9, r10, r11⟩ := m3
      dsimp only at r1 r2 r3 r4 r5 r6 r7 r8 r9 r10 r11
      by_cases hl : l = 0
      · have z : nI l = (0 : Int32) := by rw [hl]; rfl
        rw [if_pos z, r1]
        by_cases h0 : kN c = 0
        · have z0 : nI (kN c) = (0 : Int32) := by rw [h0]; rfl
          rw [if_pos z0, if_neg (fun q => q.2 h0)]
          exact ⟨⟨fun _ _ q => absurd z0 q, fun q => absurd hle q⟩, fun pos q => by rw [Option.some.inj q], fun q => (by cases q)⟩
        · have h6 := hP.1
          have z0 : ¬ nI (kN c) = (0 : Int32) := nI_ne0 (by omega) (by omega)
          rw [if_neg z0, if_pos ⟨hl, h0⟩]
          have w := hP.wf (by omega)
          have hfx : Fx c q.2.2.2.2.2.2.2.2.2.2.2.2.1 q.2.2.2.2.2.2.2.2.2.2.2.2.2.1 := fun s hs => (r8 s hs).2
          obtain ⟨a1, be', en', co', nc', a2, a3⟩ := arr_X w (fun s hs => (r8 s hs).1) hfx be en co nc
          rw [r2, a2]
          refine ⟨⟨fun _ _ _ => a1, fun q => absurd hle q⟩, fun pos q => (by cases q), fun _ => ⟨rfl, ⟨w, rfl, rfl, r3, ?_, fun s hs => (r8 s hs).1, r9, r10, fun i hi => r11 i (by omega), a3⟩, hfx, r4⟩⟩
          rw [hP.2.2.2.2.2.2.1]; rfl
      · have z : ¬ nI l = (0 : Int32) := nI_ne0 (by omega) (by omega)
        rw [if_neg z, if_neg (fun q => hl q.1)]
        exact ⟨⟨fun _ q => absurd q z, fun q => absurd hle q⟩, fun pos q => by rw [Option.some.inj q], fun q => (by cases q)⟩
    | succ d =>
      obtain ⟨b1, b2, -⟩ := hT (L - (d + 1)) (by omega)
      have hn1 : ¬ nI L ≤ nI (L - (d + 1)) := nI_ge (by omega) (by omega)
      have hn2 : ¬ Int32.ofNat 64 ≤ nI (L - (d + 1)) := nI_ge (b := 64) (by omega) (by decide)
      obtain ⟨t1, t2, t3⟩ := tc_X hI m3 m1 m2 b1
      rw [if_neg hn1, if_neg hn2, nI_clamp (by omega), b2]
      have hv : vp_in (nI (L - (d + 1))) 64 := vp_in_nI (by omega) (by decide)
      generalize hX : F_X2_takes q.1 q.2.1 q.2.2.1 q.2.2.2.1 q.2.2.2.2.1 q.2.2.2.2.2.1 q.2.2.2.2.2.2.1 q.2.2.2.2.2.2.2.1 q.2.2.2.2.2.2.2.2.1 q.2.2.2.2.2.2.2.2.2.1 q.2.2.2.2.2.2.2.2.2.2.1 q.2.2.2.2.2.2.2.2.2.2.2.1 q.2.2.2.2.2.2.2.2.2.2.2.2.1 q.2.2.2.2.2.2.2.2.2.2.2.2.2.1 q.2.2.2.2.2.2.2.2.2.2.2.2.2.2.1 q.2.2.2.2.2.2.2.2.2.2.2.2.2.2.2.1 q.2.2.2.2.2.2.2.2.2.2.2.2.2.2.2.2.1 q.2.2.2.2.2.2.2.2.2.2.2.2.2.2.2.2.2.1 q.2.2.2.2.2.2.2.2.2.2.2.2.2.2.2.2.2.2 (sb (tx (L - (d + 1)))) = X at t2 t3
      unfold ok_X2_faultIn_30_b52 F_X2_faultIn_30_b52
      try rw [hX]
      dsimp only
      cases hs : stc (l, g, o, t, c) (tx (L - (d + 1))) with
      | none =>
        have t2' := t2 hs
        have er : cr tx L (d + 1) (l, g, o, t, c) = (some (L - (d + 1)), c) := by rw [cr, hs]
        rw [if_pos t2', er]
        exact ⟨⟨fun q => absurd q hn1, fun _ => ⟨fun q => absurd q hn2, fun _ => ⟨hv, t1, fun q => absurd t2' q⟩⟩⟩, fun pos q => by rw [Option.some.inj q], fun q => (by cases q)⟩
      | some s' =>
        obtain ⟨t4, t5⟩ := t3 s' hs
        have er : cr tx L (d + 1) (l, g, o, t, c) = cr tx L d s' := by rw [cr, hs]
        have t4' : ¬ X.1 = 0 := by rw [t4]; exact i10
        rw [if_neg t4', er, nI_1, show L - (d + 1) + 1 = L - d by omega]
        obtain ⟨g1, g2⟩ := ih d (by omega) (by omega) s' X.2 (CI_stc hI hs) t5
        exact ⟨⟨fun q => absurd q hn1, fun _ => ⟨fun q => absurd q hn2, fun _ => ⟨hv, t1, fun _ => g1⟩⟩⟩, g2⟩
theorem CI_0 : CI (0, 0, 0, 0, c0) := ⟨PW_c0, Or.inl rfl⟩
/-- a club, read by the class -/
theorem club_X {tx : Nat → Nat} {L : Nat} {xs ys : Nat → Int32} (T : TX tx L xs ys) (fg on tw : Int32) (bu pr fi la mi ri oF oL hm be en co nc : Nat → Int32) :
    ok_X2_faultIn 64 fg on tw bu xs pr fi la mi ri oF oL hm be en co nc (nI L) ∧ FV (cr tx L L (0, 0, 0, 0, c0)) (F_X2_faultIn 64 fg on tw bu xs pr fi la mi ri oF oL hm be en co nc (nI L)) := by
  obtain ⟨g1, g2⟩ := cf_loop T be en co nc FU L (Nat.le_refl _) (by have := FU_ge; have := T.1; omega) (0, 0, 0, 0, c0) (0, fg, on, tw, 0, 0, (fun j => if j < 6 then 0 else bu j), 0, 0, 0, 0, pr, fi, la, mi, ri, (fun j => if j < 4 then 0 else oF j), (fun j => if j < 4 then -9 else oL j), (fun j => if j < 6 then 0 else hm j)) CI_0
    ⟨rfl, fun q => absurd rfl q, rfl, rfl, fun i => by rw [show (_ : Int32) = 0 from rfl, b_0]; simp [c0, kP], rfl, fun i => by rw [show (_ : Int32) = 0 from rfl, b_0]; simp [c0, t13], fun i => b_0 i, fun i h hi => by
      show bt (if i < 6 then 0 else bu i) h = _
      rw [if_pos hi, b_0]; rfl, fun s hs => absurd hs (Nat.not_lt_zero _), fun p _ q => (by cases q), fun p hp _ => if_pos hp, fun i hi => if_pos hi⟩
  rw [Nat.sub_self] at g1 g2
  unfold ok_X2_faultIn F_X2_faultIn ok_X1_clear F_X1_clear ok_X1_clear_b33 F_X1_clear_b33 ok_X1_clear_b42 F_X1_clear_b42 F_X1_clear_b50 ok_X2_faultIn_b4 F_X2_faultIn_b4 ok_X2_faultIn_b27 F_X2_faultIn_b27
  rw [fill_eq 4 (by decide), fill_eq 4 (by decide), fill_eq 6 (by decide), fill_eq 6 (by decide)]
  exact ⟨⟨⟨fill_ok 4 (by decide) _ _, fill_ok 4 (by decide) _ _, fill_ok 6 (by decide) _ _⟩, fill_ok 6 (by decide) _ _, g1⟩, g2⟩

/-! a club as a text: the class's steps -/
theorem sb_lo : ∀ b, b < 128 → sb b = nI b := by decide +kernel
theorem sb_hi : ∀ b, b < 256 → 128 ≤ b → sb b < 0 := by decide +kernel
theorem sb_k {b k : Nat} (hb : b < 256) (hk : k < 128) (x : Int32) (hx : x = nI k) : sb b = x ↔ b = k := by
  subst hx
  by_cases h : b < 128
  · rw [sb_lo b h, nI_eq (by omega) (by omega)]
  · constructor
    · intro q
      have := sb_hi b hb (by omega)
      rw [q] at this
      exact absurd this (nI_pos (by omega))
    · intro q; omega
def CX (c : Cl) (pe se pl fo ot ht : Int32) (bu pr fi la mi ri oF oL hm : Nat → Int32) : Prop := pe = nI (kN c) ∧ se = nI (kS c) ∧ (∀ i, bt pl i = (decide (i < 4) && kP c i)) ∧ fo = nI (kG c) ∧ (∀ i, bt ot i = (decide (i < 4) && t13 c i)) ∧ (∀ i, bt ht i = t14 c i) ∧ (∀ i h, i < 6 → bt (bu i) h = bsy c i h) ∧ (∀ s, s < kS c → pr s = nI (kW c s) ∧ fi s = nI (kF c s) ∧ la s = nI (kT c s)) ∧ (∀ p, p < 4 → kP c p = true → mi p = nI (kM c p) ∧ ri p = nI (kR c p) ∧ oF p = nI (kO c p) ∧ oL p = nI (kU c p)) ∧ (∀ p, p < 4 → kP c p = false → oL p = -9) ∧ (∀ i, i < 6 → hm i = nI (kH c i))
theorem isPlace_b {pl : Int32} {P : Nat → Bool} (h : ∀ i, bt pl i = (decide (i < 4) && P i)) {k : Nat} (hk : k < 2 ^ 31) : F_X1_isPlace pl (nI k) = bI (decide (k < 4) && P k) := by
  unfold F_X1_isPlace
  rw [if_neg (nI_pos hk)]
  by_cases h4 : k < 4
  · rw [if_neg (le_lit (K := 4) 4 rfl h4 (by decide)), tst_if (by omega), h]
    rfl
  · rw [if_pos (show (4 : Int32) ≤ nI k from nI_le (a := 4) (by omega) hk)]
    simp [h4, bI]
theorem isPerson_b {n i : Nat} (hn : n ≤ 6) (hi : i < 2 ^ 31) : F_X1_isPerson (nI n) (nI i) = bI (decide (i < n)) := by
  unfold F_X1_isPerson
  rw [if_neg (nI_pos hi)]
  by_cases h : i < n
  · rw [if_neg (nI_ge h (by omega)), if_neg (le_lit (K := 6) 6 rfl (by omega) (by decide)), decide_eq_true h]; rfl
  · rw [if_pos (nI_le (by omega) hi), decide_eq_false h]; rfl
theorem allm : ∀ N, N ≤ 6 → ∀ i, i < 32 → bt (((1 : Int32) <<< (nI N &&& 31)) - 1) i = decide (i < N) := by decide +kernel
theorem hbt : ∀ s, s < 10 → ∀ e, e < 10 → s ≤ e → ∀ i, i < 32 → bt (F_X2_hoursBetween (nI s) (nI e)) i = (decide (s ≤ i) && decide (i ≤ e)) := by decide +kernel
section CX2
variable {c : Cl} {pe se pl fo ot ht : Int32} {bu pr fi la mi ri oF oL hm : Nat → Int32}
theorem hasT_X (hP : PW c) (R : CX c pe se pl fo ot ht bu pr fi la mi ri oF oL hm) {i : Nat} (hi : i < 2 ^ 31) : ok_X2_hasTime pe (nI i) ∧ F_X2_hasTime bu pe (nI i) = bI (decide (i < kN c) && hasT c i) := by
  have h6 := hP.1
  unfold ok_X2_hasTime F_X2_hasTime
  rw [R.1, isPerson_b h6 hi]
  by_cases h : i < kN c
  · rw [decide_eq_true h, if_neg bI_tn, nI_clamp hi, Bool.true_and]
    refine ⟨fun _ => vp_in_nI (by omega) (by decide), ?_⟩
    have hbu := R.2.2.2.2.2.2.1
    by_cases q : bu i = 1023
    · rw [if_pos q]
      have : hasT c i = false := by
        cases e : hasT c i with
        | false => rfl
        | true =>
          obtain ⟨k, k1, k2⟩ := any_t.mp e
          have := hbu i k (by omega)
          rw [q, b_1023, decide_eq_true k1] at this
          rw [← this] at k2; cases k2
      rw [this]; rfl
    · rw [if_neg q]
      have : hasT c i = true := by
        apply Classical.byContradiction
        intro e
        apply q
        apply bt_ext
        intro k
        rw [hbu i k (by omega), b_1023]
        by_cases k1 : k < 10
        · rw [decide_eq_true k1]
          cases e2 : bsy c i k with
          | true => rfl
          | false => exact absurd (any_t.mpr ⟨k, k1, by rw [e2]; rfl⟩) e
        · rw [decide_eq_false k1]
          cases e2 : bsy c i k with
          | false => rfl
          | true => exact absurd (bsy_10 hP e2) k1
      rw [this]; rfl
  · rw [decide_eq_false h, if_pos bI_f]
    exact ⟨fun q => absurd rfl q, rfl⟩
theorem sh_loop (hP : PW c) (R : CX c pe se pl fo ot ht bu pr fi la mi ri oF oL hm) : ∀ n i, i ≤ kN c → kN c < i + n → ok_X2_somebodyHasTime_L2 bu pe n (nI i) ∧ F_X2_somebodyHasTime_L2 bu pe 0 n (nI i) = bI (lo (hasT c) i (kN c - i)).isSome := by
  have h6 := hP.1
  intro n
  induction n with
  | zero => intro i h1 h2; omega
  | succ n ih =>
    intro i h1 h2
    rw [ok_X2_somebodyHasTime_L2_s, F_X2_somebodyHasTime_L2_s]
    have hpe : pe = nI (kN c) := R.1
    by_cases e : i = kN c
    · have hle : pe ≤ nI i := by rw [hpe, e]; exact Int32.le_refl _
      rw [if_pos hle, e, lo_end]
      exact ⟨fun q => absurd (e ▸ hle) q, rfl⟩
    · have hi : i < kN c := by omega
      obtain ⟨t1, t2⟩ := hasT_X hP R (i := i) (by omega)
      rw [decide_eq_true hi, Bool.true_and] at t2
      have hnl : ¬ pe ≤ nI i := by rw [hpe]; exact nI_ge hi (by omega)
      rw [if_neg hnl, t2, nI_1, lo_at hi]
      obtain ⟨g1, g2⟩ := ih (i + 1) (by omega) (by omega)
      refine ⟨fun _ => ⟨t1, fun _ => g1⟩, ?_⟩
      rw [g2]
      cases hasT c i <;> rfl
theorem ord_X {x y : Int32} : (∀ i, bt x i = bt y i) ↔ x = y := ⟨fun h => bt_ext h, fun h i => by rw [h]⟩
theorem mf_X (hP : PW c) (R : CX c pe se pl fo ot ht bu pr fi la mi ri oF oL hm) {b : Nat} (hb : b < 256) : ok_X2_mayFollow bu pe se (sb b) ∧ F_X2_mayFollow ot ht bu pe se pl fo (sb b) = bI (okL c b) := by
  have R' := R
  obtain ⟨r1, r2, r3, r4, r5, r6, -⟩ := R'
  have h6 := hP.1
  have h8 := hP.2.1
  have h9 := hP.2.2.2.2.2.1
  obtain ⟨s1, s2⟩ := sh_loop hP R FU 0 (Nat.zero_le _) (by have := FU_ge; omega)
  rw [nI_0, Nat.sub_zero] at s2
  rw [nI_0] at s1
  have s2' : F_X2_somebodyHasTime bu pe = bI (anyR c) := s2
  have s1' : ok_X2_somebodyHasTime bu pe := s1
  unfold ok_X2_mayFollow F_X2_mayFollow okL
  refine ⟨fun _ _ _ _ _ _ _ => s1', ?_⟩
  have e78 := sb_k hb (k := 78) (by decide) 78 rfl
  have e70 := sb_k hb (k := 70) (by decide) 70 rfl
  have e72 := sb_k hb (k := 72) (by decide) 72 rfl
  have e79 := sb_k hb (k := 79) (by decide) 79 rfl
  have e80 := sb_k hb (k := 80) (by decide) 80 rfl
  have e82 := sb_k hb (k := 82) (by decide) 82 rfl
  by_cases h0 : kN c = 0
  · have hp0 : pe = 0 := by rw [r1, h0]; rfl
    rw [if_pos hp0, if_pos h0]
    by_cases q : b = 78
    · rw [if_pos (e78.mpr q), q]; rfl
    · rw [if_neg (fun z => q (e78.mp z))]
      have : (b == 78) = false := by simp [q]
      rw [this]; rfl
  · have hp0 : ¬ pe = 0 := by rw [r1]; exact nI_ne0 (by omega) (by omega)
    rw [if_neg hp0, if_neg h0]
    by_cases q70 : b = 70
    · rw [if_pos (e70.mpr q70), if_pos q70, r4]
      by_cases q : kG c = 0
      · rw [q]; rfl
      · rw [if_neg (nI_ne0 (by omega) (by omega))]
        have : (kG c == 0) = false := by simp [q]
        rw [this]; rfl
    · rw [if_neg (fun z => q70 (e70.mp z)), if_neg q70]
      by_cases q72 : b = 72
      · rw [if_pos (e72.mpr q72), if_pos q72, r1]
        by_cases q : ht = ((1 : Int32) <<< (nI (kN c) &&& 31)) - 1
        · rw [if_pos q]
          have : anyH c = false := by
            cases e : anyH c with
            | false => rfl
            | true =>
              obtain ⟨k, k1, k2⟩ := any_t.mp e
              have h := r6 k
              rw [q, allm _ h6 k (by omega), decide_eq_true k1] at h
              rw [← h] at k2; cases k2
          rw [this]; rfl
        · rw [if_neg q]
          have : anyH c = true := by
            apply Classical.byContradiction
            intro e
            apply q
            apply b_ext
            intro k hk
            rw [r6, allm _ h6 k hk]
            cases e2 : t14 c k with
            | true => rw [decide_eq_true (hP.2.2.2.2.2.2.2.1 k e2)]
            | false =>
              by_cases k1 : k < kN c
              · exact absurd (any_t.mpr ⟨k, k1, by rw [e2]; rfl⟩) e
              · rw [decide_eq_false k1]
          rw [this]; rfl
      · rw [if_neg (fun z => q72 (e72.mp z)), if_neg q72]
        by_cases q79 : b = 79
        · rw [if_pos (e79.mpr q79), if_pos q79]
          have hb0 : (pl &&& (ot ^^^ (-1))) = 0 ↔ anyO c = false := by
            rw [bt_eq0]
            constructor
            · intro h
              cases e : anyO c with
              | false => rfl
              | true =>
                obtain ⟨k, k1, k2⟩ := any_t.mp e
                have := h k
                rw [bt_andn, r3, r5, decide_eq_true k1, Bool.true_and, Bool.true_and, k2] at this
                cases this
            · intro h k
              rw [bt_andn, r3, r5]
              by_cases k1 : k < 4
              · rw [decide_eq_true k1, Bool.true_and, Bool.true_and]
                cases e : (kP c k && !t13 c k) with
                | false => rfl
                | true =>
                  have := (any_t (P := fun p => kP c p && !t13 c p)).mpr ⟨k, k1, e⟩
                  unfold anyO at h
                  rw [h] at this; cases this
              · rw [decide_eq_false k1]; rfl
          cases e : anyO c with
          | false => rw [if_pos (hb0.mpr e)]; rfl
          | true => rw [if_neg (fun z => by rw [hb0.mp z] at e; cases e)]; rfl
        · rw [if_neg (fun z => q79 (e79.mp z)), if_neg q79]
          by_cases q80 : b = 80
          · rw [if_pos (e80.mpr q80), if_pos q80]
            have hb0 : pl = 15 ↔ anyP c = false := by
              have h15 : ∀ i, i < 32 → bt 15 i = decide (i < 4) := by decide +kernel
              constructor
              · intro h
                cases e : anyP c with
                | false => rfl
                | true =>
                  obtain ⟨k, k1, k2⟩ := any_t.mp e
                  have := r3 k
                  rw [h, h15 k (by omega), decide_eq_true k1, Bool.true_and] at this
                  rw [← this] at k2; cases k2
              · intro h
                apply b_ext
                intro k hk
                rw [r3, h15 k hk]
                by_cases k1 : k < 4
                · rw [decide_eq_true k1, Bool.true_and]
                  cases e : kP c k with
                  | true => rfl
                  | false =>
                    have := (any_t (P := fun p => !kP c p)).mpr ⟨k, k1, by show (!kP c k) = true; rw [e]; rfl⟩
                    unfold anyP at h
                    rw [h] at this; cases this
                · rw [decide_eq_false k1]; rfl
            cases e : anyP c with
            | false => rw [if_pos (hb0.mpr e)]; rfl
            | true => rw [if_neg (fun z => by rw [hb0.mp z] at e; cases e)]; rfl
          · rw [if_neg (fun z => q80 (e80.mp z)), if_neg q80]
            by_cases q82 : b = 82
            · rw [if_pos (e82.mpr q82), if_pos q82, r2, s2']
              by_cases q : kS c < 8
              · rw [if_neg (le_lit (K := 8) 8 rfl q (by decide)), decide_eq_true q, Bool.true_and]
                cases anyR c <;> rfl
              · rw [if_pos (show (8 : Int32) ≤ nI (kS c) from nI_le (a := 8) (by omega) (by omega)), decide_eq_false q]; rfl
            · rw [if_neg (fun z => q82 (e82.mp z)), if_neg q82]; rfl
theorem hz {x : Int32} {B : Nat → Bool} (h : ∀ k, bt x k = B k) {s e : Nat} (hs : s < 10) (he : e < 10) (hse : s ≤ e) : (x &&& F_X2_hoursBetween (nI s) (nI e)) = 0 ↔ ∀ k, s ≤ k → k ≤ e → B k = false := by
  rw [bt_eq0]
  constructor
  · intro q k a b
    have := q k
    rw [b_and, h, hbt s hs e he hse k (by omega), decide_eq_true a, decide_eq_true b, Bool.and_true, Bool.and_true] at this
    exact this
  · intro q k
    by_cases hk : k < 32
    · rw [b_and, h, hbt s hs e he hse k hk]
      by_cases a : s ≤ k
      · by_cases b : k ≤ e
        · rw [q k a b]; rfl
        · rw [decide_eq_false b, Bool.and_false, Bool.and_false]
      · rw [decide_eq_false a, Bool.false_and, Bool.and_false]
    · exact b_big (by omega)
/-- the letters as ints -/
theorem lt_k {l k : Nat} (hl : l < 128) (hk : k < 128) (x : Int32) (hx : x = nI k) : nI l = x ↔ l = k := eq_lit (K := k) x hx (by omega) (by omega)
theorem ir_X {l g o t : Nat} (hI : CI (l, g, o, t, c)) (hl : ¬ l = 0) (R : CX c pe se pl fo ot ht bu pr fi la mi ri oF oL hm) {oI' tI : Int32} (ho : 1 ≤ g → oI' = nI o) (ht2 : 2 ≤ g → tI = nI t) {f : Nat} (hf : f ≤ 9) :
    ok_X2_isRight (nI l) (nI g) oI' tI ot bu pe pl (nI f) ∧ F_X2_isRight (nI l) (nI g) oI' tI ot ht bu pe pl (nI f) = bI (rgt l g o t c f) := by
  obtain ⟨hP, hI⟩ := hI
  have hP : PW c := hP
  rcases hI with hI | hI
  · exact absurd hI hl
  obtain ⟨i1, i2, i3, i4, i5, i6, i7, i8, i9, i10'⟩ := hI
  have i1 : g < nFg l := i1
  have i2 : l = 70 ∨ l = 72 ∨ l = 78 ∨ l = 79 ∨ l = 80 ∨ l = 82 := i2
  have i6 : l = 79 → 1 ≤ g → o < 4 ∧ kP c o = true ∧ t13 c o = false := i6
  have i10' : l = 82 → kS c < 8 ∧ (1 ≤ g → o < kN c) ∧ (2 ≤ g → t ≤ 9) := i10'
  have h6 := hP.1
  have hg3 : g < 3 := by
    unfold nFg at i1
    by_cases q1 : l = 70
    · rw [if_pos q1] at i1; omega
    · rw [if_neg q1] at i1
      by_cases q2 : l = 72
      · rw [if_pos q2] at i1; omega
      · rw [if_neg q2] at i1
        by_cases q3 : l = 78
        · rw [if_pos q3] at i1; omega
        · rw [if_neg q3] at i1; omega
  have e72 := lt_k (l := l) (k := 72) (by omega) (by decide) 72 rfl
  have e78 := lt_k (l := l) (k := 78) (by omega) (by decide) 78 rfl
  have e79 := lt_k (l := l) (k := 79) (by omega) (by decide) 79 rfl
  have e80 := lt_k (l := l) (k := 80) (by omega) (by decide) 80 rfl
  have e82 := lt_k (l := l) (k := 82) (by omega) (by decide) 82 rfl
  have g0 : nI g = (0 : Int32) ↔ g = 0 := eq_lit (K := 0) 0 rfl (by omega) (by decide)
  have g1 : nI g = (1 : Int32) ↔ g = 1 := eq_lit (K := 1) 1 rfl (by omega) (by decide)
  have R' := R
  obtain ⟨r1, r2, r3, r4, r5, r6, r7, -⟩ := R'
  obtain ⟨t1, t2⟩ := hasT_X hP R (i := f) (by omega)
  unfold ok_X2_isRight F_X2_isRight rgt
  by_cases q72 : l = 72
  · have z := e72.mpr q72
    rw [if_pos z, if_pos q72]
    refine ⟨fun q => absurd z q, ?_⟩
    by_cases q0 : g = 0
    · rw [if_pos (g0.mpr q0), if_pos q0, r1, isPerson_b h6 (by omega), tst_if (by omega), r6]
      by_cases q4 : f < kN c
      · rw [decide_eq_true q4, Bool.true_and, if_neg bI_tn]
        cases t14 c f <;> rfl
      · rw [decide_eq_false q4, if_pos bI_f]; rfl
    · rw [if_neg (fun z => q0 (g0.mp z)), if_neg q0]; rfl
  · have z72 : ¬ nI l = 72 := fun z => q72 (e72.mp z)
    rw [if_neg z72, if_neg q72]
    by_cases q78 : l = 78
    · have z := e78.mpr q78
      rw [if_pos z, if_pos q78]
      refine ⟨fun _ q => absurd z q, ?_⟩
      by_cases qa : 1 ≤ f
      · rw [if_neg (show ¬ nI f < (1 : Int32) from nI_nlt (a := f) (b := 1) qa (by omega)), decide_eq_true qa, Bool.true_and]
        by_cases qb : f ≤ 6
        · rw [if_neg (show ¬ (6 : Int32) < nI f from nI_nlt (a := 6) (b := f) qb (by omega)), decide_eq_true qb]; rfl
        · rw [if_pos (show (6 : Int32) < nI f from nI_lt (a := 6) (by omega) (by omega)), decide_eq_false qb]; rfl
      · rw [if_pos (show nI f < (1 : Int32) from nI_lt (b := 1) (by omega) (by omega)), decide_eq_false qa]; rfl
    · have z78 : ¬ nI l = 78 := fun z => q78 (e78.mp z)
      rw [if_neg z78, if_neg q78]
      by_cases q79 : l = 79
      · have z := e79.mpr q79
        rw [if_pos z, if_pos q79]
        have hopen : F_X2_isRightInOpen (nI g) tI ot pl (nI f) = bI (if g = 0 then decide (f < 4) && (kP c f && !t13 c f) else if g = 1 then true else decide (t ≤ f)) := by
          unfold F_X2_isRightInOpen
          by_cases q0 : g = 0
          · rw [if_pos (g0.mpr q0), if_pos q0, isPlace_b r3 (by omega), tst_if (by omega), r5]
            by_cases q4 : f < 4
            · rw [decide_eq_true q4, Bool.true_and, Bool.true_and, Bool.true_and]
              cases kP c f <;> cases t13 c f <;> rfl
            · rw [decide_eq_false q4]; rfl
          · rw [if_neg (fun z => q0 (g0.mp z)), if_neg q0]
            by_cases q1 : g = 1
            · rw [if_pos (g1.mpr q1), if_pos q1]; rfl
            · rw [if_neg (fun z => q1 (g1.mp z)), if_neg q1, ht2 (by omega)]
              have t9 : t ≤ 9 := i7 q79 (show 2 ≤ g by omega)
              by_cases q : t ≤ f
              · rw [if_neg (nI_nlt q (by omega)), decide_eq_true q]; rfl
              · rw [if_pos (nI_lt (by omega) (by omega)), decide_eq_false q]; rfl
        exact ⟨fun _ _ => ⟨fun _ => by rw [hopen]; exact isB_bI _, fun q => absurd z q⟩, hopen⟩
      · have z79 : ¬ nI l = 79 := fun z => q79 (e79.mp z)
        rw [if_neg z79, if_neg q79]
        by_cases q80 : l = 80
        · have z := e80.mpr q80
          rw [if_pos z, if_pos q80]
          refine ⟨fun _ _ => ⟨fun q => absurd q z79, fun _ q => absurd z q⟩, ?_⟩
          by_cases q0 : g = 0
          · rw [if_pos (g0.mpr q0), if_pos q0, isPlace_b r3 (by omega)]
            by_cases q4 : f < 4
            · rw [if_neg (le_lit (K := 4) 4 rfl q4 (by decide)), decide_eq_true q4, Bool.true_and, Bool.true_and]
              cases kP c f <;> rfl
            · rw [if_pos (show (4 : Int32) ≤ nI f from nI_le (a := 4) (by omega) (by omega)), decide_eq_false q4]; rfl
          · rw [if_neg (fun z => q0 (g0.mp z)), if_neg q0]; rfl
        · have z80 : ¬ nI l = 80 := fun z => q80 (e80.mp z)
          rw [if_neg z80, if_neg q80]
          by_cases q82 : l = 82
          · have z := e82.mpr q82
            rw [if_pos z, if_pos q82]
            obtain ⟨k1, k2, k3⟩ := i10' q82
            have hs : ok_X2_isRightInSession (nI g) oI' tI bu pe (nI f) ∧ F_X2_isRightInSession (nI g) oI' tI bu pe (nI f) = bI (if g = 0 then decide (f < kN c) && hasT c f else if g = 1 then !bsy c o f else decide (t ≤ f) && (lo (bsy c o) t (f + 1 - t)).isNone) := by
              unfold ok_X2_isRightInSession F_X2_isRightInSession
              by_cases q0 : g = 0
              · rw [if_pos (g0.mpr q0), if_pos q0, t2]
                exact ⟨⟨fun _ => ⟨t1, isB_bI _⟩, fun q => absurd (g0.mpr q0) q⟩, rfl⟩
              · have w0 : ¬ nI g = 0 := fun z => q0 (g0.mp z)
                have ho' : o < kN c := k2 (by omega)
                rw [if_neg w0, if_neg q0, ho (by omega), r1, isPerson_b h6 (by omega), decide_eq_true ho', if_neg bI_tn, nI_clamp (by omega)]
                have hv : vp_in (nI o) 6 := vp_in_nI (by omega) (by decide)
                refine ⟨⟨fun q => absurd q w0, fun _ _ _ => hv⟩, ?_⟩
                by_cases q1 : g = 1
                · rw [if_pos (g1.mpr q1), if_pos q1, if_neg (show ¬ nI f < nI f from nI_nlt (Nat.le_refl _) (by omega))]
                  have := hz (r7 o · (by omega)) (s := f) (e := f) (by omega) (by omega) (Nat.le_refl _)
                  cases e : bsy c o f with
                  | true => rw [if_neg (fun z => by rw [this.mp z f (Nat.le_refl _) (Nat.le_refl _)] at e; cases e)]; rfl
                  | false => rw [if_pos (this.mpr (fun k a b => by rw [show k = f by omega]; exact e))]; rfl
                · have t9 := k3 (by omega)
                  rw [if_neg (fun z => q1 (g1.mp z)), if_neg q1, ht2 (by omega)]
                  by_cases q : t ≤ f
                  · rw [if_neg (nI_nlt q (by omega)), decide_eq_true q, Bool.true_and]
                    have := hz (r7 o · (by omega)) (s := t) (e := f) (by omega) (by omega) q
                    cases e : (lo (bsy c o) t (f + 1 - t)).isNone with
                    | true => rw [if_pos (this.mpr (fun k a b => non_t.mp e k a (by omega)))]; rfl
                    | false => rw [if_neg (fun z => by rw [non_t.mpr (fun i a b => this.mp z i a (by omega))] at e; cases e)]; rfl
                  · rw [if_pos (nI_lt (by omega) (by omega)), decide_eq_false q]; rfl
            exact ⟨fun _ _ => ⟨fun q => absurd q z79, fun _ _ _ => ⟨hs.1, by rw [hs.2]; exact isB_bI _⟩⟩, hs.2⟩
          · have z82 : ¬ nI l = 82 := fun z => q82 (e82.mp z)
            rw [if_neg z82, if_neg q82]
            refine ⟨fun _ _ => ⟨fun q => absurd q z79, fun _ _ q => absurd q z82⟩, ?_⟩
            by_cases qa : 1 ≤ f
            · rw [if_neg (show ¬ nI f < (1 : Int32) from nI_nlt (a := f) (b := 1) qa (by omega)), decide_eq_true qa]; rfl
            · rw [if_pos (show nI f < (1 : Int32) from nI_lt (b := 1) (by omega) (by omega)), decide_eq_false qa]; rfl
end CX2

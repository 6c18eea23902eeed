/-! class and reference, side by side -/
def LV (c : Cl) (h k i o w r s : Int32) (lv : Nat → Int32) : Prop := ∃ (n : Nat) (z : Zt), n < 10 ∧ ZI c z ∧ h = nI n ∧ k = nI z.1 ∧ i = z.2.1 ∧ o = z.2.2 ∧ lv 0 = h ∧ lv 1 = k ∧ lv 2 = i ∧ lv 3 = o ∧ lv 4 = w ∧ lv 5 = r ∧ lv 6 = s
def RuA (A : Nat → Nat → Nat) (x0 x1 x2 ya : Nat → Int32) : Prop := ∀ h, h < 10 → x0 h = nI (A 0 h) ∧ x1 h = nI (A 1 h) ∧ x2 h = nI (A 2 h) ∧ ya h = nI (A 0 h) ∧ ya (10 + h) = nI (A 1 h) ∧ ya (20 + h) = nI (A 2 h) ∧ A 0 h ≤ 5 ∧ A 1 h ≤ 5 ∧ A 2 h ≤ 5
def Rl (X Y : Bd) : Prop := ∃ (c : Cl) (tx : Nat → Nat) (L : Nat) (A : Nat → Nat → Nat),
  (RX c (X.1 1) (X.1 2) (X.1 3) (X.1 5) (X.2.1 1) (X.2.1 4) (X.2.1 5) (X.2.1 6) (X.2.1 7) (X.2.1 8) (X.2.1 9) (X.2.1 10) (X.2.1 11) (X.2.1 12) ∧ Fx c (X.2.1 2) (X.2.1 3) ∧ X.1 4 = nI (kG c)) ∧
  (RY c (Y.1 5) (Y.1 10) (Y.2.1 1) (Y.2.1 2) (Y.2.1 3) (Y.2.1 4) (Y.2.1 5) (Y.2.1 6) (Y.2.1 7) (Y.2.1 8) (Y.2.1 9) ∧ Y.1 3 = nI (kN c) ∧ Y.1 4 = nI (kG c)) ∧
  (TX tx L (X.2.1 0) (Y.2.1 0) ∧ X.1 0 = nI L ∧ Y.1 1 = nI L) ∧
  RuA A (X.2.1 26) (X.2.1 27) (X.2.1 28) (Y.2.1 20) ∧
  LV c (X.1 24) (X.1 25) (X.1 26) (X.1 27) (X.1 28) (X.1 29) (X.1 30) (Y.2.1 22) ∧
  ((∃ b, X.2.1 30 0 = bI b ∧ Y.2.1 24 0 = bI b ∧ (b = true → LV c (X.1 33) (X.1 34) (X.1 35) (X.1 36) (X.1 37) (X.1 38) (X.1 39) (fun k => Y.2.1 23 k) ∧ isB (X.1 41))) ∧ (∃ b, X.2.1 30 1 = bI b ∧ Y.2.1 24 1 = bI b ∧ (b = true → LV c (X.1 42) (X.1 43) (X.1 44) (X.1 45) (X.1 46) (X.1 47) (X.1 48) (fun k => Y.2.1 23 (7 + k)) ∧ isB (X.1 50))) ∧ isB (X.1 32)) ∧
  (∀ h, h < 10 → X.2.1 31 h = Y.2.1 25 h)
/-- which rule, which hour, which beginning -/
theorem nr_eq (x : Int32) : F_X12_noRule x = if F_X11_isRule x = 0 then 1 else 0 := by
  unfold F_X12_noRule F_X11_isRule
  rw [show F_X12_in x.toInt64 0 2 = _ from in_0 x (K := 2) (by decide)]; rfl
theorem nh_eq (x : Int32) : F_X12_noHour x = if F_X11_isHour x = 0 then 1 else 0 := by
  unfold F_X12_noHour
  rw [in_09]
theorem arg_in {x : Int32} {N : Nat} (hN : N < 2 ^ 31) (h0 : ¬ x < 0) (h1 : ¬ nI N ≤ x) : ∃ k, k < N ∧ x = nI k := by
  obtain ⟨j, hj, e⟩ := nI_of h0
  refine ⟨j, ?_, e⟩
  apply Nat.lt_of_not_le
  intro q
  exact h1 (by rw [e]; exact nI_le q hj)
theorem rul (x : Int32) : (F_X11_isRule x = 0 ∧ F_X12_noRule x = 1) ∨ ∃ r, r < 3 ∧ x = nI r ∧ F_X11_isRule x = 1 ∧ F_X12_noRule x = 0 ∧ sel3 x = r := by
  rw [nr_eq]
  by_cases h0 : x < 0
  · left
    unfold F_X11_isRule
    rw [if_pos h0]; exact ⟨rfl, rfl⟩
  · by_cases h1 : (3 : Int32) ≤ x
    · left
      unfold F_X11_isRule
      rw [if_neg h0, if_pos h1]; exact ⟨rfl, rfl⟩
    · right
      obtain ⟨k, k1, k2⟩ := arg_in (N := 3) (by decide) h0 h1
      refine ⟨k, k1, k2, ?_⟩
      have : k = 0 ∨ k = 1 ∨ k = 2 := by omega
      rcases this with q | q | q <;> (rw [k2, q]; decide)
theorem hou (x : Int32) : (F_X11_isHour x = 0 ∧ F_X12_noHour x = 1) ∨ ∃ h, h < 10 ∧ x = nI h ∧ F_X11_isHour x = 1 ∧ F_X12_noHour x = 0 := by
  rw [nh_eq]
  by_cases h0 : x < 0
  · left
    unfold F_X11_isHour
    rw [if_pos h0]; exact ⟨rfl, rfl⟩
  · by_cases h1 : (10 : Int32) ≤ x
    · left
      unfold F_X11_isHour
      rw [if_neg h0, if_pos h1]; exact ⟨rfl, rfl⟩
    · right
      obtain ⟨k, k1, k2⟩ := arg_in (N := 10) (by decide) h0 h1
      refine ⟨k, k1, k2, ?_⟩
      unfold F_X11_isHour
      rw [if_neg h0, if_neg h1]; exact ⟨rfl, rfl⟩
theorem in_neg {x : Int32} (h0 : x < 0) {a : Nat} (ha : a < 2 ^ 31) (y : Int64) : F_X12_in x.toInt64 (lN a) y = 0 := by
  unfold F_X12_in
  have : x.toInt64 < lN a := by
    rw [Int64.lt_iff_toInt_lt, Int32.toInt_toInt64, lN_toInt ha]
    have := lt0_toInt.mp h0
    omega
  rw [if_pos ((lg_cmp_lt _ _).mpr this)]
section BGN
variable {c : Cl} {pe se pl ow : Int32} {pr mi ri oF oL ho be en co nc : Nat → Int32} {se' ow' : Int32} {wh fr to th mi' ri' op sh ho' : Nat → Int32}
theorem bgn (R : RX c pe se pl ow pr mi ri oF oL ho be en co nc) (S : RY c se' ow' wh fr to th mi' ri' op sh ho') (x : Int32) : ok_X12_noBegin x ∧ ((F_X1_isBegin pe pl x = 0 ∧ F_X12_noBegin (nI (kN c)) th x = 1) ∨ ∃ k, Bg c k ∧ k < 32 ∧ x = nI k ∧ F_X1_isBegin pe pl x = 1 ∧ F_X12_noBegin (nI (kN c)) th x = 0) := by
  have n6 := R.1.n6
  by_cases h0 : x < 0
  · have i1 : F_X12_in x.toInt64 0 3 = 0 := in_neg h0 (a := 0) (by decide) 3
    have i2 : ∀ y, F_X12_in x.toInt64 10 y = 0 := fun y => in_neg h0 (a := 10) (by decide) y
    have h10 : x < 10 := Int32.lt_trans h0 (by decide)
    unfold ok_X12_noBegin F_X12_noBegin F_X1_isBegin F_X1_isPlace
    rw [i1, i2, if_pos h0, if_pos rfl, if_pos h10, if_pos rfl, if_pos rfl]
    exact ⟨fun q => absurd rfl q, Or.inl ⟨rfl, rfl⟩⟩
  · obtain ⟨k, hk, e⟩ := nI_of h0
    by_cases hb : k < 2 ^ 30
    · obtain ⟨n1, n2⟩ := noBegin_Y S (k := k) hb
      have x1 := isBegin_X R (k := k) hb
      rw [e]
      refine ⟨n1, ?_⟩
      rw [n2, x1]
      cases q : bgb c k with
      | false => exact Or.inl ⟨rfl, rfl⟩
      | true =>
        have bg := bgb_iff.mp q
        refine Or.inr ⟨k, bg, ?_, rfl, rfl, rfl⟩
        rcases bg with z | z <;> omega
    · have i1 : F_X12_in x.toInt64 0 3 = 0 := by
        rw [e, nI_l hk]
        refine (in_N (a := 0) (b := 3) hk (by decide) (by decide)).trans ?_
        rw [decide_eq_false (show ¬ k ≤ 3 by omega), Bool.and_false]; rfl
      have i2 : F_X12_in x.toInt64 10 ((9 : Int32) + nI (kN c)).toInt64 = 0 := by
        rw [e, show (9 : Int32) + nI (kN c) = nI (9 + kN c) from nI_add 9 _, nI_l hk, nI_l (by omega)]
        refine (in_N (a := 10) (b := 9 + kN c) hk (by decide) (by omega)).trans ?_
        rw [decide_eq_false (show ¬ k ≤ 9 + kN c by omega), Bool.and_false]; rfl
      have h4 : (4 : Int32) ≤ x := by rw [e]; exact nI_le (a := 4) (by omega) hk
      have h10 : ¬ x < 10 := by rw [e]; exact nI_nlt (b := 10) (by omega) hk
      have hp : F_X1_isPerson pe (x - 10) = 0 := by
        unfold F_X1_isPerson
        have ex : x - 10 = nI (k - 10) := by rw [e]; exact pk_sub (b := 10) (by omega)
        rw [ex, if_neg (nI_pos (by omega)), R.2.1, if_pos (nI_le (by omega) (by omega))]
      unfold ok_X12_noBegin F_X12_noBegin F_X1_isBegin F_X1_isPlace
      rw [i1, i2, if_neg h0, if_pos h4, if_pos rfl, if_neg h10, hp, if_pos rfl, if_pos rfl, if_pos rfl]
      exact ⟨fun q => absurd rfl q, Or.inl ⟨rfl, rfl⟩⟩
theorem ses (R : RX c pe se pl ow pr mi ri oF oL ho be en co nc) (x : Int32) : (F_X1_isSession se x = 0 ∧ F_X12_noSession (nI (kS c)) x = 1) ∨ ∃ s, s < kS c ∧ x = nI s ∧ F_X1_isSession se x = 1 ∧ F_X12_noSession (nI (kS c)) x = 0 := by
  have s8 := R.1.s8
  have e2 : se = nI (kS c) := R.2.2.1
  unfold F_X1_isSession F_X12_noSession
  rw [e2]
  by_cases h0 : x < 0
  · rw [if_pos h0, show F_X12_in x.toInt64 0 (nI (kS c) - 1).toInt64 = 0 from in_neg h0 (a := 0) (by decide) _, if_pos rfl]
    exact Or.inl ⟨rfl, rfl⟩
  · obtain ⟨k, hk, e⟩ := nI_of h0
    rw [if_neg h0, e]
    by_cases q : k < kS c
    · right
      refine ⟨k, q, rfl, ?_, ?_⟩
      · rw [if_neg (nI_ge q (by omega)), if_neg (le_lit (K := 8) 8 rfl (by omega) (by decide))]
      · rw [show nI (kS c) - 1 = nI (kS c - 1) from pk_sub (b := 1) (by omega), nI_l hk, nI_l (by omega)]
        rw [show F_X12_in (lN k) 0 (lN (kS c - 1)) = _ from in_N (a := 0) hk (by decide) (by omega), decide_eq_true (Nat.zero_le _), decide_eq_true (show k ≤ kS c - 1 by omega)]; rfl
    · left
      refine ⟨if_pos (nI_le (by omega) hk), ?_⟩
      by_cases z : kS c = 0
      · rw [z, nI_l hk]
        unfold F_X12_in
        have : ¬ lN k < 0 := by
          rw [Int64.lt_iff_toInt_lt, lN_toInt hk]
          show ¬ (k : Int) < 0
          omega
        rw [if_neg (fun y => this ((lg_cmp_lt _ _).mp y))]
        have h2 : ((nI 0 - 1 : Int32)).toInt64 < lN k := by
          rw [Int64.lt_iff_toInt_lt, lN_toInt hk]
          show (-1 : Int) < k
          omega
        rw [if_pos ((lg_cmp_gt _ _).mpr h2)]; rfl
      · rw [show nI (kS c) - 1 = nI (kS c - 1) from pk_sub (b := 1) (by omega), nI_l hk, nI_l (by omega)]
        rw [show F_X12_in (lN k) 0 (lN (kS c - 1)) = _ from in_N (a := 0) hk (by decide) (by omega), decide_eq_true (Nat.zero_le _), decide_eq_false (show ¬ k ≤ kS c - 1 by omega)]; rfl
end BGN
theorem rf3_at {x y z r : Nat} {a : Nat → Nat} (hx : x = a 31) (hy : y = a 33) (hz : z = a 35) (hr : r < 3) : rf3 x y z r = some (a (31 + 2 * r)) := by
  have : r = 0 ∨ r = 1 ∨ r = 2 := by omega
  rcases this with q | q | q <;> (rw [q]; subst hx hy hz; rfl)
theorem RuA_at {A : Nat → Nat → Nat} {X : Bd} {ya : Nat → Int32} (h : RuA A (X.2.1 26) (X.2.1 27) (X.2.1 28) ya) {r : Nat} (hr : r < 3) : (∀ h, h < 10 → X.2.1 (26 + 1 * r) h = nI (A r h) ∧ A r h ≤ 5) ∧ (∀ h, h < 10 → ya (10 * r + h) = nI (A r h) ∧ A r h ≤ 5) := by
  have : r = 0 ∨ r = 1 ∨ r = 2 := by omega
  rcases this with q | q | q
  · rw [q]; exact ⟨fun j hj => by obtain ⟨a1, a2, a3, a4, a5, a6, a7, a8, a9⟩ := h j hj; exact ⟨a1, a7⟩, fun j hj => by obtain ⟨a1, a2, a3, a4, a5, a6, a7, a8, a9⟩ := h j hj; rw [Nat.mul_zero, Nat.zero_add]; exact ⟨a4, a7⟩⟩
  · rw [q]; exact ⟨fun j hj => by obtain ⟨a1, a2, a3, a4, a5, a6, a7, a8, a9⟩ := h j hj; exact ⟨a2, a8⟩, fun j hj => by obtain ⟨a1, a2, a3, a4, a5, a6, a7, a8, a9⟩ := h j hj; exact ⟨a5, a8⟩⟩
  · rw [q]; exact ⟨fun j hj => by obtain ⟨a1, a2, a3, a4, a5, a6, a7, a8, a9⟩ := h j hj; exact ⟨a3, a9⟩, fun j hj => by obtain ⟨a1, a2, a3, a4, a5, a6, a7, a8, a9⟩ := h j hj; exact ⟨a6, a9⟩⟩
/-- what a call may not touch -/
def uX (j : Nat) : Bool := Nat.ble j 5 || (Nat.ble 24 j && Nat.ble j 50)
def uA (j : Nat) : Bool := Nat.ble j 12 || ((Nat.ble 26 j && Nat.ble j 28) || (Nat.ble 30 j && Nat.ble j 31))
def vX (j : Nat) : Bool := Nat.beq j 1 || (Nat.beq j 3 || (Nat.beq j 4 || (Nat.beq j 5 || Nat.beq j 10)))
def vA (j : Nat) : Bool := Nat.ble j 9 || (Nat.beq j 20 || (Nat.ble 22 j && Nat.ble j 25))
theorem st1_keep {α : Type} {u : Nat → Bool} {f g : Nat → α} {k : Nat} {x : α} (hk : u k = false) (h : ∀ j, u j = true → f j = g j) : ∀ j, u j = true → st1 f k x j = g j := by
  intro j hj
  unfold st1
  cases e : Nat.beq j k with
  | true =>
    have := Nat.eq_of_beq_eq_true e
    rw [this, hk] at hj; cases hj
  | false => exact h j hj
theorem Rl_keep {X X' Y Y' : Bd} (h : Rl X Y) (h1 : ∀ j, uX j = true → X'.1 j = X.1 j) (h2 : ∀ j, uA j = true → X'.2.1 j = X.2.1 j) (h3 : ∀ j, vX j = true → Y'.1 j = Y.1 j) (h4 : ∀ j, vA j = true → Y'.2.1 j = Y.2.1 j) : Rl X' Y' := by
  obtain ⟨c, tx, L, A, ⟨R, Fx1, G⟩, ⟨S, n3, g4⟩, ⟨T, l1, l2⟩, U, V, ⟨⟨b0, w1, w2, w3⟩, ⟨b1, w4, w5, w6⟩, w7⟩, Q⟩ := h
  unfold Rl
  rw [h1 1 rfl, h1 2 rfl, h1 3 rfl, h1 5 rfl, h1 4 rfl, h1 0 rfl, h1 24 rfl, h1 25 rfl, h1 26 rfl, h1 27 rfl, h1 28 rfl, h1 29 rfl, h1 30 rfl, h1 32 rfl, h1 41 rfl, h1 50 rfl, h1 33 rfl, h1 34 rfl, h1 35 rfl, h1 36 rfl, h1 37 rfl, h1 38 rfl, h1 39 rfl, h1 42 rfl, h1 43 rfl, h1 44 rfl, h1 45 rfl, h1 46 rfl, h1 47 rfl, h1 48 rfl, h2 0 rfl, h2 1 rfl, h2 2 rfl, h2 3 rfl, h2 4 rfl, h2 5 rfl, h2 6 rfl, h2 7 rfl, h2 8 rfl, h2 9 rfl, h2 10 rfl, h2 11 rfl, h2 12 rfl, h2 26 rfl, h2 27 rfl, h2 28 rfl, h2 30 rfl, h2 31 rfl, h3 1 rfl, h3 3 rfl, h3 4 rfl, h3 5 rfl, h3 10 rfl, h4 0 rfl, h4 1 rfl, h4 2 rfl, h4 3 rfl, h4 4 rfl, h4 5 rfl, h4 6 rfl, h4 7 rfl, h4 8 rfl, h4 9 rfl, h4 20 rfl, h4 22 rfl, h4 23 rfl, h4 24 rfl, h4 25 rfl]
  exact ⟨c, tx, L, A, ⟨R, Fx1, G⟩, ⟨S, n3, g4⟩, ⟨T, l1, l2⟩, U, V, ⟨⟨b0, w1, w2, w3⟩, ⟨b1, w4, w5, w6⟩, w7⟩, Q⟩

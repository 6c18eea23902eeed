/-! where to look first -/
theorem lN_ti {n : Nat} (h : n < 2 ^ 63) : (lN n).toInt = (n : Int) := lg_ofNat_toInt (by omega)
theorem lN_ltB {a b : Nat} (ha : a < 2 ^ 63) (hb : b < 2 ^ 63) : lN a < lN b ↔ a < b := by
  rw [Int64.lt_iff_toInt_lt, lN_ti ha, lN_ti hb]; omega
theorem lN_leB {a b : Nat} (ha : a < 2 ^ 63) (hb : b < 2 ^ 63) : lN a ≤ lN b ↔ a ≤ b := by
  rw [Int64.le_iff_toInt_le, lN_ti ha, lN_ti hb]; omega
theorem lN_eqB {a b : Nat} (ha : a < 2 ^ 63) (hb : b < 2 ^ 63) : lN a = lN b ↔ a = b := by
  rw [← Int64.toInt_inj, lN_ti ha, lN_ti hb]; omega
theorem lN_dif {a b : Nat} (ha : a < 2 ^ 62) (hb : b < 2 ^ 62) : (lN a - lN b).toInt = (a : Int) - b := by
  rw [Int64.toInt_sub, lN_ti (by omega), lN_ti (by omega)]
  exact Int.bmod_eq_of_le (by omega) (by omega)
theorem lg_dif0 {a b : Nat} (ha : a < 2 ^ 62) (hb : b < 2 ^ 62) : lg_cmp (lN a - lN b) 0 = 0 ↔ a = b := by
  rw [lg_cmp_eq, ← Int64.toInt_inj, lN_dif ha hb]
  show (a : Int) - b = 0 ↔ _
  omega
theorem lg_difp {a b : Nat} (ha : a < 2 ^ 62) (hb : b < 2 ^ 62) : 0 < lg_cmp (lN a - lN b) 0 ↔ b < a := by
  rw [lg_cmp_gt, Int64.lt_iff_toInt_lt, lN_dif ha hb]
  show (0 : Int) < (a : Int) - b ↔ _
  omega
def mL (c : Cl) (h : Nat) (E : Nat → Nat) (p : Nat) : Bool := opn c h p && decide (0 < E p)
def aH (c : Cl) (E : Nat → Nat) (q p : Nat) : Bool := decide (E p * kM c q < E q * kM c p) || (decide (E q * kM c p = E p * kM c q) && decide (q < p))
def rk (c : Cl) (h : Nat) (E : Nat → Nat) (p : Nat) : Nat → Nat
  | 0 => 0
  | j + 1 => rk c h E p j + (if (mL c h E j && aH c E j p) = true then 1 else 0)
theorem rk_le (c : Cl) (h : Nat) (E : Nat → Nat) (p : Nat) : ∀ j, rk c h E p j ≤ j
  | 0 => Nat.le_refl _
  | j + 1 => by
    have := rk_le c h E p j
    show rk c h E p j + (if (mL c h E j && aH c E j p) = true then 1 else 0) ≤ j + 1
    split <;> omega
def lkA (c : Cl) (h : Nat) (E : Nat → Nat) (x : Int32) : Option Nat := lo (fun p => mL c h E p && decide (nI (rk c h E p 4) = x)) 0 (4 - 0)
theorem sk_lt {a b x y x' y' : Nat} (ha : 0 < a) (hb : 0 < b) (hx : a * x = b * x') (hy : a * y = b * y') (m n : Nat) : x * m < y * n ↔ x' * m < y' * n := by
  have e1 : a * (x * m) = b * (x' * m) := by rw [← Nat.mul_assoc, hx, Nat.mul_assoc]
  have e2 : a * (y * n) = b * (y' * n) := by rw [← Nat.mul_assoc, hy, Nat.mul_assoc]
  constructor
  · intro q
    have := (Nat.mul_lt_mul_left ha).mpr q
    rw [e1, e2] at this
    exact (Nat.mul_lt_mul_left hb).mp this
  · intro q
    have := (Nat.mul_lt_mul_left hb).mpr q
    rw [← e1, ← e2] at this
    exact (Nat.mul_lt_mul_left ha).mp this
theorem sk_eq {a b x y x' y' : Nat} (ha : 0 < a) (hb : 0 < b) (hx : a * x = b * x') (hy : a * y = b * y') (m n : Nat) : x * m = y * n ↔ x' * m = y' * n := by
  have h1 := sk_lt ha hb hx hy m n
  have h2 := sk_lt ha hb hy hx n m
  omega
theorem mL_sc {c : Cl} {h : Nat} {E E' : Nat → Nat} {a b : Nat} (ha : 0 < a) (hb : 0 < b) (hE : ∀ p, p < 4 → a * E p = b * E' p) {p : Nat} (hp : p < 4) : mL c h E p = mL c h E' p := by
  unfold mL
  have : 0 < E p ↔ 0 < E' p := by
    have e := hE p hp
    constructor
    · intro q
      rcases Nat.eq_zero_or_pos (E' p) with z | z
      · rw [z, Nat.mul_zero] at e
        have := Nat.mul_pos ha q
        omega
      · exact z
    · intro q
      rcases Nat.eq_zero_or_pos (E p) with z | z
      · rw [z, Nat.mul_zero] at e
        have := Nat.mul_pos hb q
        omega
      · exact z
  rw [decide_eq_decide.mpr this]
theorem aH_sc {c : Cl} {E E' : Nat → Nat} {a b : Nat} (ha : 0 < a) (hb : 0 < b) (hE : ∀ p, p < 4 → a * E p = b * E' p) {p q : Nat} (hp : p < 4) (hq : q < 4) : aH c E q p = aH c E' q p := by
  unfold aH
  rw [decide_eq_decide.mpr (sk_lt ha hb (hE p hp) (hE q hq) (kM c q) (kM c p)), decide_eq_decide.mpr (sk_eq ha hb (hE q hq) (hE p hp) (kM c p) (kM c q))]
theorem lkA_sc {c : Cl} {h : Nat} {E E' : Nat → Nat} {a b : Nat} (ha : 0 < a) (hb : 0 < b) (hE : ∀ p, p < 4 → a * E p = b * E' p) (x : Int32) : lkA c h E x = lkA c h E' x := by
  unfold lkA
  apply lo_congr
  intro p _ hp
  have hp : p < 4 := by omega
  have hr : ∀ j, j ≤ 4 → rk c h E p j = rk c h E' p j := by
    intro j
    induction j with
    | zero => intro _; rfl
    | succ j ih =>
      intro hj
      show rk c h E p j + (if (mL c h E j && aH c E j p) = true then 1 else 0) = rk c h E' p j + (if (mL c h E' j && aH c E' j p) = true then 1 else 0)
      rw [ih (by omega), mL_sc ha hb hE (by omega), aH_sc ha hb hE hp (by omega)]
  rw [mL_sc ha hb hE hp, hr 4 (Nat.le_refl _)]
section LX
variable {c : Cl} {pe se pl ow : Int32} {pr mi ri oF oL ho be en co nc : Nat → Int32}
theorem ml_X (R : RX c pe se pl ow pr mi ri oF oL ho be en co nc) {h : Nat} (hh : h < 10) {K : Nat → Int64} {E : Nat → Nat} (hK : ∀ p, p < 4 → K p = lN (E p) ∧ E p ≤ 100000) {p : Nat} (hp : p < 4) : ok_X0_mayLieOpen oF oL (nI h) (nI p) ∧ F_X0_mayLieOpen K oF oL (nI h) (nI p) = bI (mL c h E p) := by
  obtain ⟨k1, k2⟩ := hK p hp
  unfold ok_X0_mayLieOpen F_X0_mayLieOpen mL
  rw [isOpen_X R hh (by omega), nI_clamp (by omega), k1]
  refine ⟨⟨ok_isOpen _ _ _, fun _ => vp_in_nI (by omega) (by decide)⟩, ?_⟩
  cases opn c h p with
  | false => rw [if_pos bI_f, Bool.false_and]; rfl
  | true =>
    rw [if_neg bI_tn, Bool.true_and]
    have z := lg0 (n := E p) (by omega)
    by_cases q : E p = 0
    · rw [if_pos (z.mpr q), decide_eq_false (by omega)]; rfl
    · rw [if_neg (fun y => q (z.mp y)), decide_eq_true (by omega)]; rfl
theorem mL_p {h : Nat} {E : Nat → Nat} {p : Nat} (hm : mL c h E p = true) : p < 4 ∧ kP c p = true := by
  unfold mL at hm
  rw [Bool.and_eq_true] at hm
  obtain ⟨a1, a2, -⟩ := opn_true.mp hm.1
  exact ⟨a1, a2⟩
theorem ahd_loop (R : RX c pe se pl ow pr mi ri oF oL ho be en co nc) {h : Nat} (hh : h < 10) {K : Nat → Int64} {E : Nat → Nat} (hK : ∀ p, p < 4 → K p = lN (E p) ∧ E p ≤ 100000) {p : Nat} (hp : mL c h E p = true) : ∀ n j, j ≤ 4 → 4 < j + n →
    ok_X0_aheadOf_L6 K mi oF oL (nI h) (nI p) n (nI (rk c h E p j)) (nI j) ∧ F_X0_aheadOf_L6 K mi oF oL (nI h) (nI p) n (nI (rk c h E p j)) (nI j) = nI (rk c h E p 4) := by
  obtain ⟨p4, pP⟩ := mL_p hp
  have w := R.1
  have hmi := R.2.2.2.2.2.2.1
  intro n
  induction n with
  | zero => intro j h1 h2; omega
  | succ n ih =>
    intro j h1 h2
    rw [ok_X0_aheadOf_L6_s, F_X0_aheadOf_L6_s]
    by_cases q : j = 4
    · subst q
      rw [if_pos (le_self (K := 4) 4 rfl)]
      exact ⟨fun y => absurd (le_self (K := 4) 4 rfl) y, rfl⟩
    · have hj : j < 4 := by omega
      obtain ⟨m1, m2⟩ := ml_X R hh hK hj
      obtain ⟨g1, g2⟩ := ih (j + 1) (by omega) (by omega)
      have er : rk c h E p (j + 1) = rk c h E p j + (if (mL c h E j && aH c E j p) = true then 1 else 0) := rfl
      rw [er] at g1 g2
      have v11 : vp_in (nI j) 11 := vp_in_nI (by omega) (by decide)
      have v4 : vp_in (nI j) 4 := vp_in_nI hj (by decide)
      have u11 : vp_in (nI p) 11 := vp_in_nI (by omega) (by decide)
      have u4 : vp_in (nI p) 4 := vp_in_nI p4 (by decide)
      rw [if_neg (le_lit (K := 4) 4 rfl hj (by decide)), m2]
      cases em : mL c h E j with
      | false =>
        rw [em, Bool.false_and, if_neg nft, Nat.add_zero] at g1 g2
        rw [if_pos bI_f, nI_1]
        exact ⟨fun _ => ⟨v11, u4, u11, v4, m1, fun _ => g1, fun y => absurd bI_f y⟩, g2⟩
      | true =>
        obtain ⟨-, jP⟩ := mL_p em
        obtain ⟨k1, k2⟩ := hK j hj
        obtain ⟨k3, k4⟩ := hK p p4
        have mj := (w.pp hj).1
        have mp := (w.pp p4).1
        have ex : K (nI j).toNatClampNeg * (mi (nI p).toNatClampNeg).toInt64 = lN (E j * kM c p) := by
          rw [nI_clamp (by omega), nI_clamp (by omega), k1, (hmi p p4 pP).1, nI_l (by omega), lN_mul]
        have ey : K (nI p).toNatClampNeg * (mi (nI j).toNatClampNeg).toInt64 = lN (E p * kM c j) := by
          rw [nI_clamp (by omega), nI_clamp (by omega), k3, (hmi j hj jP).1, nI_l (by omega), lN_mul]
        have bx : E j * kM c p ≤ 100000 * 9 := Nat.mul_le_mul k2 mp
        have by' : E p * kM c j ≤ 100000 * 9 := Nat.mul_le_mul k4 mj
        rw [em, Bool.true_and] at g1 g2
        rw [if_neg bI_tn, ex, ey, nI_1, nI_1]
        have c1 : 0 < lg_cmp (lN (E j * kM c p)) (lN (E p * kM c j)) ↔ E p * kM c j < E j * kM c p := by rw [lg_cmp_gt, lN_ltB (by omega) (by omega)]
        have c2 : lg_cmp (lN (E j * kM c p)) (lN (E p * kM c j)) = 0 ↔ E j * kM c p = E p * kM c j := by rw [lg_cmp_eq, lN_eqB (by omega) (by omega)]
        unfold aH at g1 g2
        by_cases q1 : E p * kM c j < E j * kM c p
        · have z := c1.mpr q1
          rw [decide_eq_true q1, Bool.true_or, if_pos rfl] at g1 g2
          rw [if_pos z]
          exact ⟨fun _ => ⟨v11, u4, u11, v4, m1, fun y => absurd y bI_tn, fun _ => ⟨fun _ => g1, fun y => absurd z y⟩⟩, g2⟩
        · have z : ¬ 0 < lg_cmp (lN (E j * kM c p)) (lN (E p * kM c j)) := fun y => q1 (c1.mp y)
          rw [decide_eq_false q1, Bool.false_or] at g1 g2
          rw [if_neg z]
          by_cases q2 : E j * kM c p = E p * kM c j
          · have z2 := c2.mpr q2
            rw [decide_eq_true q2, Bool.true_and] at g1 g2
            rw [if_pos z2]
            by_cases q3 : j < p
            · have z3 : ¬ nI p ≤ nI j := nI_ge q3 (by omega)
              rw [decide_eq_true q3, if_pos rfl] at g1 g2
              rw [if_neg z3]
              exact ⟨fun _ => ⟨v11, u4, u11, v4, m1, fun y => absurd y bI_tn, fun _ => ⟨fun y => absurd y z, fun _ => ⟨fun _ => ⟨fun y => absurd y z3, fun _ => g1⟩, fun y => absurd z2 y⟩⟩⟩, g2⟩
            · have z3 : nI p ≤ nI j := nI_le (by omega) (by omega)
              rw [decide_eq_false q3, if_neg nft, Nat.add_zero] at g1 g2
              rw [if_pos z3]
              exact ⟨fun _ => ⟨v11, u4, u11, v4, m1, fun y => absurd y bI_tn, fun _ => ⟨fun y => absurd y z, fun _ => ⟨fun _ => ⟨fun _ => g1, fun y => absurd z3 y⟩, fun y => absurd z2 y⟩⟩⟩, g2⟩
          · have z2 : ¬ lg_cmp (lN (E j * kM c p)) (lN (E p * kM c j)) = 0 := fun y => q2 (c2.mp y)
            rw [decide_eq_false q2, Bool.false_and, if_neg nft, Nat.add_zero] at g1 g2
            rw [if_neg z2]
            exact ⟨fun _ => ⟨v11, u4, u11, v4, m1, fun y => absurd y bI_tn, fun _ => ⟨fun y => absurd y z, fun _ => ⟨fun y => absurd y z2, fun _ => g1⟩⟩⟩, g2⟩
theorem pl_loop (R : RX c pe se pl ow pr mi ri oF oL ho be en co nc) {h : Nat} (hh : h < 10) {K : Nat → Int64} {E : Nat → Nat} (hK : ∀ p, p < 4 → K p = lN (E p) ∧ E p ≤ 100000) (x : Int32) : ∀ n p, p ≤ 4 → 4 < p + n →
    ok_X0_placeToLook_L3 K mi oF oL (nI h) x n (nI p) ∧ F_X0_placeToLook_L3 K mi oF oL (nI h) x F_X0_placeToLook_b41 n (nI p) = aI (lo (fun p => mL c h E p && decide (nI (rk c h E p 4) = x)) p (4 - p)) := by
  intro n
  induction n with
  | zero => intro p h1 h2; omega
  | succ n ih =>
    intro p h1 h2
    rw [ok_X0_placeToLook_L3_s, F_X0_placeToLook_L3_s]
    by_cases q : p = 4
    · subst q
      rw [if_pos (le_self (K := 4) 4 rfl), lo_end]
      exact ⟨fun y => absurd (le_self (K := 4) 4 rfl) y, rfl⟩
    · have hp : p < 4 := by omega
      obtain ⟨m1, m2⟩ := ml_X R hh hK hp
      obtain ⟨g1, g2⟩ := ih (p + 1) (by omega) (by omega)
      rw [if_neg (le_lit (K := 4) 4 rfl hp (by decide)), m2, nI_1, lo_at hp, g2]
      cases em : mL c h E p with
      | false =>
        rw [if_pos bI_f, Bool.false_and, if_neg nft]
        exact ⟨fun _ => ⟨m1, fun _ => g1, fun y => absurd bI_f y⟩, rfl⟩
      | true =>
        obtain ⟨a1, a2⟩ := ahd_loop R hh hK em FU 0 (Nat.zero_le _) (by have := FU_ge; omega)
        have a2' : F_X0_aheadOf K mi oF oL (nI h) (nI p) = nI (rk c h E p 4) := a2
        have a1' : ok_X0_aheadOf K mi oF oL (nI h) (nI p) := a1
        rw [if_neg bI_tn, a2', Bool.true_and]
        refine ⟨fun _ => ⟨m1, fun y => absurd y bI_tn, fun _ => ⟨a1', fun _ => g1⟩⟩, ?_⟩
        by_cases qx : nI (rk c h E p 4) = x
        · rw [if_pos qx, decide_eq_true qx, if_pos rfl]; rfl
        · rw [if_neg qx, decide_eq_false qx, if_neg nft]
theorem look_X (R : RX c pe se pl ow pr mi ri oF oL ho be en co nc) {h : Nat} (hh : h < 10) {K : Nat → Int64} {E : Nat → Nat} (hK : ∀ p, p < 4 → K p = lN (E p) ∧ E p ≤ 100000) (x : Int32) : ok_X0_placeToLook K mi oF oL (nI h) x ∧ F_X0_placeToLook K mi oF oL (nI h) x = aI (lkA c h E x) := pl_loop R hh hK x FU 0 (Nat.zero_le _) (by have := FU_ge; omega)
end LX

def bt (x : Int32) (i : Nat) : Bool := x.toBitVec.getLsbD i
theorem b_ext {x y : Int32} (h : ∀ i, i < 32 → bt x i = bt y i) : x = y := Int32.toBitVec_inj.mp (BitVec.eq_of_getLsbD_eq (fun i hi => h i hi))
theorem b_or (x y : Int32) (i : Nat) : bt (x ||| y) i = (bt x i || bt y i) := by unfold bt; rw [Int32.toBitVec_or, BitVec.getLsbD_or]
theorem b_and (x y : Int32) (i : Nat) : bt (x &&& y) i = (bt x i && bt y i) := by unfold bt; rw [Int32.toBitVec_and, BitVec.getLsbD_and]
theorem b_xor (x y : Int32) (i : Nat) : bt (x ^^^ y) i = (bt x i ^^ bt y i) := by unfold bt; rw [Int32.toBitVec_xor, BitVec.getLsbD_xor]
theorem b_big {x : Int32} {i : Nat} (h : 32 ≤ i) : bt x i = false := BitVec.getLsbD_of_ge _ _ h
theorem b_255 (i : Nat) : bt 255 i = decide (i < 8) := by
  rcases Nat.lt_or_ge i 32 with h | h
  · exact (by decide +kernel : ∀ i, i < 32 → bt 255 i = decide (i < 8)) i h
  · rw [b_big h, decide_eq_false (by omega)]
theorem b_65535 (i : Nat) : bt 65535 i = decide (i < 16) := by
  rcases Nat.lt_or_ge i 32 with h | h
  · exact (by decide +kernel : ∀ i, i < 32 → bt 65535 i = decide (i < 16)) i h
  · rw [b_big h, decide_eq_false (by omega)]
theorem b_m1 : ∀ i, i < 32 → bt (-1) i = true := by decide +kernel
theorem b_0 (i : Nat) : bt 0 i = false := BitVec.getLsbD_zero
theorem s_l : ∀ n, n < 32 → ((nI n &&& 31).toBitVec.smod 32).toNat = n := by decide +kernel
theorem s_u : ∀ n, n < 32 → (((nI n).toUInt32 &&& Int32.toUInt32 31).toBitVec % 32).toNat = n := by decide +kernel
theorem b_shl (n : Nat) (hn : n < 32) (x : Int32) {i : Nat} (hi : i < 32) : bt (x <<< (nI n &&& 31)) i = (decide (n ≤ i) && bt x (i - n)) := by
  unfold bt
  rw [Int32.toBitVec_shiftLeft]
  show (x.toBitVec <<< ((nI n &&& 31).toBitVec.smod 32).toNat).getLsbD i = _
  rw [s_l n hn, BitVec.getLsbD_shiftLeft]
  rcases Nat.lt_or_ge i n with h | h
  · simp [h, Nat.not_le.mpr h]
  · simp [hi, h, Nat.not_lt.mpr h]
theorem b_ushr (n : Nat) (hn : n < 32) (x : Int32) (i : Nat) : bt ((x.toUInt32 >>> ((nI n).toUInt32 &&& Int32.toUInt32 31)).toInt32) i = bt x (n + i) := by
  show (x.toUInt32 >>> ((nI n).toUInt32 &&& Int32.toUInt32 31)).toBitVec.getLsbD i = x.toUInt32.toBitVec.getLsbD (n + i)
  rw [UInt32.toBitVec_shiftRight]
  show (x.toUInt32.toBitVec >>> (((nI n).toUInt32 &&& Int32.toUInt32 31).toBitVec % 32).toNat).getLsbD i = _
  rw [s_u n hn, BitVec.getLsbD_ushiftRight]
theorem b_sshr (n : Nat) (hn : n < 32) (x : Int32) {i : Nat} (hi : i < 32) : bt (x >>> (nI n &&& 31)) i = if n + i < 32 then bt x (n + i) else bt x 31 := by
  unfold bt
  rw [Int32.toBitVec_shiftRight]
  show (x.toBitVec.sshiftRight ((nI n &&& 31).toBitVec.smod 32).toNat).getLsbD i = _
  rw [s_l n hn, BitVec.getLsbD_sshiftRight, BitVec.msb_eq_getLsbD_last]
  simp [hi]
/-! bits of ints, further -/
theorem bt_nI {n i : Nat} (hi : i < 32) : bt (nI n) i = n.testBit i := by
  unfold bt nI
  show (BitVec.ofNat 32 n).getLsbD i = _
  rw [BitVec.getLsbD_ofNat]
  simp [hi]
theorem bt_1 (i : Nat) : bt 1 i = decide (i = 0) := by
  by_cases h : i < 32
  · have : ∀ j, j < 32 → bt 1 j = decide (j = 0) := by decide +kernel
    exact this i h
  · rw [b_big (by omega)]
    have : ¬ i = 0 := by omega
    simp [this]
theorem bt_bit {s i : Nat} (hs : s < 32) (hi : i < 32) : bt ((1 : Int32) <<< (nI s &&& 31)) i = decide (i = s) := by
  rw [b_shl s hs 1 hi, bt_1]
  by_cases h : s ≤ i
  · by_cases h2 : i = s
    · subst h2; simp
    · have h3 : ¬ i - s = 0 := by omega
      simp [h3, h2]
  · have h2 : ¬ i = s := by omega
    simp [h, h2]
theorem bt_tst {x : Int32} {s : Nat} (hs : s < 32) : ((x >>> (nI s &&& 31)) &&& 1) = if bt x s then 1 else 0 := by
  apply b_ext
  intro i hi
  rw [b_and, b_sshr s hs x hi, bt_1]
  by_cases h0 : i = 0
  · subst h0
    have h1 : s + 0 < 32 := by omega
    rw [if_pos h1]
    cases h2 : bt x s <;> simp [h2, b_0, bt_1]
  · cases h2 : bt x s <;> simp [h0, b_0, bt_1]
theorem bt_t0 {x : Int32} {s : Nat} (hs : s < 32) : ((x >>> (nI s &&& 31)) &&& 1) = 0 ↔ bt x s = false := by
  rw [bt_tst hs]
  cases bt x s <;> decide
theorem bt_t1 {x : Int32} {s : Nat} (hs : s < 32) : ((x >>> (nI s &&& 31)) &&& 1) = 1 ↔ bt x s = true := by
  rw [bt_tst hs]
  cases bt x s <;> decide
theorem bt_eq0 {x : Int32} : x = 0 ↔ ∀ i, bt x i = false := by
  constructor
  · intro h i; rw [h]; exact b_0 i
  · intro h; exact b_ext (fun i _ => by rw [h i, b_0])
theorem bt_ne0 {x : Int32} : ¬ x = 0 ↔ ∃ i, bt x i = true := by
  constructor
  · intro h
    apply Classical.byContradiction
    intro h2
    apply h
    apply bt_eq0.mpr
    intro i
    cases h3 : bt x i with
    | false => rfl
    | true => exact absurd ⟨i, h3⟩ h2
  · rintro ⟨i, hi⟩ h
    rw [h, b_0] at hi
    cases hi
theorem bt_not {x : Int32} {i : Nat} : bt (x ^^^ (-1)) i = (decide (i < 32) && !bt x i) := by
  by_cases h : i < 32
  · rw [b_xor, b_m1 i h]; simp [h]
  · rw [b_big (by omega)]; simp [h]
theorem bt_andn {x y : Int32} {i : Nat} : bt (x &&& (y ^^^ (-1))) i = (bt x i && !bt y i) := by
  rw [b_and, bt_not]
  by_cases h : i < 32
  · simp [h]
  · rw [b_big (x := x) (by omega)]; simp
theorem bt_ext {x y : Int32} (h : ∀ i, bt x i = bt y i) : x = y := b_ext (fun i _ => h i)
/-- the least of some in [j, j + d) -/
def lo (P : Nat → Bool) : Nat → Nat → Option Nat
  | _, 0 => none
  | j, d + 1 => if P j then some j else lo P (j + 1) d
theorem lo_some {P : Nat → Bool} : ∀ {d j s : Nat}, lo P j d = some s → j ≤ s ∧ s < j + d ∧ P s = true ∧ ∀ i, j ≤ i → i < s → P i = false
  | 0, j, s, h => by simp [lo] at h
  | d + 1, j, s, h => by
    unfold lo at h
    by_cases hp : P j = true
    · rw [if_pos hp] at h
      cases h
      exact ⟨Nat.le_refl _, by omega, hp, fun i h1 h2 => by omega⟩
    · rw [if_neg hp] at h
      obtain ⟨h1, h2, h3, h4⟩ := lo_some h
      refine ⟨by omega, by omega, h3, fun i h5 h6 => ?_⟩
      by_cases hi : i = j
      · subst hi; simpa using hp
      · exact h4 i (by omega) h6
theorem lo_none {P : Nat → Bool} : ∀ {d j : Nat}, lo P j d = none → ∀ i, j ≤ i → i < j + d → P i = false
  | 0, j, _, i, h1, h2 => by omega
  | d + 1, j, h, i, h1, h2 => by
    unfold lo at h
    by_cases hp : P j = true
    · rw [if_pos hp] at h; cases h
    · rw [if_neg hp] at h
      by_cases hi : i = j
      · subst hi; simpa using hp
      · exact lo_none h i (by omega) (by omega)
theorem lo_congr {P Q : Nat → Bool} : ∀ {d j : Nat}, (∀ i, j ≤ i → i < j + d → P i = Q i) → lo P j d = lo Q j d
  | 0, _, _ => rfl
  | d + 1, j, h => by
    unfold lo
    rw [h j (Nat.le_refl _) (by omega), lo_congr (fun i h1 h2 => h i (by omega) (by omega))]
/-- comparisons with written numbers -/
theorem nI_m1 (n : Nat) : nI n + (-1) = nI n - 1 := by
  have : ∀ x : Int32, x + (-1) = x - 1 := fun x => Int32.toBitVec_inj.mp (by rw [Int32.toBitVec_add, Int32.toBitVec_sub]; show _ + (-1 : BitVec 32) = _; rw [BitVec.sub_eq_add_neg]; rfl)
  exact this _
theorem neg1_lt0 : (-1 : Int32) < 0 := by decide
theorem nI_not_lt0 {n : Nat} (h : n < 2 ^ 31) : ¬ nI n < 0 := nI_pos h
theorem rem10 {a : Nat} (h : a < 2 ^ 31) : nI a - nI a / (10 : Int32) * (10 : Int32) = nI (a % 10) := pk_rem (d := 10) h (by decide) (by decide)
theorem isHour_nI {n : Nat} (h : n < 10) : F_X11_isHour (nI n) = 1 := by
  unfold F_X11_isHour
  rw [if_neg (nI_pos (by omega)), if_neg (show ¬ (10 : Int32) ≤ nI n from nI_ge (b := 10) h (by decide))]
theorem isHour_in {x : Int32} (h : ¬ F_X11_isHour x = 0) : ∃ n, n < 10 ∧ x = nI n := by
  unfold F_X11_isHour at h
  by_cases h1 : x < 0
  · rw [if_pos h1] at h; exact absurd rfl h
  · rw [if_neg h1] at h
    by_cases h2 : (10 : Int32) ≤ x
    · rw [if_pos h2] at h; exact absurd rfl h
    · rcases pk_ix x (n := 10) (by decide) with h3 | h3 | h3
      · exact absurd h3 h1
      · exact absurd h3 h2
      · exact h3

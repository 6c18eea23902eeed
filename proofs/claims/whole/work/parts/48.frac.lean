/-! fractions in least terms -/
theorem mod_half {b r : Nat} (h0 : 0 < r) (h1 : r < b) : 2 * (b % r) < b := by
  have h2 := Nat.mod_lt b h0
  by_cases h : 2 * r ≤ b
  · omega
  · have e : b % r = b - r := by
      rw [Nat.mod_eq_sub_mod (by omega), Nat.mod_eq_of_lt (by omega)]
    omega
theorem gcd_step {a b : Nat} : Nat.gcd a b = Nat.gcd b (a % b) := by
  rw [Nat.gcd_comm a b, Nat.gcd_rec b a, Nat.gcd_comm]
theorem lg0 {n : Nat} (h : n < 2 ^ 63) : lg_cmp (lN n) 0 = 0 ↔ n = 0 := by
  rw [lg_cmp_eq]
  exact pk_lEQ (b := 0) h (by decide)
theorem lN_ne0 {n : Nat} (h : n < 2 ^ 63) (h0 : 0 < n) : ¬ lN n = 0 := fun q => by
  have := (pk_lEQ (b := 0) h (by decide)).mp q
  omega
theorem told_loop : ∀ (m n a b : Nat), a < 2 ^ 63 → b < 2 ^ 63 → b < 2 ^ m → 2 * m + 1 ≤ n → ok_X12_told_L6 n (lN a) (lN b) ∧ F_X12_told_L6 n (lN a) (lN b) = lN (Nat.gcd a b)
  | 0, n, a, b, ha, hb, hm, hn => by
    obtain ⟨n, rfl⟩ : ∃ k, n = k + 1 := ⟨n - 1, by omega⟩
    have h0 : b = 0 := by omega
    subst h0
    rw [ok_X12_told_L6_s, F_X12_told_L6_s, if_pos ((lg0 hb).mpr rfl), Nat.gcd_zero_right]
    exact ⟨fun q => absurd ((lg0 hb).mpr rfl) q, rfl⟩
  | m + 1, n, a, b, ha, hb, hm, hn => by
    obtain ⟨n, rfl⟩ : ∃ k, n = k + 2 := ⟨n - 2, by omega⟩
    rw [ok_X12_told_L6_s, F_X12_told_L6_s]
    by_cases h0 : b = 0
    · subst h0
      rw [if_pos ((lg0 hb).mpr rfl), Nat.gcd_zero_right]
      exact ⟨fun q => absurd ((lg0 hb).mpr rfl) q, rfl⟩
    · have hr := Nat.mod_lt a (by omega : b > 0)
      rw [if_neg (fun q => h0 ((lg0 hb).mp q)), pk_lRem ha (by omega) hb, gcd_step]
      refine (fun (q : _ ∧ _) => ⟨fun _ => ⟨lN_ne0 hb (by omega), q.1⟩, q.2⟩) ?_
      rw [ok_X12_told_L6_s, F_X12_told_L6_s]
      by_cases h1 : a % b = 0
      · rw [h1, if_pos ((lg0 (by decide)).mpr rfl), Nat.gcd_zero_right]
        exact ⟨fun q => absurd ((lg0 (by decide)).mpr rfl) q, rfl⟩
      · have hh := mod_half (by omega : 0 < a % b) hr
        have hr2 := Nat.mod_lt b (by omega : a % b > 0)
        rw [if_neg (fun q => h1 ((lg0 (by omega)).mp q)), pk_lRem hb (by omega) (by omega), gcd_step]
        obtain ⟨g1, g2⟩ := told_loop m n (a % b) (b % (a % b)) (by omega) (by omega) (by rw [Nat.pow_succ] at hm; omega) (by omega)
        exact ⟨fun _ => ⟨lN_ne0 (by omega) (by omega), g1⟩, g2⟩
theorem gd_loop : ∀ (m n i a b : Nat), a < 2 ^ 63 → b < 2 ^ 63 → b < 2 ^ m → 2 * m + 1 ≤ n → i + (2 * m + 1) ≤ 200 → ok_X11_greatestDivisor_L9 n (lN a) (lN b) (nI i) ∧ F_X11_greatestDivisor_L9 n (lN a) (lN b) (nI i) = lN (Nat.gcd a b)
  | 0, n, i, a, b, ha, hb, hm, hn, hi => by
    obtain ⟨n, rfl⟩ : ∃ k, n = k + 1 := ⟨n - 1, by omega⟩
    have h0 : b = 0 := by omega
    subst h0
    rw [ok_X11_greatestDivisor_L9_s, F_X11_greatestDivisor_L9_s, if_pos ((lg0 hb).mpr rfl), ite_self, Nat.gcd_zero_right]
    exact ⟨fun _ q => absurd ((lg0 hb).mpr rfl) q, rfl⟩
  | m + 1, n, i, a, b, ha, hb, hm, hn, hi => by
    obtain ⟨n, rfl⟩ : ∃ k, n = k + 2 := ⟨n - 2, by omega⟩
    rw [ok_X11_greatestDivisor_L9_s, F_X11_greatestDivisor_L9_s, if_neg (le_lit (K := 200) 200 rfl (by omega) (by decide))]
    by_cases h0 : b = 0
    · subst h0
      rw [if_pos ((lg0 hb).mpr rfl), Nat.gcd_zero_right]
      exact ⟨fun _ q => absurd ((lg0 hb).mpr rfl) q, rfl⟩
    · have hr := Nat.mod_lt a (by omega : b > 0)
      rw [if_neg (fun q => h0 ((lg0 hb).mp q)), pk_lRem ha (by omega) hb, gcd_step, nI_1]
      refine (fun (q : _ ∧ _) => ⟨fun _ _ => ⟨lN_ne0 hb (by omega), q.1⟩, q.2⟩) ?_
      rw [ok_X11_greatestDivisor_L9_s, F_X11_greatestDivisor_L9_s, if_neg (le_lit (K := 200) 200 rfl (by omega) (by decide))]
      by_cases h1 : a % b = 0
      · rw [h1, if_pos ((lg0 (by decide)).mpr rfl), Nat.gcd_zero_right]
        exact ⟨fun _ q => absurd ((lg0 (by decide)).mpr rfl) q, rfl⟩
      · have hh := mod_half (by omega : 0 < a % b) hr
        have hr2 := Nat.mod_lt b (by omega : a % b > 0)
        rw [if_neg (fun q => h1 ((lg0 (by omega)).mp q)), pk_lRem hb (by omega) (by omega), gcd_step, nI_1]
        obtain ⟨g1, g2⟩ := gd_loop m n (i + 1 + 1) (a % b) (b % (a % b)) (by omega) (by omega) (by rw [Nat.pow_succ] at hm; omega) (by omega) (by omega)
        exact ⟨fun _ _ => ⟨lN_ne0 (by omega) (by omega), g1⟩, g2⟩
def frc (x y : Nat) (u : Int32) : Nat := (if u = 0 then y else x) / Nat.gcd x y
theorem frc_scale {x y c : Nat} (hc : 0 < c) (u : Int32) : frc (x * c) (y * c) u = frc x y u := by
  unfold frc
  rw [Nat.gcd_mul_right]
  by_cases h : u = 0
  · rw [if_pos h, if_pos h, Nat.mul_div_mul_right _ _ hc]
  · rw [if_neg h, if_neg h, Nat.mul_div_mul_right _ _ hc]
theorem frc_eq {x y x' y' : Nat} (hy : 0 < y) (hy' : 0 < y') (e : y' * x = y * x') (u : Int32) : frc x y u = frc x' y' u := by
  rw [← frc_scale hy' u, ← frc_scale (x := x') hy u, Nat.mul_comm x, e, Nat.mul_comm y x', Nat.mul_comm y y']
theorem told_Y {x y : Nat} (hx : x < 2 ^ 63) (hy : y < 2 ^ 63) (h0 : 0 < y) (u : Int32) : ok_X12_told (lN x) (lN y) u ∧ F_X12_told (lN x) (lN y) u = lN (frc x y u) := by
  obtain ⟨g1, g2⟩ := told_loop 63 FU x y hx hy hy (by have := FU_ge; omega)
  have hg : 0 < Nat.gcd x y := Nat.gcd_pos_of_pos_right _ h0
  have hg2 : Nat.gcd x y < 2 ^ 63 := Nat.lt_of_le_of_lt (Nat.le_of_dvd h0 (Nat.gcd_dvd_right x y)) hy
  have hn := lN_ne0 hg2 hg
  unfold ok_X12_told F_X12_told
  rw [g2]
  dsimp only
  unfold ok_X12_told_b31 F_X12_told_b31 frc
  rw [pk_lDiv hy hg hg2, pk_lDiv hx hg hg2]
  refine ⟨⟨g1, fun _ => hn, fun _ => hn⟩, ?_⟩
  by_cases h : u = 0
  · rw [if_pos h, if_pos h]
  · rw [if_neg h, if_neg h]
theorem frac_X {x y : Nat} (hx : x < 2 ^ 63) (hy : y < 2 ^ 63) (h0 : 0 < y) (u : Int32) : ok_X11_fraction (lN x) (lN y) ∧ F_X11_fraction (lN x) (lN y) u = lN (frc x y u) := by
  obtain ⟨g1, g2⟩ := gd_loop 63 FU 0 x y hx hy hy (by have := FU_ge; omega) (by decide)
  have hg : 0 < Nat.gcd x y := Nat.gcd_pos_of_pos_right _ h0
  have hg2 : Nat.gcd x y < 2 ^ 63 := Nat.lt_of_le_of_lt (Nat.le_of_dvd h0 (Nat.gcd_dvd_right x y)) hy
  have hn := lN_ne0 hg2 hg
  have g3 : F_X11_greatestDivisor (lN x) (lN y) = lN (Nat.gcd x y) := by
    unfold F_X11_greatestDivisor F_X11_greatestDivisor_b45
    exact g2
  unfold ok_X11_fraction F_X11_fraction frc
  rw [g3, if_neg (fun q => by have := (lg0 hg2).mp q; omega)]
  refine ⟨⟨g1, fun _ => hn⟩, ?_⟩
  by_cases h : u = 0
  · rw [if_pos h, if_pos h, pk_lDiv hy hg hg2]
  · rw [if_neg h, if_neg h, pk_lDiv hx hg hg2]
/-! sums of the middle, small -/
theorem su_le {F G : Nat → Nat} : ∀ {n}, (∀ i, i < n → F i ≤ G i) → su F n ≤ su G n
  | 0, _ => Nat.le_refl _
  | n + 1, h => by
    have h1 := su_le (n := n) (fun i hi => h i (by omega))
    have h2 := h n (by omega)
    rw [su, su]; omega
theorem wB_le {g : Nat} (hg : g ≤ 10) : ∀ k b, wB g k b ≤ 10 ^ k
  | 0, b => Nat.le_refl _
  | k + 1, b => by
    have h := wB_le hg k (b / 2)
    rw [wB, Nat.pow_succ, Nat.mul_comm]
    apply Nat.mul_le_mul h
    split <;> omega
/-- the class's sums -/
def SC (c : Cl) (A : Nat → Nat) (k : Nat) (φ : Zt → Nat → Nat) (u : Nat) (n : Nat) : Nat := su (fun b => wB (kG c) 5 b * φ (wz c A (fgC c A k b) k u) (wT c A (fgC c A k b) k u)) n
/-- the reference's -/
def SR (c : Cl) (A : Nat → Nat) (k : Nat) (φ : Zt → Nat → Nat) (u : Nat) (n : Nat) : Nat := su (fun b => pw c A (fgR b) k u * φ (wz c A (fgR b) k u) (wT c A (fgR b) k u)) n
theorem SC_le {c : Cl} (w : WF c) {A : Nat → Nat} {k u M : Nat} {φ : Zt → Nat → Nat} (hφ : ∀ G : Nat → Bool, φ (wz c A G k u) (wT c A G k u) ≤ M) : SC c A k φ u 32 ≤ M * 100000 := by
  have hg := w.g9
  unfold SC
  have h : su (fun b => wB (kG c) 5 b * φ (wz c A (fgC c A k b) k u) (wT c A (fgC c A k b) k u)) 32 ≤ su (fun b => M * wB (kG c) 5 b) 32 := su_le (fun b _ => by
    rw [Nat.mul_comm]
    exact Nat.mul_le_mul_right _ (hφ _))
  rw [su_mul] at h
  have e : su (wB (kG c) 5) 32 = 100000 := wB_sum (g := kG c) (by omega) 5
  have e2 : su (fun b => wB (kG c) 5 b) 32 = su (wB (kG c) 5) 32 := rfl
  rw [e2, e] at h
  exact h
theorem SC_SR {c : Cl} (w : WF c) {A : Nat → Nat} {k u : Nat} (hk : Bg c k) (hu : u ≤ 10) (φ : Zt → Nat → Nat) : 10 ^ u * SC c A k φ u 32 = 100000 * SR c A k φ u (2 ^ u) := by
  unfold SC SR
  rw [ch_X w φ hk hu, ch_Y]
def phS : Zt → Nat → Nat := fun _ t => t
def phD : Zt → Nat → Nat := fun _ t => if t = 0 then 1 else 0
def phK (κ : Nat) : Zt → Nat → Nat := fun z _ => if z.1 = κ then 1 else 0
theorem SR_lt {c : Cl} (w : WF c) {A : Nat → Nat} {k u : Nat} (hk : Bg c k) (hu : u ≤ 10) {φ : Zt → Nat → Nat} (hφ : ∀ G : Nat → Bool, φ (wz c A G k u) (wT c A G k u) ≤ 80) : SR c A k φ u (2 ^ u) < 2 ^ 63 := by
  have h1 := SC_SR w hk hu φ (A := A)
  have h2 := SC_le w (A := A) (k := k) (u := u) hφ
  have h3 : 10 ^ u ≤ 10 ^ 10 := Nat.pow_le_pow_right (by decide) hu
  have h4 : 10 ^ u * SC c A k φ u 32 ≤ 10 ^ 10 * (80 * 100000) := Nat.mul_le_mul h3 h2
  rw [h1] at h4
  omega

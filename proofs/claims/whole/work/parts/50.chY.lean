/-! forgetting, by the reference -/
section CY1
variable {c : Cl} {se ow : Int32} {wh fr to th mi ri op sh ho : Nat → Int32}
theorem fo_loop (R : RY c se ow wh fr to th mi ri op sh ho) {ac : Nat → Int32} {A : Nat → Nat} {r : Nat} (hr3 : r ≤ 3) (hA : ∀ h, h < 10 → ac (10 * r + h) = nI (A h) ∧ A h ≤ 5) {k b u : Nat} (hk : Bg c k) (hu : u ≤ 10) : ∀ n h d s m, h ≤ u → u < h + n →
    ok_X12_forgetting_L11 (nI (kG c)) se ow wh fr to th mi ri op sh ho ac (nI r) (nI b) (nI u) n (nI (wz c A (fgR b) k h).1) (wz c A (fgR b) k h).2.1 (wz c A (fgR b) k h).2.2 (nI (wW c A (fgR b) k h)) (nI (wR c A (fgR b) k h)) (nI (wT c A (fgR b) k h)) d s m (lN (pw c A (fgR b) k h)) (nI h) ∧
    ∃ d' s' m', F_X12_forgetting_L11 (nI (kG c)) se ow wh fr to th mi ri op sh ho ac (nI r) (nI b) (nI u) n (nI (wz c A (fgR b) k h).1) (wz c A (fgR b) k h).2.1 (wz c A (fgR b) k h).2.2 (nI (wW c A (fgR b) k h)) (nI (wR c A (fgR b) k h)) (nI (wT c A (fgR b) k h)) d s m (lN (pw c A (fgR b) k h)) (nI h) =
      (nI (wz c A (fgR b) k u).1, (wz c A (fgR b) k u).2.1, (wz c A (fgR b) k u).2.2, nI (wW c A (fgR b) k u), nI (wR c A (fgR b) k u), nI (wT c A (fgR b) k u), d', s', m', lN (pw c A (fgR b) k u)) := by
  have wf := R.1
  have hg := wf.g9
  intro n
  induction n with
  | zero => intro h d s m h1 h2; omega
  | succ n ih =>
    intro h d s m h1 h2
    rw [ok_X12_forgetting_L11_s, F_X12_forgetting_L11_s]
    by_cases h10 : h = u
    · subst h10
      rw [if_pos (Int32.le_refl _)]
      exact ⟨fun q => absurd (Int32.le_refl _) q, d, s, m, rfl⟩
    · have hh : h < 10 := by omega
      obtain ⟨a1, a2⟩ := hA h hh
      have ei : (10 : Int32) * nI r + nI h = nI (10 * r + h) := by rw [show (10 : Int32) * nI r = nI (10 * r) from pk_mul 10 r, nI_add]
      have ey : (if ((nI b >>> (nI h &&& (31 : Int32))) &&& (1 : Int32)) = (1 : Int32) then (1 : Int32) else (0 : Int32)) = bI (fgR b h) := by
        rw [tst_if1 (by omega), bt_nI (by omega)]
        unfold fgR
        cases b.testBit h <;> rfl
      have hf : fgR b h = decide (¬ bI (fgR b h) = 0) := by cases fgR b h <;> rfl
      obtain ⟨p1, p2⟩ := ps_Y R hh a2 (wz_ZI (A := A) (g := fgR b) wf hk h) (nI (wW c A (fgR b) k h)) (nI (wR c A (fgR b) k h)) (nI (wT c A (fgR b) k h)) (bI (fgR b h)) (fgR b h) hf
      rw [if_neg (nI_ge (by omega) (by omega)), ei, nI_clamp (by omega), a1, ey, p2]
      dsimp only
      unfold ok_X12_forgetting_11_b55 F_X12_forgetting_11_b55
      dsimp only
      unfold ok_X12_forgetting_11_b104 F_X12_forgetting_11_b104
      have ew : (if bI (zm c h (A h) (fgR b h) (wz c A (fgR b) k h)) = (0 : Int32) then (if bI (fgR b h) = (0 : Int32) then (10 : Int64) else (0 : Int64)) else (if bI (fgR b h) = (0 : Int32) then ((10 : Int32) - nI (kG c)).toInt64 else (nI (kG c)).toInt64)) = lN (wt (kG c) (zm c h (A h) (fgR b h) (wz c A (fgR b) k h)) (fgR b h)) := by
        rw [show (10 : Int32) - nI (kG c) = nI (10 - kG c) from pk_sub (a := 10) (by omega), nI_l (by omega), nI_l (by omega)]
        unfold wt
        cases zm c h (A h) (fgR b h) (wz c A (fgR b) k h) <;> cases fgR b h <;> rfl
      rw [ew, lN_mul, nI_1, nI_add, nI_add, nI_add]
      obtain ⟨g1, d', s', m', g2⟩ := ih (h + 1) (bI (za c h (A h) (fgR b h) (wz c A (fgR b) k h))) (zS c h (wz c A (fgR b) k h)) (bI (zm c h (A h) (fgR b h) (wz c A (fgR b) k h))) (by omega) (by omega)
      exact ⟨fun _ => ⟨vp_in_nI (by omega) (by decide), p1, g1⟩, d', s', m', g2⟩
theorem fo_Y (R : RY c se ow wh fr to th mi ri op sh ho) {ac : Nat → Int32} {A : Nat → Nat} {r : Nat} (hr3 : r ≤ 3) (hA : ∀ h, h < 10 → ac (10 * r + h) = nI (A h) ∧ A h ≤ 5) {k b u : Nat} (hk : Bg c k) (hu : u ≤ 10) (d s m : Int32) :
    ok_X12_forgetting (nI (kG c)) se ow d s m wh fr to th mi ri op sh ho ac (nI r) (nI k) (nI b) (nI u) ∧
    ∃ d' s' m', F_X12_forgetting (nI (kG c)) se ow d s m wh fr to th mi ri op sh ho ac (nI r) (nI k) (nI b) (nI u) =
      (lN (pw c A (fgR b) k u), nI (wz c A (fgR b) k u).1, (wz c A (fgR b) k u).2.1, (wz c A (fgR b) k u).2.2, nI (wW c A (fgR b) k u), nI (wR c A (fgR b) k u), nI (wT c A (fgR b) k u), d', s', m') := by
  obtain ⟨g1, d', s', m', g2⟩ := fo_loop R hr3 hA (b := b) hk hu FU 0 d s m (Nat.zero_le _) (by have := FU_ge; omega)
  refine ⟨g1, d', s', m', ?_⟩
  unfold F_X12_forgetting F_X12_start
  dsimp only
  unfold F_X12_forgetting_b5
  have g2' : F_X12_forgetting_L11 (nI (kG c)) se ow wh fr to th mi ri op sh ho ac (nI r) (nI b) (nI u) FU (nI k) 0 0 0 0 0 d s m 1 0 = (nI (wz c A (fgR b) k u).1, (wz c A (fgR b) k u).2.1, (wz c A (fgR b) k u).2.2, nI (wW c A (fgR b) k u), nI (wR c A (fgR b) k u), nI (wT c A (fgR b) k u), d', s', m', lN (pw c A (fgR b) k u)) := g2
  rw [g2']
  rfl
theorem ex_loop (R : RY c se ow wh fr to th mi ri op sh ho) {ac : Nat → Int32} {A : Nat → Nat} {r : Nat} (hr3 : r ≤ 3) (hA : ∀ h, h < 10 → ac (10 * r + h) = nI (A h) ∧ A h ≤ 5) {k : Nat} (hk : Bg c k) (x : Int32) (φ : Zt → Nat → Nat) (hφ : (x = 0 ∧ φ = phD) ∨ (¬ x = 0 ∧ φ = phS)) : ∀ n b, b ≤ 1024 → 1024 < b + n → ∀ (w1 w2 w3 w4 w5 w6 w7 w8 w9 : Int32),
    ok_X12_expect_L6 (nI (kG c)) se ow wh fr to th mi ri op sh ho ac (nI r) (nI k) x n w1 w2 w3 w4 w5 w6 w7 w8 w9 (lN (SR c A k φ 10 b)) (nI b) ∧
    ∃ (v1 v2 v3 v4 v5 v6 v7 v8 v9 : Int32), F_X12_expect_L6 (nI (kG c)) se ow wh fr to th mi ri op sh ho ac (nI r) (nI k) x n w1 w2 w3 w4 w5 w6 w7 w8 w9 (lN (SR c A k φ 10 b)) (nI b) = (v1, v2, v3, v4, v5, v6, v7, v8, v9, lN (SR c A k φ 10 1024)) := by
  intro n
  induction n with
  | zero => intro b h1 h2; omega
  | succ n ih =>
    intro b h1 h2 w1 w2 w3 w4 w5 w6 w7 w8 w9
    rw [ok_X12_expect_L6_s, F_X12_expect_L6_s]
    by_cases h : b = 1024
    · subst h
      rw [if_pos (show (1024 : Int32) ≤ nI 1024 by decide)]
      exact ⟨fun q => absurd (by decide) q, w1, w2, w3, w4, w5, w6, w7, w8, w9, rfl⟩
    · obtain ⟨f1, d', s', m', f2⟩ := fo_Y R hr3 hA (b := b) hk (u := 10) (by decide) w7 w8 w9
      have f2' : F_X12_forgetting (nI (kG c)) se ow w7 w8 w9 wh fr to th mi ri op sh ho ac (nI r) (nI k) (nI b) 10 = (lN (pw c A (fgR b) k 10), nI (wz c A (fgR b) k 10).1, (wz c A (fgR b) k 10).2.1, (wz c A (fgR b) k 10).2.2, nI (wW c A (fgR b) k 10), nI (wR c A (fgR b) k 10), nI (wT c A (fgR b) k 10), d', s', m') := f2
      rw [if_neg (le_lit (K := 1024) 1024 rfl (by omega) (by decide)), f2']
      dsimp only
      unfold ok_X12_expect_6_b24 F_X12_expect_6_b24
      have hT := wT_le c A (fgR b) k 10
      have es : lN (SR c A k φ 10 b) + (if x = 0 then (if nI (wT c A (fgR b) k 10) = 0 then lN (pw c A (fgR b) k 10) else 0) else lN (pw c A (fgR b) k 10) * (nI (wT c A (fgR b) k 10)).toInt64) = lN (SR c A k φ 10 (b + 1)) := by
        have e0 : SR c A k φ 10 (b + 1) = SR c A k φ 10 b + pw c A (fgR b) k 10 * φ (wz c A (fgR b) k 10) (wT c A (fgR b) k 10) := rfl
        rw [e0, ← lN_add]
        congr 1
        rcases hφ with ⟨q1, q2⟩ | ⟨q1, q2⟩
        · rw [if_pos q1, q2]
          show _ = lN (pw c A (fgR b) k 10 * (if wT c A (fgR b) k 10 = 0 then 1 else 0))
          by_cases q : wT c A (fgR b) k 10 = 0
          · rw [q, if_pos (show nI 0 = (0 : Int32) from rfl), if_pos rfl, Nat.mul_one]
          · rw [if_neg (nI_ne0 (by omega) (by omega)), if_neg q, Nat.mul_zero]; rfl
        · rw [if_neg q1, q2, nI_l (by omega), lN_mul]; rfl
      rw [es, nI_1]
      obtain ⟨g1, g2⟩ := ih (b + 1) (by omega) (by omega) (nI (wz c A (fgR b) k 10).1) (wz c A (fgR b) k 10).2.1 (wz c A (fgR b) k 10).2.2 (nI (wW c A (fgR b) k 10)) (nI (wR c A (fgR b) k 10)) (nI (wT c A (fgR b) k 10)) d' s' m'
      exact ⟨fun _ => ⟨f1, g1⟩, g2⟩
theorem ex_Y (R : RY c se ow wh fr to th mi ri op sh ho) {ac : Nat → Int32} {A : Nat → Nat} {r : Nat} (hr3 : r ≤ 3) (hA : ∀ h, h < 10 → ac (10 * r + h) = nI (A h) ∧ A h ≤ 5) {k : Nat} (hk : Bg c k) (x : Int32) (φ : Zt → Nat → Nat) (hφ : (x = 0 ∧ φ = phD) ∨ (¬ x = 0 ∧ φ = phS)) (w1 w2 w3 w4 w5 w6 w7 w8 w9 : Int32) :
    ok_X12_expect (nI (kG c)) se ow w1 w2 w3 w4 w5 w6 w7 w8 w9 wh fr to th mi ri op sh ho ac (nI r) (nI k) x ∧
    ∃ (v1 v2 v3 v4 v5 v6 v7 v8 v9 : Int32), F_X12_expect (nI (kG c)) se ow w1 w2 w3 w4 w5 w6 w7 w8 w9 wh fr to th mi ri op sh ho ac (nI r) (nI k) x = (lN (SR c A k φ 10 1024), v1, v2, v3, v4, v5, v6, v7, v8, v9) := by
  obtain ⟨g1, v1, v2, v3, v4, v5, v6, v7, v8, v9, g2⟩ := ex_loop R hr3 hA hk x φ hφ FU 0 (by decide) (by have := FU_ge; omega) w1 w2 w3 w4 w5 w6 w7 w8 w9
  refine ⟨g1, v1, v2, v3, v4, v5, v6, v7, v8, v9, ?_⟩
  unfold F_X12_expect
  have g2' : F_X12_expect_L6 (nI (kG c)) se ow wh fr to th mi ri op sh ho ac (nI r) (nI k) x FU w1 w2 w3 w4 w5 w6 w7 w8 w9 0 0 = (v1, v2, v3, v4, v5, v6, v7, v8, v9, lN (SR c A k φ 10 1024)) := g2
  rw [g2']
  rfl
theorem tens_loop {u : Nat} (hu : u ≤ 10) : ∀ n i, i ≤ u → u < i + n → ok_X12_tens_L4 (nI u) n (lN (10 ^ i)) (nI i) ∧ F_X12_tens_L4 (nI u) n (lN (10 ^ i)) (nI i) = lN (10 ^ u) := by
  intro n
  induction n with
  | zero => intro i h1 h2; omega
  | succ n ih =>
    intro i h1 h2
    rw [ok_X12_tens_L4_s, F_X12_tens_L4_s]
    by_cases h : i = u
    · subst h
      rw [if_pos (Int32.le_refl _)]
      exact ⟨fun q => absurd (Int32.le_refl _) q, rfl⟩
    · rw [if_neg (nI_ge (by omega) (by omega)), show lN (10 ^ i) * (10 : Int64) = lN (10 ^ i * 10) from lN_mul _ 10, ← Nat.pow_succ, nI_1]
      obtain ⟨g1, g2⟩ := ih (i + 1) (by omega) (by omega)
      exact ⟨fun _ => g1, g2⟩
theorem tens_Y {u : Nat} (hu : u ≤ 10) : ok_X12_tens (nI u) ∧ F_X12_tens (nI u) = lN (10 ^ u) :=
  tens_loop hu FU 0 (Nat.zero_le _) (by have := FU_ge; omega)
theorem shl1 : ∀ h, h < 10 → (1 : Int32) <<< (nI h &&& 31) = nI (2 ^ h) := by decide +kernel
theorem lc_loop (R : RY c se ow wh fr to th mi ri op sh ho) {ac : Nat → Int32} {A : Nat → Nat} {r : Nat} (hr3 : r ≤ 3) (hA : ∀ h, h < 10 → ac (10 * r + h) = nI (A h) ∧ A h ≤ 5) {k hr : Nat} (hk : Bg c k) (hh : hr < 10) : ∀ n b, b ≤ 2 ^ hr → 2 ^ hr < b + n → ∀ (w1 w2 w3 w4 w5 w6 w7 w8 w9 : Int32) (K : Nat → Int64), (∀ κ, κ < 32 → K κ = lN (SR c A k (phK κ) hr b)) →
    ok_X12_layChances_L27 (nI (kG c)) se ow wh fr to th mi ri op sh ho ac (nI r) (nI k) (nI hr) n w1 w2 w3 w4 w5 w6 w7 w8 w9 K (nI b) ∧
    ∃ (v1 v2 v3 v4 v5 v6 v7 v8 v9 : Int32) (K' : Nat → Int64), F_X12_layChances_L27 (nI (kG c)) se ow wh fr to th mi ri op sh ho ac (nI r) (nI k) (nI hr) n w1 w2 w3 w4 w5 w6 w7 w8 w9 K (nI b) = (v1, v2, v3, v4, v5, v6, v7, v8, v9, K') ∧ (∀ κ, κ < 32 → K' κ = lN (SR c A k (phK κ) hr (2 ^ hr))) := by
  have wf := R.1
  have hp : 2 ^ hr ≤ 2 ^ 10 := Nat.pow_le_pow_right (by decide) (by omega)
  intro n
  induction n with
  | zero => intro b h1 h2; omega
  | succ n ih =>
    intro b h1 h2 w1 w2 w3 w4 w5 w6 w7 w8 w9 K hK
    rw [ok_X12_layChances_L27_s, F_X12_layChances_L27_s, shl1 hr hh]
    by_cases h : b = 2 ^ hr
    · rw [if_pos (by rw [h]; exact Int32.le_refl _)]
      rw [h] at hK
      exact ⟨fun q => absurd (by rw [h]; exact Int32.le_refl _) q, w1, w2, w3, w4, w5, w6, w7, w8, w9, K, rfl, hK⟩
    · obtain ⟨f1, d', s', m', f2⟩ := fo_Y R hr3 hA (b := b) hk (u := hr) (by omega) w7 w8 w9
      have hN := wf.n6
      have hk32 : (wz c A (fgR b) k hr).1 < 32 := by
        rcases (wz_ZI wf (A := A) (g := fgR b) hk hr).1 with q | ⟨q, -⟩
        · have := q.lt16 wf; omega
        · omega
      rw [if_neg (nI_ge (by omega) (by omega)), f2]
      dsimp only
      unfold ok_X12_layChances_27_b44 F_X12_layChances_27_b44
      rw [nI_clamp (by omega), hK _ hk32, lN_add, nI_1]
      have hK' : ∀ κ, κ < 32 → vp_updL K (wz c A (fgR b) k hr).1 (lN (SR c A k (phK (wz c A (fgR b) k hr).1) hr b + pw c A (fgR b) k hr)) κ = lN (SR c A k (phK κ) hr (b + 1)) := by
        intro κ hκ
        have e0 : SR c A k (phK κ) hr (b + 1) = SR c A k (phK κ) hr b + pw c A (fgR b) k hr * (if (wz c A (fgR b) k hr).1 = κ then 1 else 0) := rfl
        by_cases q : κ = (wz c A (fgR b) k hr).1
        · rw [e0, if_pos q.symm, ← q, pk_uLs, Nat.mul_one]
        · rw [e0, if_neg (fun q2 => q q2.symm), pk_uLn q, hK κ hκ, Nat.mul_zero, Nat.add_zero]
      have hin : vp_in (nI (wz c A (fgR b) k hr).1) 32 := vp_in_nI hk32 (by decide)
      obtain ⟨g1, g2⟩ := ih (b + 1) (by omega) (by omega) (nI (wz c A (fgR b) k hr).1) (wz c A (fgR b) k hr).2.1 (wz c A (fgR b) k hr).2.2 (nI (wW c A (fgR b) k hr)) (nI (wR c A (fgR b) k hr)) (nI (wT c A (fgR b) k hr)) d' s' m' _ hK'
      exact ⟨fun _ => ⟨f1, hin, hin, g1⟩, g2⟩
theorem lc_Y (R : RY c se ow wh fr to th mi ri op sh ho) {ac : Nat → Int32} {A : Nat → Nat} {r : Nat} (hr3 : r ≤ 3) (hA : ∀ h, h < 10 → ac (10 * r + h) = nI (A h) ∧ A h ≤ 5) {k hr : Nat} (hk : Bg c k) (hh : hr < 10) (w1 w2 w3 w4 w5 w6 w7 w8 w9 : Int32) (K : Nat → Int64) :
    ok_X12_layChances (nI (kG c)) se ow w1 w2 w3 w4 w5 w6 w7 w8 w9 wh fr to th mi ri op sh ho ac K (nI r) (nI k) (nI hr) ∧
    ∃ (v1 v2 v3 v4 v5 v6 v7 v8 v9 : Int32) (K' : Nat → Int64), F_X12_layChances (nI (kG c)) se ow w1 w2 w3 w4 w5 w6 w7 w8 w9 wh fr to th mi ri op sh ho ac K (nI r) (nI k) (nI hr) = (v1, v2, v3, v4, v5, v6, v7, v8, v9, K') ∧ (∀ κ, κ < 32 → K' κ = lN (SR c A k (phK κ) hr (2 ^ hr))) := by
  have hp : 2 ^ hr ≤ 2 ^ 10 := Nat.pow_le_pow_right (by decide) (by omega)
  have hfill := flL_loop (fun n f v => F_X12_layChances_L3 n f v) 32 0
    (fun n f i hi => by rw [F_X12_layChances_L3_s, if_neg (le_lit (K := 32) 32 rfl hi (by decide)), nI_1, nI_clamp (by omega)])
    (fun n f => by rw [F_X12_layChances_L3_s, if_pos (le_self (K := 32) 32 rfl)]) FU 0 K (Nat.zero_le _) (by have := FU_ge; omega)
  have hfill' : F_X12_layChances_L3 FU K 0 = fun j => if 0 ≤ j ∧ j < 32 then 0 else K j := hfill
  have hfok : ok_X12_layChances_L3 FU K 0 := ok_all (fun n f v => ok_X12_layChances_L3 n f v) 32 (by decide) (fun _ _ => True) (fun n s i hi _ h => by rw [ok_X12_layChances_L3_s]; intro _; refine ⟨vp_in_nI hi (by decide), ?_⟩; rw [nI_1]; exact h _ trivial) (fun n s _ => by rw [ok_X12_layChances_L3_s]; intro h; exact absurd (le_self (K := 32) 32 rfl) h) K trivial
  obtain ⟨g1, v1, v2, v3, v4, v5, v6, v7, v8, v9, K', g2, g3⟩ := lc_loop R hr3 hA hk hh FU 0 (Nat.zero_le _) (by have := FU_ge; omega) w1 w2 w3 w4 w5 w6 w7 w8 w9 (fun j => if 0 ≤ j ∧ j < 32 then 0 else K j) (fun κ hκ => by
    rw [if_pos ⟨Nat.zero_le _, hκ⟩]; rfl)
  unfold ok_X12_layChances F_X12_layChances
  rw [hfill']
  dsimp only
  unfold ok_X12_layChances_b24 F_X12_layChances_b24
  have g2' : F_X12_layChances_L27 (nI (kG c)) se ow wh fr to th mi ri op sh ho ac (nI r) (nI k) (nI hr) FU w1 w2 w3 w4 w5 w6 w7 w8 w9 (fun j => if 0 ≤ j ∧ j < 32 then 0 else K j) 0 = (v1, v2, v3, v4, v5, v6, v7, v8, v9, K') := g2
  rw [g2']
  exact ⟨⟨hfok, g1⟩, v1, v2, v3, v4, v5, v6, v7, v8, v9, K', rfl, g3⟩
end CY1

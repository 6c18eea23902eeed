/-! forgetting: the two ways to sum -/
def su (F : Nat → Nat) : Nat → Nat
  | 0 => 0
  | n + 1 => su F n + F n
theorem su_congr {F G : Nat → Nat} : ∀ {n}, (∀ i, i < n → F i = G i) → su F n = su G n
  | 0, _ => rfl
  | n + 1, h => by rw [su, su, su_congr (fun i hi => h i (by omega)), h n (by omega)]
theorem su_add (F G : Nat → Nat) : ∀ n, su (fun i => F i + G i) n = su F n + su G n
  | 0 => rfl
  | n + 1 => by
    rw [su, su, su, su_add F G n]
    omega
theorem su_mul (a : Nat) (F : Nat → Nat) : ∀ n, su (fun i => a * F i) n = a * su F n
  | 0 => rfl
  | n + 1 => by rw [su, su, su_mul a F n, Nat.mul_add]
theorem su_two (F : Nat → Nat) : ∀ n, su F (2 * n) = su (fun i => F (2 * i) + F (2 * i + 1)) n
  | 0 => rfl
  | n + 1 => by
    rw [show 2 * (n + 1) = 2 * n + 1 + 1 by omega, su, su, su, su_two F n]
    omega
def wB (g : Nat) : Nat → Nat → Nat
  | 0, _ => 1
  | k + 1, b => (if b % 2 = 1 then g else 10 - g) * wB g k (b / 2)
theorem wB_even (g k i : Nat) : wB g (k + 1) (2 * i) = (10 - g) * wB g k i := by
  rw [wB, if_neg (by omega), show 2 * i / 2 = i by omega]
theorem wB_odd (g k i : Nat) : wB g (k + 1) (2 * i + 1) = g * wB g k i := by
  rw [wB, if_pos (by omega), show (2 * i + 1) / 2 = i by omega]
theorem wB_sum {g : Nat} (hg : g ≤ 10) : ∀ k, su (wB g k) (2 ^ k) = 10 ^ k
  | 0 => rfl
  | k + 1 => by
    rw [Nat.pow_succ, Nat.mul_comm, su_two, su_congr (G := fun i => 10 * wB g k i) (fun i _ => by rw [wB_even, wB_odd, ← Nat.add_mul]; congr 1; omega), su_mul, wB_sum hg k, Nat.pow_succ, Nat.mul_comm]
theorem hq_cases (c : Cl) (h k : Nat) (i : Int32) : (∃ r : Nat × Nat × Bool × Bool, r.2.2.1 = false ∧ r.2.2.2 = false ∧ ∀ a fg, hq c h a fg k i = r) ∨
    (∃ s, s < kS c ∧ k = 20 ∧ i &&& (fin c h ^^^ (-1)) = 0 ∧ fa c ((h + 1) % 10) = none ∧ ∀ a fg, hq c h a fg k i = ((lv c h a fg s).1, (lv c h a fg s).2, true, may c h a)) := by
  by_cases hA : k = 20 ∧ i &&& (fin c h ^^^ (-1)) = 0
  · cases e : fa c ((h + 1) % 10) with
    | some s => exact Or.inl ⟨(10 + kW c s, 0, false, false), rfl, rfl, fun a fg => by unfold hq; rw [if_pos hA, e]⟩
    | none =>
      cases e2 : lo (bt (i &&& fin c h)) 0 (kS c) with
      | none => exact Or.inl ⟨(k, 0, false, false), rfl, rfl, fun a fg => by unfold hq; rw [if_pos hA, e, e2]⟩
      | some s => exact Or.inr ⟨s, by have := (lo_some e2).2.1; omega, hA.1, hA.2, rfl, fun a fg => by unfold hq; rw [if_pos hA, e, e2]⟩
  · exact Or.inl ⟨(k, 0, false, false), rfl, rfl, fun a fg => by unfold hq; rw [if_neg hA]⟩
theorem za_ind (c : Cl) (h a a' : Nat) (fg fg' : Bool) (z : Zt) : za c h a fg z = za c h a' fg' z := by
  unfold za zq
  rcases hq_cases c h (zc c h z).1 (zc c h z).2.1 with ⟨r, -, -, e⟩ | ⟨s, -, -, -, -, e⟩
  · rw [e, e]
  · rw [e, e]
theorem zm_ind (c : Cl) (h a : Nat) (fg fg' : Bool) (z : Zt) : zm c h a fg z = zm c h a fg' z := by
  unfold zm zq
  rcases hq_cases c h (zc c h z).1 (zc c h z).2.1 with ⟨r, -, -, e⟩ | ⟨s, -, -, -, -, e⟩
  · rw [e, e]
  · rw [e, e]
theorem zm_za {c : Cl} {h a : Nat} {fg : Bool} {z : Zt} (hm : zm c h a fg z = true) : za c h a fg z = true := by
  unfold zm zq at hm
  unfold za zq
  rcases hq_cases c h (zc c h z).1 (zc c h z).2.1 with ⟨r, -, e1, e⟩ | ⟨s, -, -, -, -, e⟩
  · rw [e, e1] at hm; cases hm
  · rw [e]
theorem zN_na {c : Cl} {h a a' : Nat} {fg fg' : Bool} {z : Zt} (hm : za c h a fg z = false) : zN c h a fg z = zN c h a' fg' z ∧ zw c h a fg z = zw c h a' fg' z := by
  unfold za zq at hm
  unfold zN zw zq
  rcases hq_cases c h (zc c h z).1 (zc c h z).2.1 with ⟨r, -, e1, e⟩ | ⟨s, -, -, -, -, e⟩
  · rw [e, e]; exact ⟨rfl, rfl⟩
  · rw [e] at hm; cases hm
theorem zN_nm {c : Cl} {h a : Nat} {fg fg' : Bool} {z : Zt} (hm : zm c h a fg z = false) : zN c h a fg z = zN c h a fg' z := by
  unfold zm zq at hm
  unfold zN zq
  rcases hq_cases c h (zc c h z).1 (zc c h z).2.1 with ⟨r, -, e1, e⟩ | ⟨s, -, -, -, -, e⟩
  · rw [e, e]
  · rw [e] at hm
    rw [e, e]
    have hm' : may c h a = false := hm
    unfold lv
    rw [hm']
    rfl
/-- nobody is there, nobody comes -/
def Qt (c : Cl) (h : Nat) (z : Zt) : Prop := z.2.1 = 0 ∧ z.2.2 = 0 ∧ beg c h = 0 ∧ ¬ z.1 = 20
theorem Qt_za {c : Cl} {h a : Nat} {fg : Bool} {z : Zt} (q : Qt c h z) : za c h a fg z = false := by
  obtain ⟨q1, q2, q3, q4⟩ := q
  have e : zc c h z = (z.1, z.2.1, z.2.2 ||| beg c h, 0) := by
    unfold zc cin
    rw [if_pos q1]
    have : opr c h z.1 (z.2.2 ||| beg c h) = none := by
      cases e : opr c h z.1 (z.2.2 ||| beg c h) with
      | none => rfl
      | some s =>
        obtain ⟨-, hb, -⟩ := opr_some e
        rw [q2, q3, b_or, b_0] at hb
        cases hb
    rw [this]
  unfold za zq hq
  rw [e, if_neg (fun q => q4 q.1)]
theorem za_Qt {c : Cl} (w : WF c) {h a : Nat} {fg : Bool} {z : Zt} (hz : ZI c z) (ha : za c h a fg z = true) (hh : h + 1 < 10) : Qt c (h + 1) (zN c h a fg z) := by
  unfold za zq at ha
  rcases hq_cases c h (zc c h z).1 (zc c h z).2.1 with ⟨r, e1, -, e⟩ | ⟨s, hs, h20, hi, hf, e⟩
  · rw [e, e1] at ha; cases ha
  · have hB := lv_Bg w (h := h) (a := a) (fg := fg) hs
    have hne : ¬ (zN c h a fg z).1 = 20 := by
      show ¬ (zq c h a fg z).1 = 20
      unfold zq
      rw [e]
      show ¬ (lv c h a fg s).1 = 20
      have := hB.lt16 w
      omega
    refine ⟨hi, ?_, ?_, hne⟩
    · show (zc c h z).2.2.1 &&& (fin c h ^^^ (-1)) = 0
      have ho : (zc c h z).2.2.1 = 0 := by
        unfold zc cin at h20 ⊢
        by_cases h0 : z.2.1 = 0
        · rw [if_pos h0] at h20 ⊢
          cases e2 : opr c h z.1 (z.2.2 ||| beg c h) with
          | none =>
            rw [e2] at h20
            exfalso
            have h20' : z.1 = 20 := h20
            rcases hz.1 with hk | ⟨-, hk⟩
            · have := hk.lt16 w; omega
            · exact hk h0
          | some t => rfl
        · rw [if_neg h0]
      rw [ho]
      exact bt_ext (fun i => by rw [b_and, b_0]; rfl)
    · rw [Nat.mod_eq_of_lt hh] at hf
      apply bt_ext
      intro i
      rw [bt_beg w, b_0]
      by_cases q : i < kS c
      · have := fa_none hf q
        simp [this]
      · simp [q]
/-- the tree of all that may be forgotten, in parts of ten to the hours -/
def tr (c : Cl) (A : Nat → Nat) (φ : Zt → Nat → Nat) : Nat → Nat → Zt → Nat → Nat
  | 0, _, z, t => φ z t
  | d + 1, h, z, t => if zm c h (A h) false z = true then kG c * tr c A φ d (h + 1) (zN c h (A h) true z) (t + zn c h z) + (10 - kG c) * tr c A φ d (h + 1) (zN c h (A h) false z) (t + zn c h z) else 10 * tr c A φ d (h + 1) (zN c h (A h) false z) (t + zn c h z)
/-- the class's path -/
def cV (c : Cl) (A : Nat → Nat) (φ : Zt → Nat → Nat) : Nat → Nat → Zt → Nat → Nat → Nat
  | 0, _, z, t, _ => φ z t
  | d + 1, h, z, t, b => cV c A φ d (h + 1) (zN c h (A h) (decide (b % 2 = 1)) z) (t + zn c h z) (if za c h (A h) (decide (b % 2 = 1)) z = true then b / 2 else b)
theorem ch_main {c : Cl} (w : WF c) (A : Nat → Nat) (φ : Zt → Nat → Nat) : ∀ (d h : Nat) (z : Zt) (t k : Nat), h + d ≤ 10 → ZI c z → ((d + 1) / 2 ≤ k ∨ (d / 2 ≤ k ∧ Qt c h z)) → 10 ^ d * su (fun b => wB (kG c) k b * cV c A φ d h z t b) (2 ^ k) = 10 ^ k * tr c A φ d h z t
  | 0, h, z, t, k, _, _, _ => by
    have hg := w.g9
    show 10 ^ 0 * su (fun b => wB (kG c) k b * φ z t) (2 ^ k) = 10 ^ k * φ z t
    rw [Nat.pow_zero, Nat.one_mul, su_congr (G := fun b => φ z t * wB (kG c) k b) (fun b _ => Nat.mul_comm _ _), su_mul, wB_sum (by omega), Nat.mul_comm]
  | d + 1, h, z, t, k, hh, hz, hc => by
    have hg := w.g9
    cases ha : za c h (A h) false z with
    | false =>
      have hm : ¬ zm c h (A h) false z = true := fun q => by rw [zm_za q] at ha; cases ha
      have ih := ch_main w A φ d (h + 1) (zN c h (A h) false z) (t + zn c h z) k (by omega) (zN_ZI w hz) (Or.inl (by omega))
      rw [tr, if_neg hm, su_congr (G := fun b => wB (kG c) k b * cV c A φ d (h + 1) (zN c h (A h) false z) (t + zn c h z) b) (fun b _ => by
        rw [cV, if_neg (by rw [za_ind c h (A h) (A h) _ false z, ha]; decide), (zN_na (a' := A h) (fg' := decide (b % 2 = 1)) ha).1]), Nat.pow_succ, Nat.mul_comm (10 ^ d) 10, Nat.mul_assoc, ih, Nat.mul_left_comm]
    | true =>
      have hk : (d + 1 + 1) / 2 ≤ k := by
        rcases hc with q | ⟨-, q⟩
        · exact q
        · rw [Qt_za q] at ha; cases ha
      obtain ⟨k', rfl⟩ : ∃ k', k = k' + 1 := ⟨k - 1, by omega⟩
      have hcond : ∀ fg, ((d + 1) / 2 ≤ k' ∨ (d / 2 ≤ k' ∧ Qt c (h + 1) (zN c h (A h) fg z))) := by
        intro fg
        cases d with
        | zero => exact Or.inl (by omega)
        | succ d => exact Or.inr ⟨by omega, za_Qt w hz (by rw [za_ind c h (A h) (A h) fg false z]; exact ha) (by omega)⟩
      have i1 := ch_main w A φ d (h + 1) (zN c h (A h) false z) (t + zn c h z) k' (by omega) (zN_ZI w hz) (hcond false)
      have i2 := ch_main w A φ d (h + 1) (zN c h (A h) true z) (t + zn c h z) k' (by omega) (zN_ZI w hz) (hcond true)
      have es : su (fun b => wB (kG c) (k' + 1) b * cV c A φ (d + 1) h z t b) (2 ^ (k' + 1)) = (10 - kG c) * su (fun b => wB (kG c) k' b * cV c A φ d (h + 1) (zN c h (A h) false z) (t + zn c h z) b) (2 ^ k') + kG c * su (fun b => wB (kG c) k' b * cV c A φ d (h + 1) (zN c h (A h) true z) (t + zn c h z) b) (2 ^ k') := by
        rw [Nat.pow_succ, Nat.mul_comm (2 ^ k') 2, su_two, ← su_mul, ← su_mul, ← su_add]
        apply su_congr
        intro i _
        have d0 : decide (2 * i % 2 = 1) = false := decide_eq_false (by omega)
        have d1 : decide ((2 * i + 1) % 2 = 1) = true := decide_eq_true (by omega)
        rw [wB_even, wB_odd, cV, cV, d0, d1, if_pos ha, if_pos (by rw [za_ind c h (A h) (A h) true false z]; exact ha), show 2 * i / 2 = i by omega, show (2 * i + 1) / 2 = i by omega, Nat.mul_assoc, Nat.mul_assoc]
      rw [es]
      generalize su (fun b => wB (kG c) k' b * cV c A φ d (h + 1) (zN c h (A h) false z) (t + zn c h z) b) (2 ^ k') = S1 at i1 ⊢
      cases hm : zm c h (A h) false z with
      | true =>
        generalize su (fun b => wB (kG c) k' b * cV c A φ d (h + 1) (zN c h (A h) true z) (t + zn c h z) b) (2 ^ k') = S2 at i2 ⊢
        rw [tr, if_pos hm]
        generalize tr c A φ d (h + 1) (zN c h (A h) false z) (t + zn c h z) = T1 at i1 ⊢
        generalize tr c A φ d (h + 1) (zN c h (A h) true z) (t + zn c h z) = T2 at i2 ⊢
        generalize 10 - kG c = u
        generalize kG c = v
        have : 10 ^ (d + 1) * (u * S1 + v * S2) = 10 * (u * (10 ^ d * S1) + v * (10 ^ d * S2)) := by
          rw [Nat.pow_succ]
          simp only [Nat.mul_add, Nat.add_mul, Nat.mul_comm, Nat.mul_left_comm, Nat.mul_assoc]
        rw [this, i1, i2, Nat.pow_succ]
        simp only [Nat.mul_add, Nat.add_mul, Nat.mul_comm, Nat.mul_left_comm, Nat.mul_assoc, Nat.add_comm]
      | false =>
        rw [← zN_nm (fg' := true) hm]
        have e2 : su (fun b => wB (kG c) k' b * cV c A φ d (h + 1) (zN c h (A h) false z) (t + zn c h z) b) (2 ^ k') = S1 := by
          have i3 := ch_main w A φ d (h + 1) (zN c h (A h) false z) (t + zn c h z) k' (by omega) (zN_ZI w hz) (hcond false)
          rw [← i1] at i3
          exact Nat.eq_of_mul_eq_mul_left (Nat.pow_pos (by decide)) i3
        rw [e2, tr, if_neg (by rw [hm]; decide), ← Nat.add_mul, show 10 - kG c + kG c = 10 by omega]
        generalize tr c A φ d (h + 1) (zN c h (A h) false z) (t + zn c h z) = T1 at i1 ⊢
        have : 10 ^ (d + 1) * (10 * S1) = 100 * (10 ^ d * S1) := by
          rw [Nat.pow_succ]
          rw [show (100 : Nat) = 10 * 10 from rfl]
          simp only [Nat.mul_comm, Nat.mul_left_comm, Nat.mul_assoc]
        rw [this, i1, Nat.pow_succ, show (100 : Nat) = 10 * 10 from rfl]
        simp only [Nat.mul_comm, Nat.mul_left_comm, Nat.mul_assoc]
theorem cV_cz (c : Cl) (A : Nat → Nat) (φ : Zt → Nat → Nat) (k b : Nat) : ∀ d h, cV c A φ d h (cz c A k b h).1 (wT c A (fgC c A k b) k h) (cz c A k b h).2 = φ (wz c A (fgC c A k b) k (h + d)) (wT c A (fgC c A k b) k (h + d))
  | 0, h => by rw [cV, cz_wz]; rfl
  | d + 1, h => by
    rw [cV]
    have := cV_cz c A φ k b d (h + 1)
    rw [show h + (d + 1) = h + 1 + d by omega, ← this]
    congr 1
    show wT c A (fgC c A k b) k h + zn c h (cz c A k b h).1 = wT c A (fgC c A k b) k h + zn c h (wz c A (fgC c A k b) k h)
    rw [cz_wz]
/-- the class's sum, at an hour -/
theorem ch_X {c : Cl} (w : WF c) {A : Nat → Nat} (φ : Zt → Nat → Nat) {k u : Nat} (hk : Bg c k) (hu : u ≤ 10) : 10 ^ u * su (fun b => wB (kG c) 5 b * φ (wz c A (fgC c A k b) k u) (wT c A (fgC c A k b) k u)) 32 = 100000 * tr c A φ u 0 (k, 0, 0) 0 := by
  have h := ch_main w A φ u 0 (k, 0, 0) 0 5 (by omega) ⟨Or.inl hk, Sb_0 c, Sb_0 c⟩ (Or.inl (by omega))
  rw [show (100000 : Nat) = 10 ^ 5 from rfl, ← h, show (32 : Nat) = 2 ^ 5 from rfl]
  congr 1
  apply su_congr
  intro b _
  have := cV_cz c A φ k b u 0
  rw [Nat.zero_add] at this
  rw [← this]
  rfl
/-- the reference's path -/
def wt (g : Nat) (m y : Bool) : Nat := if m = true then (if y = true then g else 10 - g) else (if y = true then 0 else 10)
def rW (c : Cl) (A : Nat → Nat) (φ : Zt → Nat → Nat) : Nat → Nat → Zt → Nat → Nat → Nat
  | 0, _, z, t, _ => φ z t
  | d + 1, h, z, t, b => wt (kG c) (zm c h (A h) (decide (b % 2 = 1)) z) (decide (b % 2 = 1)) * rW c A φ d (h + 1) (zN c h (A h) (decide (b % 2 = 1)) z) (t + zn c h z) (b / 2)
theorem rW_sum (c : Cl) (A : Nat → Nat) (φ : Zt → Nat → Nat) : ∀ (d h : Nat) (z : Zt) (t : Nat), su (rW c A φ d h z t) (2 ^ d) = tr c A φ d h z t
  | 0, h, z, t => by
    rw [Nat.pow_zero, su, su, Nat.zero_add]
    rfl
  | d + 1, h, z, t => by
    have i1 := rW_sum c A φ d (h + 1) (zN c h (A h) false z) (t + zn c h z)
    have i2 := rW_sum c A φ d (h + 1) (zN c h (A h) true z) (t + zn c h z)
    rw [Nat.pow_succ, Nat.mul_comm (2 ^ d) 2, su_two, su_congr (G := fun i => wt (kG c) (zm c h (A h) false z) false * rW c A φ d (h + 1) (zN c h (A h) false z) (t + zn c h z) i + wt (kG c) (zm c h (A h) false z) true * rW c A φ d (h + 1) (zN c h (A h) true z) (t + zn c h z) i) (fun i _ => by
      have d0 : decide (2 * i % 2 = 1) = false := decide_eq_false (by omega)
      have d1 : decide ((2 * i + 1) % 2 = 1) = true := decide_eq_true (by omega)
      rw [rW, rW, d0, d1, show 2 * i / 2 = i by omega, show (2 * i + 1) / 2 = i by omega, zm_ind c h (A h) true false z]), su_add, su_mul, su_mul, i1, i2, tr]
    unfold wt
    cases hm : zm c h (A h) false z with
    | true =>
      simp only [if_true, if_neg (show ¬ false = true by decide)]
      omega
    | false =>
      simp only [if_true, if_neg (show ¬ false = true by decide)]
      omega
def pw (c : Cl) (A : Nat → Nat) (G : Nat → Bool) (k : Nat) : Nat → Nat
  | 0 => 1
  | h + 1 => pw c A G k h * wt (kG c) (zm c h (A h) (G h) (wz c A G k h)) (G h)
def fgR (b h : Nat) : Bool := b.testBit h
theorem rW_pw (c : Cl) (A : Nat → Nat) (φ : Zt → Nat → Nat) (k b : Nat) : ∀ d h, pw c A (fgR b) k h * rW c A φ d h (wz c A (fgR b) k h) (wT c A (fgR b) k h) (b / 2 ^ h) = pw c A (fgR b) k (h + d) * φ (wz c A (fgR b) k (h + d)) (wT c A (fgR b) k (h + d))
  | 0, h => rfl
  | d + 1, h => by
    have ih := rW_pw c A φ k b d (h + 1)
    have e : decide (b / 2 ^ h % 2 = 1) = fgR b h := (Nat.testBit_eq_decide_div_mod_eq).symm
    rw [show h + (d + 1) = h + 1 + d by omega, ← ih, rW, e, Nat.div_div_eq_div_mul, ← Nat.pow_succ, ← Nat.mul_assoc]
    rfl
/-- the reference's sum, at an hour -/
theorem ch_Y (c : Cl) (A : Nat → Nat) (φ : Zt → Nat → Nat) (k u : Nat) : su (fun b => pw c A (fgR b) k u * φ (wz c A (fgR b) k u) (wT c A (fgR b) k u)) (2 ^ u) = tr c A φ u 0 (k, 0, 0) 0 := by
  rw [← rW_sum]
  apply su_congr
  intro b _
  have := rW_pw c A φ k b u 0
  rw [Nat.zero_add, Nat.pow_zero, Nat.div_one] at this
  rw [← this]
  show 1 * _ = _
  rw [Nat.one_mul]
  rfl

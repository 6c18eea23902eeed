/-! the best way, by the reference -/
theorem lo_sn (P : Nat → Bool) {j : Nat} (h : lo P 0 j = none) : lo P 0 (j + 1) = if P j = true then some j else none := by
  rw [lo_snoc, h, Nat.zero_add]
theorem lo_ss (P : Nat → Bool) {j s : Nat} (h : lo P 0 j = some s) : lo P 0 (j + 1) = some s := by
  rw [lo_snoc, h]
theorem lo_so (P : Nat → Bool) {j : Nat} (h : P j = false) : lo P 0 (j + 1) = lo P 0 j := by
  cases e : lo P 0 j with
  | none => rw [lo_sn P e, h, if_neg nft]
  | some s => exact lo_ss P e
section SY1
variable {c : Cl} {se ow : Int32} {wh fr to th mi ri op sh ho : Nat → Int32}
theorem csr_le {c : Cl} (w : WF c) {α β : Nat} (hα : α ≤ 9) (hβ : β ≤ 9) {L : Nat → Nat} (hL : ∀ k, L k ≤ FAR) {h a k : Nat} (ha : a ≤ 5) : csr c α β L h a k ≤ FAR + 243 := by
  unfold csr
  cases e : st c h a k with
  | none => exact Nat.le_add_right _ _
  | some k' =>
    have h1 := pri_le w hα hβ (st_some w e).1 ha
    have h2 := hL k'
    show pri c α β h a k + L k' ≤ _
    omega
/-- one act more -/
theorem ll_acts (R : RY c se ow wh fr to th mi ri op sh ho) {α β : Nat} (hα : α ≤ 9) (hβ : β ≤ 9) {h k : Nat} (hh : h < 10) (hk : k < 32) (hp : ps c h k = true) {L : Nat → Nat} (hL2 : ∀ k, L k ≤ FAR) : ∀ n a, a ≤ 6 → 6 < a + n → ∀ (w1 w2 w3 w4 w5 w6 w7 w8 w9 : Int32) (lt : Nat → Int32), (∀ k, k < 32 → lt (32 * (h + 1) + k) = nI (L k)) → lt (32 * h + k) = nI (mn (fun a => csr c α β L h a k) a) →
    ok_X12_layLeft_L44_52_78 (nI (kN c)) se ow wh fr to th mi ri op sh ho (nI α) (nI β) (nI h) (nI k) n w1 w2 w3 w4 w5 w6 w7 w8 w9 lt (nI a) ∧
    ∃ (v1 v2 v3 v4 v5 v6 v7 v8 v9 : Int32) (lt' : Nat → Int32), F_X12_layLeft_L44_52_78 (nI (kN c)) se ow wh fr to th mi ri op sh ho (nI α) (nI β) (nI h) (nI k) n w1 w2 w3 w4 w5 w6 w7 w8 w9 lt (nI a) = (v1, v2, v3, v4, v5, v6, v7, v8, v9, lt') ∧ lt' (32 * h + k) = nI (mn (fun a => csr c α β L h a k) 6) ∧ ∀ i, ¬ i = 32 * h + k → lt' i = lt i := by
  have wf := R.1
  obtain ⟨i1, i2⟩ := isPK_Y R hh hk
  rw [hp] at i2
  intro n
  induction n with
  | zero => intro a h1 h2; omega
  | succ n ih =>
    intro a h1 h2 w1 w2 w3 w4 w5 w6 w7 w8 w9 lt hL hm
    rw [ok_X12_layLeft_L44_52_78_s, F_X12_layLeft_L44_52_78_s]
    by_cases h6 : a = 6
    · subst h6
      rw [if_pos (show (6 : Int32) ≤ nI 6 by decide)]
      exact ⟨fun q => absurd (by decide) q, w1, w2, w3, w4, w5, w6, w7, w8, w9, lt, rfl, hm, fun i _ => rfl⟩
    · obtain ⟨s1, u1, u2, u3, u4, u5, u6, u7, s2⟩ := step_Y R α β hh (show a ≤ 5 by omega) hp
      rw [if_neg (le_lit (K := 6) 6 rfl (by omega) (by decide)), i2, if_neg bI_tn, s2]
      dsimp only
      unfold ok_X12_layLeft_44_52_78_b108 F_X12_layLeft_44_52_78_b108
      have hZ := zN_ZI wf (h := h) (a := a) (fg := false) (ps_ZI wf hp)
      have h6' := wf.n6
      have hk' : (zN c h a false (zg c h k)).1 < 32 := by
        rcases hZ.1 with q | ⟨q, -⟩
        · have := q.lt16 wf; omega
        · omega
      have hpr := pri_le wf hα hβ hp (show a ≤ 5 by omega)
      have hl := hL2 (zN c h a false (zg c h k)).1
      have hcr := csr_le wf hα hβ hL2 (h := h) (a := a) (k := k) (show a ≤ 5 by omega)
      have hmn := mn_le (fun a => csr c α β L h a k) a
      rw [nI_1, ix32, ix32, nI_clamp (show 32 * (h + 1) + (zN c h a false (zg c h k)).1 < 2 ^ 31 by omega), nI_clamp (show 32 * h + k < 2 ^ 31 by omega), hL _ hk', hm]
      have hF : ∀ x, x < 1000000 → ¬ nI x = (1000000 : Int32) := fun x hx q => by
        have := (eq_lit (K := 1000000) 1000000 rfl (by omega) (by decide)).mp q
        omega
      have eall : (if (if zn c h (zg c h k) = 0 then nI (pri c α β h a k) else (1000000 : Int32)) = 1000000 then (1000000 : Int32) else (if zn c h (zg c h k) = 0 then nI (pri c α β h a k) else (1000000 : Int32)) + nI (L (zN c h a false (zg c h k)).1)) = nI (csr c α β L h a k) := by
        unfold csr st
        by_cases q : zn c h (zg c h k) = 0
        · rw [if_pos q, if_neg (hF _ (by omega)), nI_add, if_pos (by rw [hp, decide_eq_true q]; rfl)]
        · rw [if_neg q, if_pos rfl, if_neg (by rw [hp, decide_eq_false q]; decide)]; rfl
      unfold FAR at hl hcr hmn
      have enew : (if nI (mn (fun a => csr c α β L h a k) a) ≤ nI (csr c α β L h a k) then nI (mn (fun a => csr c α β L h a k) a) else nI (csr c α β L h a k)) = nI (mn (fun a => csr c α β L h a k) (a + 1)) := by
        rw [mn]
        by_cases q : csr c α β L h a k < mn (fun a => csr c α β L h a k) a
        · rw [if_neg (nI_ge q (by omega)), if_pos q]
        · rw [if_pos (nI_le (by omega) (by omega)), if_neg q]
      rw [eall, enew, nI_1]
      have hv : vp_in (nI (32 * h + k)) 352 := vp_in_nI (by omega) (by decide)
      have hv2 : vp_in (nI (32 * (h + 1) + (zN c h a false (zg c h k)).1)) 352 := vp_in_nI (by omega) (by decide)
      obtain ⟨g1, v1, v2, v3, v4, v5, v6, v7, v8, v9, lt', g2, g3, g4⟩ := ih (a + 1) (by omega) (by omega) (nI (zN c h a false (zg c h k)).1) u1 u2 u3 u4 u5 (bI (za c h a false (zg c h k))) u6 u7 (upd lt (32 * h + k) (nI (mn (fun a => csr c α β L h a k) (a + 1)))) (fun j hj => by
        rw [pk_un (by omega)]; exact hL j hj) pk_us
      exact ⟨fun _ => ⟨i1, fun _ => ⟨s1, fun _ => hv2, hv, fun _ => hv, hv, g1⟩⟩, v1, v2, v3, v4, v5, v6, v7, v8, v9, lt', g2, g3, fun i hi => by rw [g4 i hi, pk_un hi]⟩
/-- what is left stands there -/
def PL (c : Cl) (α β e h κ : Nat) (lt : Nat → Int32) : Prop := (∀ g k, h < g → g ≤ 10 → k < 32 → lt (32 * g + k) = nI (lh c α β e g k)) ∧ (∀ k, k < κ → lt (32 * h + k) = nI (lh c α β e h k))
theorem ll_keys (R : RY c se ow wh fr to th mi ri op sh ho) {α β e : Nat} (hα : α ≤ 9) (hβ : β ≤ 9) {h : Nat} (hh : h < 10) : ∀ n k, k ≤ 32 → 32 < k + n → ∀ (w1 w2 w3 w4 w5 w6 w7 w8 w9 : Int32) (lt : Nat → Int32), PL c α β e h k lt →
    ok_X12_layLeft_L44_52 (nI (kN c)) se ow wh fr to th mi ri op sh ho (nI α) (nI β) (nI h) n w1 w2 w3 w4 w5 w6 w7 w8 w9 lt (nI k) ∧
    ∃ (v1 v2 v3 v4 v5 v6 v7 v8 v9 : Int32) (lt' : Nat → Int32), F_X12_layLeft_L44_52 (nI (kN c)) se ow wh fr to th mi ri op sh ho (nI α) (nI β) (nI h) n w1 w2 w3 w4 w5 w6 w7 w8 w9 lt (nI k) = (v1, v2, v3, v4, v5, v6, v7, v8, v9, lt') ∧ PL c α β e h 32 lt' := by
  have wf := R.1
  intro n
  induction n with
  | zero => intro k h1 h2; omega
  | succ n ih =>
    intro k h1 h2 w1 w2 w3 w4 w5 w6 w7 w8 w9 lt hP
    rw [ok_X12_layLeft_L44_52_s, F_X12_layLeft_L44_52_s]
    by_cases h32 : k = 32
    · subst h32
      rw [if_pos (show (32 : Int32) ≤ nI 32 by decide)]
      exact ⟨fun q => absurd (by decide) q, w1, w2, w3, w4, w5, w6, w7, w8, w9, lt, rfl, hP⟩
    · have hk : k < 32 := by omega
      rw [if_neg (le_lit (K := 32) 32 rfl hk (by decide)), ix32, nI_clamp (by omega)]
      have hv : vp_in (nI (32 * h + k)) 352 := vp_in_nI (by omega) (by decide)
      obtain ⟨b1, v1, v2, v3, v4, v5, v6, v7, v8, v9, lt1, b2, b3, b4⟩ : ok_X12_layLeft_L44_52_78 (nI (kN c)) se ow wh fr to th mi ri op sh ho (nI α) (nI β) (nI h) (nI k) FU w1 w2 w3 w4 w5 w6 w7 w8 w9 (upd lt (32 * h + k) 1000000) 0 ∧
          ∃ (v1 v2 v3 v4 v5 v6 v7 v8 v9 : Int32) (lt1 : Nat → Int32), F_X12_layLeft_L44_52_78 (nI (kN c)) se ow wh fr to th mi ri op sh ho (nI α) (nI β) (nI h) (nI k) FU w1 w2 w3 w4 w5 w6 w7 w8 w9 (upd lt (32 * h + k) 1000000) 0 = (v1, v2, v3, v4, v5, v6, v7, v8, v9, lt1) ∧ lt1 (32 * h + k) = nI (lh c α β e h k) ∧ ∀ i, ¬ i = 32 * h + k → lt1 i = lt i := by
        cases hp : ps c h k with
        | true =>
          obtain ⟨g1, v1, v2, v3, v4, v5, v6, v7, v8, v9, lt1, g2, g3, g4⟩ := ll_acts R hα hβ hh hk hp (L := lh c α β e (h + 1)) (fun k => lh_le _ _ _ _ _ _) FU 0 (Nat.zero_le _) (by have := FU_ge; omega) w1 w2 w3 w4 w5 w6 w7 w8 w9 (upd lt (32 * h + k) 1000000) (fun j hj => by
            rw [pk_un (by omega)]; exact hP.1 (h + 1) j (by omega) (by omega) hj) pk_us
          rw [nI_0] at g1 g2
          exact ⟨g1, v1, v2, v3, v4, v5, v6, v7, v8, v9, lt1, g2, by rw [g3, csr_mn, ← lh_step c α β e hh], fun i hi => by rw [g4 i hi, pk_un hi]⟩
        | false =>
          obtain ⟨i1, i2⟩ := isPK_Y R hh hk
          rw [hp] at i2
          obtain ⟨m, hm⟩ : ∃ m, FU = m + 1 := ⟨FU - 1, by have := FU_ge; omega⟩
          rw [hm, ok_X12_layLeft_L44_52_78_s, F_X12_layLeft_L44_52_78_s, i2, if_pos bI_f, ite_self]
          refine ⟨fun _ => ⟨i1, fun q => absurd rfl q⟩, w1, w2, w3, w4, w5, w6, w7, w8, w9, _, rfl, ?_, fun i hi => pk_un hi⟩
          rw [pk_us, lh_np hh hp]; rfl
      rw [b2]
      dsimp only
      unfold ok_X12_layLeft_44_52_b201 F_X12_layLeft_44_52_b201
      rw [nI_1]
      obtain ⟨g1, g2⟩ := ih (k + 1) (by omega) (by omega) v1 v2 v3 v4 v5 v6 v7 v8 v9 lt1 ⟨fun g j q1 q2 q3 => by
        rw [b4 _ (by omega)]; exact hP.1 g j q1 q2 q3, fun j hj => by
        by_cases q : j = k
        · rw [q]; exact b3
        · rw [b4 _ (by omega)]; exact hP.2 j (by omega)⟩
      exact ⟨fun _ => ⟨hv, b1, g1⟩, g2⟩
theorem ll_hours (R : RY c se ow wh fr to th mi ri op sh ho) {α β e : Nat} (hα : α ≤ 9) (hβ : β ≤ 9) : ∀ n j, j ≤ 10 → j < n → ∀ (w1 w2 w3 w4 w5 w6 w7 w8 w9 : Int32) (lt : Nat → Int32), (∀ g k, j ≤ g → g ≤ 10 → k < 32 → lt (32 * g + k) = nI (lh c α β e g k)) →
    ok_X12_layLeft_L44 (nI (kN c)) se ow wh fr to th mi ri op sh ho (nI α) (nI β) n w1 w2 w3 w4 w5 w6 w7 w8 w9 lt (nI j - 1) ∧
    ∃ (v1 v2 v3 v4 v5 v6 v7 v8 v9 : Int32) (lt' : Nat → Int32), F_X12_layLeft_L44 (nI (kN c)) se ow wh fr to th mi ri op sh ho (nI α) (nI β) n w1 w2 w3 w4 w5 w6 w7 w8 w9 lt (nI j - 1) = (v1, v2, v3, v4, v5, v6, v7, v8, v9, lt') ∧ (∀ g k, g ≤ 10 → k < 32 → lt' (32 * g + k) = nI (lh c α β e g k)) := by
  intro n
  induction n with
  | zero => intro j h1 h2; omega
  | succ n ih =>
    intro j h1 h2 w1 w2 w3 w4 w5 w6 w7 w8 w9 lt hP
    rw [ok_X12_layLeft_L44_s, F_X12_layLeft_L44_s]
    cases j with
    | zero =>
      rw [if_pos ((m1_lt 0 (by decide)).mpr rfl)]
      exact ⟨fun q => absurd ((m1_lt 0 (by decide)).mpr rfl) q, w1, w2, w3, w4, w5, w6, w7, w8, w9, lt, rfl, fun g k h3 h4 => hP g k (Nat.zero_le _) h3 h4⟩
    | succ j =>
      rw [nI_pred, if_neg (nI_pos (by omega))]
      obtain ⟨g1, v1, v2, v3, v4, v5, v6, v7, v8, v9, lt1, g2, g3⟩ := ll_keys R (e := e) hα hβ (h := j) (by omega) FU 0 (Nat.zero_le _) (by have := FU_ge; omega) w1 w2 w3 w4 w5 w6 w7 w8 w9 lt ⟨fun g k q1 q2 q3 => hP g k (by omega) q2 q3, fun k hk => by omega⟩
      rw [nI_0] at g1 g2
      rw [g2]
      dsimp only
      unfold ok_X12_layLeft_44_b207 F_X12_layLeft_44_b207
      rw [nI_m1]
      obtain ⟨k1, k2⟩ := ih j (by omega) (by omega) v1 v2 v3 v4 v5 v6 v7 v8 v9 lt1 (fun g k q1 q2 q3 => by
        by_cases q : g = j
        · rw [q]; exact g3.2 k q3
        · exact g3.1 g k (by omega) q2 q3)
      exact ⟨fun _ => ⟨g1, k1⟩, k2⟩
theorem ll_init {e : Nat} (he : e < 32) : ∀ n k lt, k ≤ 32 → 32 < k + n → ok_X12_layLeft_L3 (nI e) n lt (nI k) ∧ (∀ j, k ≤ j → j < 32 → F_X12_layLeft_L3 (nI e) n lt (nI k) (320 + j) = nI (if j = e then 0 else FAR)) ∧ (∀ i, i < 320 + k → F_X12_layLeft_L3 (nI e) n lt (nI k) i = lt i) := by
  intro n
  induction n with
  | zero => intro k lt h1 h2; omega
  | succ n ih =>
    intro k lt h1 h2
    rw [ok_X12_layLeft_L3_s, F_X12_layLeft_L3_s]
    by_cases h : k = 32
    · subst h
      rw [if_pos (show (32 : Int32) ≤ nI 32 by decide)]
      exact ⟨fun q => absurd (by decide) q, fun j h3 h4 => by omega, fun i _ => rfl⟩
    · have e320 : (320 : Int32) + nI k = nI (320 + k) := nI_add 320 _
      have ev : (if nI k = nI e then (0 : Int32) else 1000000) = nI (if k = e then 0 else FAR) := by
        by_cases q : k = e
        · rw [if_pos (by rw [q]), if_pos q]; rfl
        · rw [if_neg (fun q2 => q ((nI_eq (by omega) (by omega)).mp q2)), if_neg q]; rfl
      rw [if_neg (le_lit (K := 32) 32 rfl (by omega) (by decide)), e320, nI_clamp (by omega), ev, nI_1]
      obtain ⟨g1, g2, g3⟩ := ih (k + 1) (upd lt (320 + k) (nI (if k = e then 0 else FAR))) (by omega) (by omega)
      refine ⟨fun _ => ⟨vp_in_nI (by omega) (by decide), g1⟩, fun j h3 h4 => ?_, fun i hi => ?_⟩
      · by_cases q : j = k
        · rw [q, g3 _ (by omega), pk_us]
        · exact g2 j (by omega) h4
      · rw [g3 i (by omega), pk_un (by omega)]
theorem left_Y (R : RY c se ow wh fr to th mi ri op sh ho) {α β e : Nat} (hα : α ≤ 9) (hβ : β ≤ 9) (he : e < 32) (w1 w2 w3 w4 w5 w6 w7 w8 w9 : Int32) (lt : Nat → Int32) :
    ok_X12_layLeft (nI (kN c)) se ow w1 w2 w3 w4 w5 w6 w7 w8 w9 wh fr to th mi ri op sh ho lt (nI e) (nI α) (nI β) ∧
    ∃ (v1 v2 v3 v4 v5 v6 v7 v8 v9 : Int32) (lt' : Nat → Int32), F_X12_layLeft (nI (kN c)) se ow w1 w2 w3 w4 w5 w6 w7 w8 w9 wh fr to th mi ri op sh ho lt (nI e) (nI α) (nI β) = (v1, v2, v3, v4, v5, v6, v7, v8, v9, lt') ∧ (∀ g k, g ≤ 10 → k < 32 → lt' (32 * g + k) = nI (lh c α β e g k)) := by
  obtain ⟨i1, i2, -⟩ := ll_init he FU 0 lt (Nat.zero_le _) (by have := FU_ge; omega)
  rw [nI_0] at i1 i2
  obtain ⟨g1, v1, v2, v3, v4, v5, v6, v7, v8, v9, lt', g2, g3⟩ := ll_hours R (e := e) hα hβ FU 10 (Nat.le_refl _) (by have := FU_ge; omega) w1 w2 w3 w4 w5 w6 w7 w8 w9 (F_X12_layLeft_L3 (nI e) FU lt 0) (fun g k q1 q2 q3 => by
    have hg : g = 10 := by omega
    subst hg
    rw [lh_10]
    exact i2 k (Nat.zero_le _) q3)
  have g2' : F_X12_layLeft_L44 (nI (kN c)) se ow wh fr to th mi ri op sh ho (nI α) (nI β) FU w1 w2 w3 w4 w5 w6 w7 w8 w9 (F_X12_layLeft_L3 (nI e) FU lt 0) 9 = (v1, v2, v3, v4, v5, v6, v7, v8, v9, lt') := g2
  unfold ok_X12_layLeft F_X12_layLeft
  dsimp only
  unfold ok_X12_layLeft_b40 F_X12_layLeft_b40
  rw [g2']
  exact ⟨⟨i1, g1⟩, v1, v2, v3, v4, v5, v6, v7, v8, v9, lt', rfl, g3⟩
/-- the act, and where it leads -/
def fnd (c : Cl) (h k : Nat) (v6 v7 : Int32) : Option Nat → Int32 × Int32
  | none => (v6, v7)
  | some a => (bI (za c h a false (zg c h k)) * nI a, nI (zN c h a false (zg c h k)).1)
theorem bI_mul (b : Bool) (x : Int32) : bI b * x = if bI b = 0 then 0 else x := by
  cases b
  · show (0 : Int32) * x = _
    rw [Int32.zero_mul]; rfl
  · show (1 : Int32) * x = _
    rw [Int32.one_mul]; rfl
theorem la2_loop (R : RY c se ow wh fr to th mi ri op sh ho) {α β e : Nat} (hα : α ≤ 9) (hβ : β ≤ 9) {lt : Nat → Int32} (hP : ∀ g k, g ≤ 10 → k < 32 → lt (32 * g + k) = nI (lh c α β e g k)) {h k : Nat} (hh : h < 10) (hk : k < 32) (hp : ps c h k = true) (hl : lh c α β e h k < FAR) : ∀ n j, j ≤ 6 → j < n → ∀ (w1 w2 w3 w4 w5 w6 w7 w8 w9 x6 x7 : Int32),
    ok_X12_layActs_L6_24 se ow wh fr to th mi ri op sh ho lt (nI α) (nI β) (nI k) (nI h) n w1 w2 w3 w4 w5 w6 w7 w8 w9 x6 x7 (nI j - 1) ∧
    ∃ (v1 v2 v3 v4 v5 v6 v7 v8 v9 : Int32), F_X12_layActs_L6_24 se ow wh fr to th mi ri op sh ho lt (nI α) (nI β) (nI k) (nI h) n w1 w2 w3 w4 w5 w6 w7 w8 w9 x6 x7 (nI j - 1) = (v1, v2, v3, v4, v5, v6, v7, v8, v9, (fnd c h k x6 x7 (lo (fun a => decide (cst c α β (lh c α β e (h + 1)) h a k = lh c α β e h k)) 0 j)).1, (fnd c h k x6 x7 (lo (fun a => decide (cst c α β (lh c α β e (h + 1)) h a k = lh c α β e h k)) 0 j)).2) := by
  have wf := R.1
  intro n
  induction n with
  | zero => intro j h1 h2; omega
  | succ n ih =>
    intro j h1 h2 w1 w2 w3 w4 w5 w6 w7 w8 w9 x6 x7
    rw [ok_X12_layActs_L6_24_s, F_X12_layActs_L6_24_s]
    cases j with
    | zero =>
      rw [if_pos ((m1_lt 0 (by decide)).mpr rfl)]
      exact ⟨fun q => absurd ((m1_lt 0 (by decide)).mpr rfl) q, w1, w2, w3, w4, w5, w6, w7, w8, w9, rfl⟩
    | succ j =>
      rw [nI_pred, if_neg (nI_pos (by omega))]
      obtain ⟨s1, u1, u2, u3, u4, u5, u6, u7, s2⟩ := step_Y R α β hh (show j ≤ 5 by omega) hp
      rw [s2]
      dsimp only
      unfold ok_X12_layActs_6_24_b41 F_X12_layActs_6_24_b41
      have hZ := zN_ZI wf (h := h) (a := j) (fg := false) (ps_ZI wf hp)
      have h6' := wf.n6
      have hk' : (zN c h j false (zg c h k)).1 < 32 := by
        rcases hZ.1 with q | ⟨q, -⟩
        · have := q.lt16 wf; omega
        · omega
      have hpr := pri_le wf hα hβ hp (show j ≤ 5 by omega)
      have hl2 := lh_le c α β e (h + 1) (zN c h j false (zg c h k)).1
      rw [nI_1, ix32, ix32, nI_clamp (show 32 * (h + 1) + (zN c h j false (zg c h k)).1 < 2 ^ 31 by omega), nI_clamp (show 32 * h + k < 2 ^ 31 by omega), hP (h + 1) _ (by omega) hk', hP h k (by omega) hk, nI_m1]
      have hv : vp_in (nI (32 * h + k)) 352 := vp_in_nI (by omega) (by decide)
      have hv2 : vp_in (nI (32 * (h + 1) + (zN c h j false (zg c h k)).1)) 352 := vp_in_nI (by omega) (by decide)
      unfold FAR at hl hl2
      by_cases q : zn c h (zg c h k) = 0
      · have est : st c h j k = some (zN c h j false (zg c h k)).1 := by
          unfold st
          rw [hp, decide_eq_true q, if_pos (by rfl)]
        have ecs : cst c α β (lh c α β e (h + 1)) h j k = if lh c α β e (h + 1) (zN c h j false (zg c h k)).1 = FAR then FAR else lh c α β e (h + 1) (zN c h j false (zg c h k)).1 + pri c α β h j k := by
          unfold cst; rw [est]
        have heq : (nI (pri c α β h j k) + nI (lh c α β e (h + 1) (zN c h j false (zg c h k)).1) = nI (lh c α β e h k)) ↔ cst c α β (lh c α β e (h + 1)) h j k = lh c α β e h k := by
          rw [nI_add, nI_eq (by omega) (by omega), ecs]
          by_cases q2 : lh c α β e (h + 1) (zN c h j false (zg c h k)).1 = FAR
          · rw [if_pos q2]
            unfold FAR at q2 ⊢
            constructor
            · intro q3; omega
            · intro q3; omega
          · rw [if_neg q2]
            constructor
            · intro q3; omega
            · intro q3; omega
        rw [if_pos q, if_neg (show ¬ (1000000 : Int32) ≤ nI (pri c α β h j k) from nI_ge (b := 1000000) (by omega) (by decide))]
        by_cases q2 : cst c α β (lh c α β e (h + 1)) h j k = lh c α β e h k
        · rw [if_pos (heq.mpr q2)]
          obtain ⟨g1, v1, v2, v3, v4, v5, v6', v7', v8, v9, g2⟩ := ih j (by omega) (by omega) (nI (zN c h j false (zg c h k)).1) u1 u2 u3 u4 u5 (bI (za c h j false (zg c h k))) u6 u7 (if bI (za c h j false (zg c h k)) = 0 then 0 else nI j) (nI (zN c h j false (zg c h k)).1)
          refine ⟨fun _ => ⟨s1, fun q' => absurd q' (nI_ge (b := 1000000) (by omega) (by decide)), fun _ => ⟨hv2, hv, fun _ => g1, fun q' => absurd (heq.mpr q2) q'⟩⟩, v1, v2, v3, v4, v5, v6', v7', v8, v9, ?_⟩
          rw [g2]
          cases el : lo (fun a => decide (cst c α β (lh c α β e (h + 1)) h a k = lh c α β e h k)) 0 j with
          | some s => rw [lo_ss _ el]; rfl
          | none =>
            rw [lo_sn _ el, if_pos (decide_eq_true q2)]
            show (_, _, _, _, _, _, _, _, _, (if bI (za c h j false (zg c h k)) = 0 then (0 : Int32) else nI j), _) = (_, _, _, _, _, _, _, _, _, bI (za c h j false (zg c h k)) * nI j, _)
            rw [bI_mul]
            rfl
        · rw [if_neg (fun q' => q2 (heq.mp q')), lo_so (fun a => decide (cst c α β (lh c α β e (h + 1)) h a k = lh c α β e h k)) (decide_eq_false q2)]
          obtain ⟨g1, g2⟩ := ih j (by omega) (by omega) (nI (zN c h j false (zg c h k)).1) u1 u2 u3 u4 u5 (bI (za c h j false (zg c h k))) u6 u7 x6 x7
          exact ⟨fun _ => ⟨s1, fun q' => absurd q' (nI_ge (b := 1000000) (by omega) (by decide)), fun _ => ⟨hv2, hv, fun q' => absurd (heq.mp q') q2, fun _ => g1⟩⟩, g2⟩
      · have ecs : cst c α β (lh c α β e (h + 1)) h j k = FAR := by
          unfold cst st
          rw [hp, decide_eq_false q, if_neg (by decide)]
        have q2 : ¬ cst c α β (lh c α β e (h + 1)) h j k = lh c α β e h k := by rw [ecs]; unfold FAR; omega
        rw [if_neg q, if_pos (Int32.le_refl _), lo_so (fun a => decide (cst c α β (lh c α β e (h + 1)) h a k = lh c α β e h k)) (decide_eq_false q2)]
        obtain ⟨g1, g2⟩ := ih j (by omega) (by omega) (nI (zN c h j false (zg c h k)).1) u1 u2 u3 u4 u5 (bI (za c h j false (zg c h k))) u6 u7 x6 x7
        exact ⟨fun _ => ⟨s1, fun _ => g1, fun q' => absurd (Int32.le_refl _) q'⟩, g2⟩
theorem lw_loop (R : RY c se ow wh fr to th mi ri op sh ho) {α β e : Nat} (hα : α ≤ 9) (hβ : β ≤ 9) {lt : Nat → Int32} (hP : ∀ g k, g ≤ 10 → k < 32 → lt (32 * g + k) = nI (lh c α β e g k)) (he : Bg c e) (hl : lh c α β e 0 e < FAR) : ∀ n h, h ≤ 10 → 10 < h + n → ∀ (w1 w2 w3 w4 w5 w6 w7 w8 w9 : Int32) (bt' : Nat → Int32), (∀ g, g < h → bt' g = nI (chA c α β e g (wy c α β e g))) →
    ok_X12_layActs_L6 se ow wh fr to th mi ri op sh ho lt (nI α) (nI β) n w1 w2 w3 w4 w5 w6 w7 w8 w9 bt' (nI (wy c α β e h)) (nI h) ∧
    ∃ (v1 v2 v3 v4 v5 v6 v7 v8 v9 : Int32) (bt'' : Nat → Int32), F_X12_layActs_L6 se ow wh fr to th mi ri op sh ho lt (nI α) (nI β) n w1 w2 w3 w4 w5 w6 w7 w8 w9 bt' (nI (wy c α β e h)) (nI h) = (v1, v2, v3, v4, v5, v6, v7, v8, v9, bt'') ∧ (∀ g, g < 10 → bt'' g = nI (chA c α β e g (wy c α β e g))) := by
  have wf := R.1
  intro n
  induction n with
  | zero => intro h h1 h2; omega
  | succ n ih =>
    intro h h1 h2 w1 w2 w3 w4 w5 w6 w7 w8 w9 bt' hb
    rw [ok_X12_layActs_L6_s, F_X12_layActs_L6_s]
    by_cases h10 : h = 10
    · subst h10
      rw [if_pos (show (10 : Int32) ≤ nI 10 by decide)]
      exact ⟨fun q => absurd (by decide) q, w1, w2, w3, w4, w5, w6, w7, w8, w9, bt', rfl, hb⟩
    · have hh : h < 10 := by omega
      obtain ⟨y1, y2⟩ := wy_spec wf he hl h (by omega)
      obtain ⟨a, k', e1, e2, e3, e4, e5, -⟩ := chA_spec wf hh y2
      have hk := ps_vk wf y1
      have hk32 : wy c α β e h < 32 := by unfold Vk at hk; omega
      obtain ⟨c1, v1, v2, v3, v4, v5, v6, v7, v8, v9, c2⟩ := la2_loop R hα hβ hP hh hk32 y1 y2 FU 6 (by decide) (by have := FU_ge; omega) w1 w2 w3 w4 w5 w6 w7 w8 w9 (-9) (nI (wy c α β e h))
      rw [e1] at c2
      have ewy : wy c α β e (h + 1) = k' := by
        show (st c h (chA c α β e h (wy c α β e h)) (wy c α β e h)).getD 0 = k'
        rw [e3, e4]; rfl
      have e6 : (zN c h a false (zg c h (wy c α β e h))).1 = wy c α β e (h + 1) := by
        rw [ewy, (st_some wf e4).2.2.1]; rfl
      have e7 : bI (za c h a false (zg c h (wy c α β e h))) * nI a = nI (chA c α β e h (wy c α β e h)) := by
        rw [bI_mul]
        cases ez : za c h a false (zg c h (wy c α β e h)) with
        | true => rw [if_neg bI_tn, e3]
        | false =>
          have : aq c h (wy c α β e h) = false := by
            unfold aq
            rw [y1, Bool.true_and, za_ind c h 0 a false false]; exact ez
          rw [if_pos bI_f, chA_0 wf hh y2 this]; rfl
      have c2' : F_X12_layActs_L6_24 se ow wh fr to th mi ri op sh ho lt (nI α) (nI β) (nI (wy c α β e h)) (nI h) FU w1 w2 w3 w4 w5 w6 w7 w8 w9 (-9) (nI (wy c α β e h)) 5 = (v1, v2, v3, v4, v5, v6, v7, v8, v9, nI (chA c α β e h (wy c α β e h)), nI (wy c α β e (h + 1))) := by
        refine Eq.trans c2 ?_
        show (_, _, _, _, _, _, _, _, _, bI (za c h a false (zg c h (wy c α β e h))) * nI a, nI (zN c h a false (zg c h (wy c α β e h))).1) = _
        rw [e7, e6]
      rw [if_neg (le_lit (K := 10) 10 rfl hh (by decide)), c2']
      dsimp only
      unfold ok_X12_layActs_6_b114 F_X12_layActs_6_b114
      rw [nI_clamp (by omega), nI_1]
      obtain ⟨g1, g2⟩ := ih (h + 1) (by omega) (by omega) v1 v2 v3 v4 v5 v6 v7 v8 v9 (upd bt' h (nI (chA c α β e h (wy c α β e h)))) (fun g hg => by
        by_cases q : g = h
        · rw [q, pk_us]
        · rw [pk_un q]; exact hb g (by omega))
      exact ⟨fun _ => ⟨c1, vp_in_nI hh (by decide), g1⟩, g2⟩
end SY1

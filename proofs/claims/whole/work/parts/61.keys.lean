/-! the fewest own keys -/
def setK (c : Cl) (v : Nat) : Cl := fun f i => if f = 12 then v else c f i
theorem WF_setK {c : Cl} (w : WF c) {v : Nat} (hv : v < 2 ^ kN c) : WF (setK c v) := ⟨w.1, w.2.1, w.2.2.1, w.2.2.2.1, w.2.2.2.2.1, w.2.2.2.2.2.1, hv⟩
def bts (v : Nat) : Nat := pcn (nI v) 8
noncomputable def nvk (c : Cl) (A : Nat → Nat) (b v : Nat) : Bool := nev (setK c v) A b
def KP (c : Cl) (A : Nat → Nat) (b R : Nat) : Prop := R < 2 ^ kN c ∧ nvk c A b R = true ∧ ∀ v, v < 2 ^ kN c → nvk c A b v = true → bts R < bts v ∨ (bts R = bts v ∧ R ≤ v)
theorem KP_uni {c : Cl} {A : Nat → Nat} {b R S : Nat} (h1 : KP c A b R) (h2 : KP c A b S) : R = S := by
  have a := h1.2.2 S h2.1 h2.2.1
  have b := h2.2.2 R h1.1 h1.2.1
  omega
/-- with a key of its own nobody stands -/
theorem own_zS {c : Cl} (w : WF c) (hown : ∀ i, i < kN c → own c i = true) {h : Nat} {z : Zt} (hz : ZI c z) : zS c h z = 0 := by
  unfold zS zc cin
  by_cases h0 : z.2.1 = 0
  · rw [if_pos h0]
    cases e : opr c h z.1 (z.2.2 ||| beg c h) with
    | some s => rfl
    | none =>
      apply bt_eq0.mpr
      intro i
      cases hb : bt (z.2.2 ||| beg c h) i with
      | false => rfl
      | true =>
        have hs := Sb_or hz.2.2 (Sb_beg w h) i hb
        have := lo_none e i (Nat.zero_le _) (by omega)
        rw [hb, Bool.true_and] at this
        unfold lets at this
        rw [hown _ (w.ss hs).1] at this
        cases this
  · rw [if_neg h0]
theorem own_wT {c : Cl} (w : WF c) (hown : ∀ i, i < kN c → own c i = true) {A : Nat → Nat} {g : Nat → Bool} {k : Nat} (hk : Bg c k) : ∀ h, wT c A g k h = 0
  | 0 => rfl
  | h + 1 => by
    rw [wT, own_wT w hown hk h]
    unfold zn
    rw [own_zS w hown (wz_ZI w hk h)]
    rfl
theorem own_nev {c : Cl} (w : WF c) (hown : ∀ i, i < kN c → own c i = true) {A : Nat → Nat} {b : Nat} (hb : Bg c b) : nev c A b = true := by
  unfold nev
  exact az_of (fun j _ => own_wT w hown (xw_Bg w hb j) 10)
theorem all_own : ∀ N, N ≤ 6 → ∀ i, i < N → (2 ^ N - 1).testBit i = true := by decide
theorem all_bts : ∀ N, N ≤ 6 → bts (2 ^ N - 1) = N := by decide +kernel
theorem Bg_setK {c : Cl} {v k : Nat} (h : Bg c k) : Bg (setK c v) k := h
theorem all_nvk {c : Cl} (w : WF c) {A : Nat → Nat} {b : Nat} (hb : Bg c b) : nvk c A b (2 ^ kN c - 1) = true := by
  have hp : 0 < 2 ^ kN c := Nat.pow_pos (by decide)
  exact own_nev (c := setK c (2 ^ kN c - 1)) (WF_setK w (by omega)) (fun i hi => all_own (kN c) w.n6 i hi) (Bg_setK hb)
theorem pow_le64 {N : Nat} (h : N ≤ 6) : 2 ^ N ≤ 64 := Nat.pow_le_pow_right (n := 2) (by decide) h
section KX1
variable {c : Cl} {pe se pl ow : Int32} {pr mi ri oF oL ho be en co nc : Nat → Int32}
theorem RX_setK (R : RX c pe se pl ow pr mi ri oF oL ho be en co nc) {v : Nat} (hv : v < 2 ^ kN c) : RX (setK c v) pe se pl (nI v) pr mi ri oF oL ho be en co nc :=
  ⟨WF_setK R.1 hv, R.2.1, R.2.2.1, R.2.2.2.1, rfl, R.2.2.2.2.2⟩
theorem fi_loop2 (R : RX c pe se pl ow pr mi ri oF oL ho be en co nc) {ac : Nat → Int32} {A : Nat → Nat} (hA : ∀ h, h < 10 → ac h = nI (A h) ∧ A h ≤ 5) {b : Nat} (hb : Bg c b) {m : Nat} (hm : m < 2 ^ 31) (kx : Int32 → Int32 → Int32 → Int32 → Int32 → Int32 → Int32 → Int32 → Int32 → Int32 → (Nat → Int32) → (Nat → Int32) → Int32 × Int32 × Int32 × Int32 × Int32 × Int32 × Int32 × Int32 × Int32 × Int32 × Int32 × (Nat → Int32) × (Nat → Int32)) (okx : Int32 → Int32 → Int32 → Int32 → Int32 → Int32 → Int32 → Int32 → Int32 → Int32 → (Nat → Int32) → (Nat → Int32) → Prop) : ∀ n v, v ≤ 2 ^ kN c → 2 ^ kN c < v + n → ∀ (o w1 w2 w3 w4 w5 w6 w7 w8 w9 : Int32) (kA sA : Nat → Int32), (lo (fun v => decide (bts v = m) && nvk c A b v) v (2 ^ kN c - v) = none → ∀ (o w1 w2 w3 w4 w5 w6 w7 w8 w9 : Int32) (kA sA : Nat → Int32), okx o w1 w2 w3 w4 w5 w6 w7 w8 w9 kA sA) →
    ok_X11_fewestKeys_L13_28 pe se pl pr mi ri oF oL ho be en co nc ac (nI b) okx (nI (2 ^ kN c)) (nI m) n o w1 w2 w3 w4 w5 w6 w7 w8 w9 kA sA (nI v) ∧
    (∀ R', lo (fun v => decide (bts v = m) && nvk c A b v) v (2 ^ kN c - v) = some R' → (F_X11_fewestKeys_L13_28 pe se pl pr mi ri oF oL ho be en co nc ac (nI b) kx (nI (2 ^ kN c)) (nI m) n o w1 w2 w3 w4 w5 w6 w7 w8 w9 kA sA (nI v)).1 = nI R') ∧
    (lo (fun v => decide (bts v = m) && nvk c A b v) v (2 ^ kN c - v) = none → ∃ (o' v1 v2 v3 v4 v5 v6 v7 v8 v9 : Int32) (kA' sA' : Nat → Int32), F_X11_fewestKeys_L13_28 pe se pl pr mi ri oF oL ho be en co nc ac (nI b) kx (nI (2 ^ kN c)) (nI m) n o w1 w2 w3 w4 w5 w6 w7 w8 w9 kA sA (nI v) = kx o' v1 v2 v3 v4 v5 v6 v7 v8 v9 kA' sA') := by
  have w := R.1
  have h64 := pow_le64 w.n6
  intro n
  induction n with
  | zero => intro v h1 h2; omega
  | succ n ih =>
    intro v h1 h2 o w1 w2 w3 w4 w5 w6 w7 w8 w9 kA sA hok
    rw [ok_X11_fewestKeys_L13_28_s, F_X11_fewestKeys_L13_28_s]
    by_cases e : v = 2 ^ kN c
    · have el : lo (fun v => decide (bts v = m) && nvk c A b v) v (2 ^ kN c - v) = none := by rw [e]; exact lo_end
      have hle : nI (2 ^ kN c) ≤ nI v := by rw [e]; exact Int32.le_refl _
      rw [if_pos hle]
      refine ⟨⟨fun _ => hok el o w1 w2 w3 w4 w5 w6 w7 w8 w9 kA sA, fun q => absurd hle q⟩, fun R' q => ?_, fun _ => ⟨o, w1, w2, w3, w4, w5, w6, w7, w8, w9, kA, sA, rfl⟩⟩
      rw [el] at q; cases q
    · have hv : v < 2 ^ kN c := by omega
      have hbc : F_J6_bitCount_0f7a4 (nI v) = nI (bts v) := bc_256 v (by omega)
      have hb8 := pcn_le (nI v) 8
      rw [lo_at hv] at hok ⊢
      rw [if_neg (nI_ge hv (by omega)), hbc, nI_1]
      by_cases hm' : bts v = m
      · have RK := RX_setK R hv
        have hr := rgp_spec (c := setK c v) (WF_setK w hv) (A := A) (Bg_setK hb)
        obtain ⟨n1, n2⟩ := never_X RK hA (Bg_setK hb) hr w1 w2 w3 w4 w5 w6 w7 w8 w9 kA sA
        have n2' : (F_X4_nobodyStands w1 w2 w3 w4 w5 w6 w7 w8 w9 kA sA pe se pl (nI v) pr mi ri oF oL ho be en co nc ac (nI b)).1 = bI (nvk c A b v) := n2
        rw [if_pos (show nI (bts v) = nI m by rw [hm'])]
        dsimp only
        unfold ok_X11_fewestKeys_13_28_b66 F_X11_fewestKeys_13_28_b66
        rw [n2', nI_1]
        cases hn : nvk c A b v with
        | true =>
          rw [hn] at hok
          have eP : (decide (bts v = m) && true) = true := by simp [hm']
          rw [if_neg bI_tn, if_pos eP]
          rw [if_pos eP] at hok
          refine ⟨⟨fun q => absurd q (nI_ge hv (by omega)), fun _ => ⟨fun _ => ⟨n1, fun q => absurd q bI_tn⟩, fun q => absurd (by rw [hm']) q⟩⟩, fun R' q => ?_, fun q => ?_⟩
          · have := Option.some.inj q
            rw [← this]
          · cases q
        | false =>
          rw [hn] at hok
          have eP : ¬ (decide (bts v = m) && false) = true := by simp
          rw [if_pos bI_f, if_neg eP]
          rw [if_neg eP] at hok
          obtain ⟨g1, g2, g3⟩ := ih (v + 1) (by omega) (by omega) (nI v) _ _ _ _ _ _ _ _ _ _ _ hok
          exact ⟨⟨fun q => absurd q (nI_ge hv (by omega)), fun _ => ⟨fun _ => ⟨n1, fun _ => g1⟩, fun q => absurd (by rw [hm']) q⟩⟩, g2, g3⟩
      · have eP : ¬ (decide (bts v = m) && nvk c A b v) = true := by simp [hm']
        have hne : ¬ nI (bts v) = nI m := fun q => hm' ((nI_eq (by unfold bts; omega) hm).mp q)
        rw [if_neg hne, if_neg eP]
        rw [if_neg eP] at hok
        obtain ⟨g1, g2, g3⟩ := ih (v + 1) (by omega) (by omega) o w1 w2 w3 w4 w5 w6 w7 w8 w9 kA sA hok
        exact ⟨⟨fun q => absurd q (nI_ge hv (by omega)), fun _ => ⟨fun q => absurd q hne, fun _ => g1⟩⟩, g2, g3⟩
theorem fk_loop (R : RX c pe se pl ow pr mi ri oF oL ho be en co nc) {ac : Nat → Int32} {A : Nat → Nat} (hA : ∀ h, h < 10 → ac h = nI (A h) ∧ A h ≤ 5) {b : Nat} (hb : Bg c b) (kx : Int32 → Int32 → Int32 → Int32 → Int32 → Int32 → Int32 → Int32 → Int32 → Int32 → (Nat → Int32) → (Nat → Int32) → Int32 × Int32 × Int32 × Int32 × Int32 × Int32 × Int32 × Int32 × Int32 × Int32 × Int32 × (Nat → Int32) × (Nat → Int32)) : ∀ n m, m ≤ kN c + 1 → kN c + 1 < m + n → (∀ v, v < 2 ^ kN c → nvk c A b v = true → m ≤ bts v) → ∀ (o w1 w2 w3 w4 w5 w6 w7 w8 w9 : Int32) (kA sA : Nat → Int32),
    ok_X11_fewestKeys_L13 pe se pl pr mi ri oF oL ho be en co nc ac (nI b) (nI (2 ^ kN c)) n o w1 w2 w3 w4 w5 w6 w7 w8 w9 kA sA (nI m) ∧
    ∃ R', KP c A b R' ∧ (F_X11_fewestKeys_L13 pe se pl pr mi ri oF oL ho be en co nc ac (nI b) kx (nI (2 ^ kN c)) n o w1 w2 w3 w4 w5 w6 w7 w8 w9 kA sA (nI m)).1 = nI R' := by
  have w := R.1
  have hN := w.n6
  have h64 := pow_le64 w.n6
  have hpos : 0 < 2 ^ kN c := Nat.pow_pos (by decide)
  intro n
  induction n with
  | zero => intro m h1 h2; omega
  | succ n ih =>
    intro m h1 h2 hinv o w1 w2 w3 w4 w5 w6 w7 w8 w9 kA sA
    have hall := hinv (2 ^ kN c - 1) (by omega) (all_nvk w hb)
    rw [all_bts _ hN] at hall
    rw [ok_X11_fewestKeys_L13_s, F_X11_fewestKeys_L13_s, R.2.1, if_neg (nI_nlt (by omega) (by omega))]
    cases el : lo (fun v => decide (bts v = m) && nvk c A b v) 0 (2 ^ kN c - 0) with
    | some R' =>
      obtain ⟨g1, g2, -⟩ := fi_loop2 R hA hb (m := m) (by omega) (fun e13_28_0 e13_28_1 e13_28_2 e13_28_3 e13_28_4 e13_28_5 e13_28_6 e13_28_7 e13_28_8 e13_28_9 e13_28_10 e13_28_11 => (F_X11_fewestKeys_13_b78 (F_X11_fewestKeys_L13 pe se pl pr mi ri oF oL ho be en co nc ac (nI b) kx (nI (2 ^ kN c)) n) e13_28_0 e13_28_1 e13_28_2 e13_28_3 e13_28_4 e13_28_5 e13_28_6 e13_28_7 e13_28_8 e13_28_9 e13_28_10 e13_28_11 (nI m))) (fun e13_28_0 e13_28_1 e13_28_2 e13_28_3 e13_28_4 e13_28_5 e13_28_6 e13_28_7 e13_28_8 e13_28_9 e13_28_10 e13_28_11 => (ok_X11_fewestKeys_13_b78 (ok_X11_fewestKeys_L13 pe se pl pr mi ri oF oL ho be en co nc ac (nI b) (nI (2 ^ kN c)) n) e13_28_0 e13_28_1 e13_28_2 e13_28_3 e13_28_4 e13_28_5 e13_28_6 e13_28_7 e13_28_8 e13_28_9 e13_28_10 e13_28_11 (nI m))) FU 0 (Nat.zero_le _) (by have := FU_ge; omega) o w1 w2 w3 w4 w5 w6 w7 w8 w9 kA sA (fun q => by rw [el] at q; cases q)
      rw [nI_0] at g1 g2
      rw [R.2.1] at g1 g2
      obtain ⟨-, q1, q2, q3⟩ := lo_some el
      rw [Bool.and_eq_true, decide_eq_true_eq] at q2
      refine ⟨fun _ => g1, R', ⟨by omega, q2.2, fun v hv hn => ?_⟩, g2 R' el⟩
      have hb' := hinv v hv hn
      rw [q2.1]
      by_cases q : m < bts v
      · exact Or.inl q
      · refine Or.inr ⟨by omega, ?_⟩
        by_cases q4 : R' ≤ v
        · exact q4
        · have := q3 v (Nat.zero_le _) (by omega)
          rw [hn, Bool.and_true, decide_eq_false_iff_not] at this
          omega
    | none =>
      have hinv' : ∀ v, v < 2 ^ kN c → nvk c A b v = true → m + 1 ≤ bts v := fun v hv hn => by
        have h1' := hinv v hv hn
        have := lo_none el v (Nat.zero_le _) (by omega)
        rw [hn, Bool.and_true, decide_eq_false_iff_not] at this
        omega
      have hall' := hinv' (2 ^ kN c - 1) (by omega) (all_nvk w hb)
      rw [all_bts _ hN] at hall'
      obtain ⟨g1, -, g3⟩ := fi_loop2 R hA hb (m := m) (by omega) (fun e13_28_0 e13_28_1 e13_28_2 e13_28_3 e13_28_4 e13_28_5 e13_28_6 e13_28_7 e13_28_8 e13_28_9 e13_28_10 e13_28_11 => (F_X11_fewestKeys_13_b78 (F_X11_fewestKeys_L13 pe se pl pr mi ri oF oL ho be en co nc ac (nI b) kx (nI (2 ^ kN c)) n) e13_28_0 e13_28_1 e13_28_2 e13_28_3 e13_28_4 e13_28_5 e13_28_6 e13_28_7 e13_28_8 e13_28_9 e13_28_10 e13_28_11 (nI m))) (fun e13_28_0 e13_28_1 e13_28_2 e13_28_3 e13_28_4 e13_28_5 e13_28_6 e13_28_7 e13_28_8 e13_28_9 e13_28_10 e13_28_11 => (ok_X11_fewestKeys_13_b78 (ok_X11_fewestKeys_L13 pe se pl pr mi ri oF oL ho be en co nc ac (nI b) (nI (2 ^ kN c)) n) e13_28_0 e13_28_1 e13_28_2 e13_28_3 e13_28_4 e13_28_5 e13_28_6 e13_28_7 e13_28_8 e13_28_9 e13_28_10 e13_28_11 (nI m))) FU 0 (Nat.zero_le _) (by have := FU_ge; omega) o w1 w2 w3 w4 w5 w6 w7 w8 w9 kA sA (fun _ o' y1 y2 y3 y4 y5 y6 y7 y8 y9 kA' sA' => by
        unfold ok_X11_fewestKeys_13_b78
        rw [nI_1]
        exact (ih (m + 1) (by omega) (by omega) hinv' o' y1 y2 y3 y4 y5 y6 y7 y8 y9 kA' sA').1)
      rw [nI_0] at g1 g3
      obtain ⟨o', v1, v2, v3, v4, v5, v6, v7, v8, v9, kA', sA', g4⟩ := g3 el
      rw [R.2.1] at g1 g4
      rw [g4]
      refine ⟨fun _ => g1, ?_⟩
      unfold F_X11_fewestKeys_13_b78
      rw [nI_1]
      have := (ih (m + 1) (by omega) (by omega) hinv' o' v1 v2 v3 v4 v5 v6 v7 v8 v9 kA' sA').2
      rw [R.2.1] at this
      exact this
theorem fk_X (R : RX c pe se pl ow pr mi ri oF oL ho be en co nc) {ac : Nat → Int32} {A : Nat → Nat} (hA : ∀ h, h < 10 → ac h = nI (A h) ∧ A h ≤ 5) {b : Nat} (hb : Bg c b) (w1 w2 w3 w4 w5 w6 w7 w8 w9 : Int32) (kA sA : Nat → Int32) :
    ok_X11_fewestKeys pe se pl ow pr mi ri oF oL ho be en co nc w1 w2 w3 w4 w5 w6 w7 w8 w9 kA sA ac (nI b) ∧ ∃ R', KP c A b R' ∧ (F_X11_fewestKeys pe se pl ow pr mi ri oF oL ho be en co nc w1 w2 w3 w4 w5 w6 w7 w8 w9 kA sA ac (nI b)).1 = nI R' := by
  have w := R.1
  have hN := w.n6
  have e : (1 : Int32) <<< (pe &&& 31) = nI (2 ^ kN c) := by rw [R.2.1]; exact shl1 (kN c) (by omega)
  unfold ok_X11_fewestKeys F_X11_fewestKeys
  rw [e]
  exact fk_loop R hA hb _ FU 0 (Nat.zero_le _) (by have := FU_ge; omega) (fun v _ _ => Nat.zero_le _) ow w1 w2 w3 w4 w5 w6 w7 w8 w9 kA sA
end KX1
section KY1
variable {c : Cl} {se ow : Int32} {wh fr to th mi ri op sh ho : Nat → Int32}
theorem bits_loop (x : Int32) : ∀ n j, j ≤ 6 → 6 < j + n → ok_X12_bits_L4 x n (nI (pcn x j)) (nI j) ∧ F_X12_bits_L4 x n (nI (pcn x j)) (nI j) = nI (pcn x 6) := by
  intro n
  induction n with
  | zero => intro j h1 h2; omega
  | succ n ih =>
    intro j h1 h2
    rw [ok_X12_bits_L4_s, F_X12_bits_L4_s]
    by_cases hj : j = 6
    · subst hj
      rw [if_pos (show (6 : Int32) ≤ nI 6 by decide)]
      exact ⟨fun q => absurd (by decide) q, rfl⟩
    · have e : nI (pcn x j) + ((x >>> (nI j &&& 31)) &&& 1) = nI (pcn x (j + 1)) := by
        rw [bt_tst (by omega), pcn]
        cases bt x j
        · show nI (pcn x j) + 0 = nI (pcn x j + 0)
          rw [Int32.add_zero]; rfl
        · exact nI_1 _
      rw [if_neg (le_lit (K := 6) 6 rfl (by omega) (by decide)), nI_1, e]
      exact ⟨fun _ => (ih (j + 1) (by omega) (by omega)).1, (ih (j + 1) (by omega) (by omega)).2⟩
theorem bts6 : ∀ v, v < 64 → pcn (nI v) 6 = bts v := by decide +kernel
theorem bits_Y {v : Nat} (hv : v < 64) : ok_X12_bits (nI v) ∧ F_X12_bits (nI v) = nI (bts v) := by
  obtain ⟨g1, g2⟩ := bits_loop (nI v) FU 0 (Nat.zero_le _) (by have := FU_ge; omega)
  refine ⟨g1, ?_⟩
  rw [← bts6 v hv]
  exact g2
theorem RY_setK (R : RY c se ow wh fr to th mi ri op sh ho) {v : Nat} (hv : v < 2 ^ kN c) : RY (setK c v) se (nI v) wh fr to th mi ri op sh ho :=
  ⟨WF_setK R.1 hv, R.2.1, rfl, R.2.2.2⟩
/-- the best of the first sets -/
def KQ (c : Cl) (A : Nat → Nat) (b V : Nat) : Option Nat → Prop
  | none => ∀ v, v < V → nvk c A b v = false
  | some R => R < V ∧ nvk c A b R = true ∧ ∀ v, v < V → nvk c A b v = true → bts R < bts v ∨ (bts R = bts v ∧ R ≤ v)
theorem ky_loop (R : RY c se ow wh fr to th mi ri op sh ho) {ac : Nat → Int32} {A : Nat → Nat} {r : Nat} (hr3 : r ≤ 3) (hA : ∀ h, h < 10 → ac (10 * r + h) = nI (A h) ∧ A h ≤ 5) {b : Nat} (hb : Bg c b) : ∀ n v, v ≤ 2 ^ kN c → 2 ^ kN c < v + n → ∀ (o w1 w2 w3 w4 w5 w6 w7 w8 w9 ld rg : Int32) (N f1 f2 f3 : Nat → Int32) (q : Option Nat), KQ c A b v q →
    ok_X12_keys_L34 (nI (kN c)) se wh fr to th mi ri op sh ho ac (nI r) (nI b) n o w1 w2 w3 w4 w5 w6 w7 w8 w9 ld rg N f1 f2 f3 (oI q) (nI v) ∧
    ∃ (o' v1 v2 v3 v4 v5 v6 v7 v8 v9 ld' rg' : Int32) (N' f1' f2' f3' : Nat → Int32) (q' : Option Nat), F_X12_keys_L34 (nI (kN c)) se wh fr to th mi ri op sh ho ac (nI r) (nI b) n o w1 w2 w3 w4 w5 w6 w7 w8 w9 ld rg N f1 f2 f3 (oI q) (nI v) = (o', v1, v2, v3, v4, v5, v6, v7, v8, v9, ld', rg', N', f1', f2', f3', oI q') ∧ KQ c A b (2 ^ kN c) q' := by
  have w := R.1
  have hN := w.n6
  have h64 := pow_le64 w.n6
  have esh : (1 : Int32) <<< (nI (kN c) &&& 31) = nI (2 ^ kN c) := shl1 (kN c) (by omega)
  intro n
  induction n with
  | zero => intro v h1 h2; omega
  | succ n ih =>
    intro v h1 h2 o w1 w2 w3 w4 w5 w6 w7 w8 w9 ld rg N f1 f2 f3 q hq
    rw [ok_X12_keys_L34_s, F_X12_keys_L34_s, esh]
    by_cases e : v = 2 ^ kN c
    · have hle : nI (2 ^ kN c) ≤ nI v := by rw [e]; exact Int32.le_refl _
      rw [if_pos hle]
      exact ⟨fun q => absurd hle q, o, w1, w2, w3, w4, w5, w6, w7, w8, w9, ld, rg, N, f1, f2, f3, q, rfl, e ▸ hq⟩
    · have hv : v < 2 ^ kN c := by omega
      have RK := RY_setK R hv
      have hr := rgp_spec (c := setK c v) (WF_setK w hv) (A := A) (Bg_setK hb)
      obtain ⟨y1, u1, u2, u3, u4, u5, u6, u7, u8, u9, N1, g1, g2, g3, y2, -⟩ := never_Y RK hr3 hA (Bg_setK hb) hr w1 w2 w3 w4 w5 w6 w7 w8 w9 N f1 f2 f3
      have y2' : F_X12_isNever se (nI v) w1 w2 w3 w4 w5 w6 w7 w8 w9 wh fr to th mi ri op sh ho ac N f1 f2 f3 (nI r) (nI b) = (bI (nvk c A b v), u1, u2, u3, u4, u5, u6, u7, u8, u9, nI (rgp (setK c v) A b).1, nI ((rgp (setK c v) A b).2 - (rgp (setK c v) A b).1), N1, g1, g2, g3) := y2
      have body : ∀ q', (∀ z, z < v → nvk c A b z = true → ∀ R, q = some R → bts R < bts z ∨ (bts R = bts z ∧ R ≤ z)) → (nvk c A b v = true → ∀ z, z < v → nvk c A b z = true → bts v < bts z) → q' = (if nvk c A b v = true then some v else q) →
          ok_X12_keys_34_b71 se wh fr to th mi ri op sh ho ac (nI r) (nI b) (ok_X12_keys_L34 (nI (kN c)) se wh fr to th mi ri op sh ho ac (nI r) (nI b) n) (nI v) w1 w2 w3 w4 w5 w6 w7 w8 w9 N f1 f2 f3 (oI q) (nI v) ∧
          ∃ (o' v1 v2 v3 v4 v5 v6 v7 v8 v9 ld' rg' : Int32) (N' f1' f2' f3' : Nat → Int32) (q' : Option Nat), F_X12_keys_34_b71 se wh fr to th mi ri op sh ho ac (nI r) (nI b) (F_X12_keys_L34 (nI (kN c)) se wh fr to th mi ri op sh ho ac (nI r) (nI b) n) (nI v) w1 w2 w3 w4 w5 w6 w7 w8 w9 N f1 f2 f3 (oI q) (nI v) = (o', v1, v2, v3, v4, v5, v6, v7, v8, v9, ld', rg', N', f1', f2', f3', oI q') ∧ KQ c A b (2 ^ kN c) q' := by
        intro q' _ hbet eq'
        unfold ok_X12_keys_34_b71 F_X12_keys_34_b71
        rw [y2']
        dsimp only
        unfold ok_X12_keys_34_b77 F_X12_keys_34_b77
        have ev : (if bI (nvk c A b v) = 0 then oI q else nI v) = oI (if nvk c A b v = true then some v else q) := by
          cases nvk c A b v <;> rfl
        rw [ev, nI_1]
        have hq' : KQ c A b (v + 1) (if nvk c A b v = true then some v else q) := by
          cases hn : nvk c A b v with
          | true =>
            rw [if_pos rfl]
            refine ⟨by omega, hn, fun z hz hzn => ?_⟩
            by_cases q4 : z = v
            · right; rw [q4]; exact ⟨rfl, Nat.le_refl _⟩
            · exact Or.inl (hbet hn z (by omega) hzn)
          | false =>
            rw [if_neg nft]
            cases q with
            | none =>
              intro z hz
              by_cases q4 : z = v
              · rw [q4]; exact hn
              · exact hq z (by omega)
            | some R' =>
              refine ⟨by have := hq.1; omega, hq.2.1, fun z hz hzn => ?_⟩
              by_cases q4 : z = v
              · rw [q4, hn] at hzn; cases hzn
              · exact hq.2.2 z (by omega) hzn
        obtain ⟨k1, k2⟩ := ih (v + 1) (by omega) (by omega) (nI v) u1 u2 u3 u4 u5 u6 u7 u8 u9 (nI (rgp (setK c v) A b).1) (nI ((rgp (setK c v) A b).2 - (rgp (setK c v) A b).1)) N1 g1 g2 g3 _ hq'
        exact ⟨⟨y1, k1⟩, k2⟩
      rw [if_neg (nI_ge hv (by omega))]
      cases q with
      | none =>
        have e9 : oI none = -9 := rfl
        rw [if_pos e9]
        obtain ⟨k1, k2⟩ := body _ (fun z hz hzn R h => by cases h) (fun _ z hz hzn => by rw [hq z hz] at hzn; cases hzn) rfl
        exact ⟨fun _ => ⟨fun _ => k1, fun q => absurd e9 q⟩, k2⟩
      | some R' =>
        have hR := hq.1
        have e9 : ¬ oI (some R') = -9 := nI_ne9 (by omega)
        have eo : oI (some R') = nI R' := rfl
        obtain ⟨b1, b2⟩ := bits_Y (v := v) (by omega)
        obtain ⟨b3, b4⟩ := bits_Y (v := R') (by omega)
        have hb8 : ∀ v, bts v ≤ 8 := fun v => pcn_le _ _
        have h8 := hb8 v
        have h8' := hb8 R'
        rw [if_neg e9, eo, b2, b4]
        rw [eo] at body e9
        by_cases q4 : bts R' ≤ bts v
        · have hle : nI (bts R') ≤ nI (bts v) := nI_le q4 (by omega)
          rw [if_pos hle, nI_1]
          have hq' : KQ c A b (v + 1) (some R') := by
            refine ⟨by omega, hq.2.1, fun z hz hzn => ?_⟩
            by_cases q5 : z = v
            · rw [q5]; omega
            · exact hq.2.2 z (by omega) hzn
          obtain ⟨k1, k2⟩ := ih (v + 1) (by omega) (by omega) (nI v) w1 w2 w3 w4 w5 w6 w7 w8 w9 ld rg N f1 f2 f3 _ hq'
          exact ⟨fun _ => ⟨fun q => absurd q e9, fun _ => ⟨b1, b3, fun _ => k1, fun q => absurd hle q⟩⟩, k2⟩
        · have hle : ¬ nI (bts R') ≤ nI (bts v) := nI_ge (by omega) (by omega)
          rw [if_neg hle]
          obtain ⟨k1, k2⟩ := body _ (fun z hz hzn R h => by
            have := Option.some.inj h
            rw [← this]; exact hq.2.2 z hz hzn) (fun _ z hz hzn => by
            have := hq.2.2 z hz hzn
            omega) rfl
          exact ⟨fun _ => ⟨fun q => absurd q e9, fun _ => ⟨b1, b3, fun q => absurd q hle, fun _ => k1⟩⟩, k2⟩
theorem KQ_KP {c : Cl} (w : WF c) {A : Nat → Nat} {b : Nat} (hb : Bg c b) {q : Option Nat} (h : KQ c A b (2 ^ kN c) q) : ∃ R, q = some R ∧ KP c A b R := by
  have hpos : 0 < 2 ^ kN c := Nat.pow_pos (by decide)
  cases q with
  | none =>
    have := h (2 ^ kN c - 1) (by omega)
    rw [all_nvk w hb] at this; cases this
  | some R => exact ⟨R, rfl, h⟩
end KY1

/-! short rules, by the class -/
def shA (n h : Nat) : Nat := if n < 6 then n else if h = (n - 6) / 36 then (n - 6) / 6 % 6 else n % 6
theorem shA_le {n h : Nat} : shA n h ≤ 5 := by
  unfold shA
  by_cases h1 : n < 6
  · rw [if_pos h1]; omega
  · rw [if_neg h1]
    by_cases h2 : h = (n - 6) / 36
    · rw [if_pos h2]; omega
    · rw [if_neg h2]; omega
theorem ot_loop (x : Int32) : ∀ n h ac, h ≤ 10 → 10 < h + n → ok_X5_otherwise_L2 x n ac (nI h) ∧ F_X5_otherwise_L2 x n ac (nI h) = fun j => if h ≤ j ∧ j < 10 ∧ ac j = -9 then x else ac j := by
  intro n
  induction n with
  | zero => intro h ac h1 h2; omega
  | succ n ih =>
    intro h ac h1 h2
    rw [ok_X5_otherwise_L2_s, F_X5_otherwise_L2_s]
    by_cases h10 : h = 10
    · subst h10
      rw [if_pos (show (10 : Int32) ≤ nI 10 by decide)]
      refine ⟨fun q => absurd (by decide) q, ?_⟩
      funext j
      rw [if_neg (fun q => by omega)]
    · have hv : vp_in (nI h) 10 := vp_in_nI (by omega) (by decide)
      rw [if_neg (le_lit (K := 10) 10 rfl (by omega) (by decide)), nI_clamp (by omega), nI_1]
      obtain ⟨g1, g2⟩ := ih (h + 1) ac (by omega) (by omega)
      obtain ⟨g3, g4⟩ := ih (h + 1) (upd ac h x) (by omega) (by omega)
      refine ⟨fun _ => ⟨hv, fun _ => ⟨hv, g3⟩, fun _ => g1⟩, ?_⟩
      by_cases q : ac h = -9
      · rw [if_pos q, g4]
        funext j
        by_cases e : j = h
        · subst e
          rw [pk_us, if_neg (fun q2 => by omega), if_pos ⟨Nat.le_refl _, by omega, q⟩]
        · rw [pk_un e]
          by_cases q3 : h ≤ j ∧ j < 10 ∧ ac j = -9
          · rw [if_pos ⟨by omega, q3.2⟩, if_pos q3]
          · rw [if_neg (fun q4 => q3 ⟨by omega, q4.2⟩), if_neg q3]
      · rw [if_neg q, g2]
        funext j
        by_cases e : j = h
        · subst e
          rw [if_neg (fun q2 => by omega), if_neg (fun q2 => q q2.2.2)]
        · by_cases q3 : h ≤ j ∧ j < 10 ∧ ac j = -9
          · rw [if_pos ⟨by omega, q3.2⟩, if_pos q3]
          · rw [if_neg (fun q4 => q3 ⟨by omega, q4.2⟩), if_neg q3]
theorem ot_X (ac : Nat → Int32) (x : Int32) : ok_X5_otherwise ac x ∧ F_X5_otherwise ac x = fun j => if j < 10 ∧ ac j = -9 then x else ac j := by
  obtain ⟨g1, g2⟩ := ot_loop x FU 0 ac (Nat.zero_le _) (by have := FU_ge; omega)
  refine ⟨g1, ?_⟩
  have e : F_X5_otherwise ac x = F_X5_otherwise_L2 x FU ac (nI 0) := rfl
  rw [e, g2]
  funext j
  by_cases q : j < 10 ∧ ac j = -9
  · rw [if_pos ⟨Nat.zero_le _, q⟩, if_pos q]
  · rw [if_neg (fun q2 => q q2.2), if_neg q]
theorem rem6 {a : Nat} (h : a < 2 ^ 31) : nI a - nI a / (6 : Int32) * (6 : Int32) = nI (a % 6) := pk_rem (d := 6) h (by decide) (by decide)
theorem short_X {n : Nat} (hn : n < 366) (ac : Nat → Int32) : ok_X5_setShort ac (nI n) ∧ ∃ ac', F_X5_setShort ac (nI n) = (nI (if n < 6 then 0 else 1), ac') ∧ ∀ h, h < 10 → ac' h = nI (shA n h) := by
  unfold ok_X5_setShort F_X5_setShort ok_X5_clear F_X5_clear
  rw [fill_eq 10 (by decide)]
  dsimp only
  unfold F_X5_clear_b9 ok_X5_setShort_b4 F_X5_setShort_b4
  dsimp only
  unfold ok_X5_setShort_b30 F_X5_setShort_b30 F_X5_setShort_b38
  rw [rem6 (by omega)]
  by_cases h6 : n < 6
  · have e6 : nI n < (6 : Int32) := nI_lt (b := 6) h6 (by decide)
    obtain ⟨o1, o2⟩ := ot_X (fun j => if j < 10 then -9 else ac j) (nI (n % 6))
    rw [if_pos e6, o2, if_pos h6]
    refine ⟨⟨fill_ok 10 (by decide) _ _, fun _ => o1, fun q => absurd e6 q⟩, _, rfl, fun h hh => ?_⟩
    rw [if_pos ⟨hh, if_pos hh⟩]
    unfold shA
    rw [if_pos h6, Nat.mod_eq_of_lt h6]
  · have e6 : ¬ nI n < (6 : Int32) := nI_nlt (b := 6) (by omega) (by omega)
    have ep : nI n - (6 : Int32) = nI (n - 6) := pk_sub (b := 6) (by omega)
    have e36 : nI (n - 6) / (36 : Int32) = nI ((n - 6) / 36) := pk_div (d := 36) (by omega) (by decide) (by decide)
    have ed6 : nI (n - 6) / (6 : Int32) = nI ((n - 6) / 6) := pk_div (d := 6) (by omega) (by decide) (by decide)
    have hx : (n - 6) / 36 < 10 := by omega
    rw [if_neg e6, ep, e36, ed6, rem6 (by omega)]
    unfold ok_X5_except F_X5_except
    rw [isHour_nI hx, if_neg i10, nI_clamp (by omega)]
    dsimp only
    obtain ⟨o1, o2⟩ := ot_X (upd (fun j => if j < 10 then -9 else ac j) ((n - 6) / 36) (nI ((n - 6) / 6 % 6))) (nI (n % 6))
    rw [o2, if_neg h6]
    refine ⟨⟨fill_ok 10 (by decide) _ _, fun q => absurd q e6, fun _ => ⟨fun _ => vp_in_nI hx (by decide), o1⟩⟩, _, rfl, fun h hh => ?_⟩
    unfold shA
    rw [if_neg h6]
    by_cases q : h = (n - 6) / 36
    · rw [if_pos q, q, pk_us, if_neg (fun q2 => nI_ne9 (by omega) q2.2)]
    · rw [if_neg q, pk_un q, if_pos hh, if_pos ⟨hh, rfl⟩]
/-- a week in which nobody stands goes step by step -/
theorem wz_zg {c : Cl} (w : WF c) {A : Nat → Nat} {k : Nat} (hk : Bg c k) : ∀ h, wT c A nf k h = 0 → wz c A nf k h = zg c h (wz c A nf k h).1 ∧ ps c h (wz c A nf k h).1 = true
  | 0, _ => by
    have := hk.lt16 w
    refine ⟨?_, ?_⟩
    · show (k, (0 : Int32), (0 : Int32)) = (k, gng c 0, 0)
      rw [gng_0 w]
    · show ps c 0 k = true
      unfold ps
      rw [if_neg (by omega)]
      exact bgb_iff.mpr hk
  | h + 1, h0 => by
    rw [wT] at h0
    obtain ⟨i1, i2⟩ := wz_zg w (A := A) hk h (by omega)
    have hz : zn c h (zg c h (wz c A nf k h).1) = 0 := by rw [← i1]; omega
    have := st_zg w (a := A h) (fg := nf h) i2 hz
    rw [← i1] at this
    exact this
theorem wT_mono {c : Cl} {A : Nat → Nat} {k : Nat} : ∀ {d h}, wT c A nf k (h + d) = 0 → wT c A nf k h = 0
  | 0, h, e => e
  | d + 1, h, e => by
    have e' : wT c A nf k (h + d) + zn c (h + d) (wz c A nf k (h + d)) = 0 := e
    exact wT_mono (d := d) (by omega)
def wpr (c : Cl) (α β : Nat) (A : Nat → Nat) (k h : Nat) : Nat := α * wW c A nf k h + β * wR c A nf k h
theorem wpr_step {c : Cl} {α β : Nat} {A : Nat → Nat} {k h : Nat} (e : wz c A nf k h = zg c h (wz c A nf k h).1) : wpr c α β A k (h + 1) = wpr c α β A k h + pri c α β h (A h) (wz c A nf k h).1 := by
  unfold wpr pri pz rz
  rw [← e, wW, wR, Nat.mul_add, Nat.mul_add]
  have : nf h = false := rfl
  rw [this]
  omega
theorem wpr_le {c : Cl} (w : WF c) {α β : Nat} (hα : α ≤ 9) (hβ : β ≤ 9) {A : Nat → Nat} (hA : ∀ h, h < 10 → A h ≤ 5) {k : Nat} (hk : Bg c k) {h : Nat} (hh : h ≤ 10) : wpr c α β A k h ≤ 2430 := by
  have h1 := wW_le w (g := nf) hk hA h hh
  have h2 := wR_le w A nf k h
  have h3 : α * wW c A nf k h ≤ 9 * 180 := Nat.mul_le_mul hα (by omega)
  have h4 : β * wR c A nf k h ≤ 9 * 90 := Nat.mul_le_mul hβ (by omega)
  unfold wpr
  omega
noncomputable def rgp (c : Cl) (A : Nat → Nat) (b : Nat) : Nat × Nat := Classical.epsilon (fun p : Nat × Nat => RG (xw c A b) p.1 p.2)
theorem rgp_spec {c : Cl} (w : WF c) {A : Nat → Nat} {b : Nat} (hb : Bg c b) : RG (xw c A b) (rgp c A b).1 (rgp c A b).2 := by
  obtain ⟨m, n, h⟩ := RG_ex w (A := A) hb
  exact Classical.epsilon_spec (p := fun p : Nat × Nat => RG (xw c A b) p.1 p.2) ⟨(m, n), h⟩
noncomputable def nev (c : Cl) (A : Nat → Nat) (b : Nat) : Bool := az (fun j => wT c A nf (xw c A b j) 10) (rgp c A b).2
noncomputable def rpr (c : Cl) (α β : Nat) (A : Nat → Nat) (b : Nat) : Nat := sm (fun j => wpr c α β A (xw c A b j) 10) (rgp c A b).1 ((rgp c A b).2 - (rgp c A b).1)
noncomputable def rwk (c : Cl) (A : Nat → Nat) (b : Nat) : Nat := (rgp c A b).2 - (rgp c A b).1
theorem sm_split (F : Nat → Nat) (m : Nat) : ∀ d, sm F 0 (m + d) = sm F 0 m + sm F m d
  | 0 => rfl
  | d + 1 => by
    show sm F 0 (m + d) + F (0 + (m + d)) = sm F 0 m + (sm F m d + F (m + d))
    rw [sm_split F m d, Nat.zero_add]
    omega
theorem sm_le {F : Nat → Nat} {M : Nat} (h : ∀ j, F j ≤ M) (m : Nat) : ∀ d, sm F m d ≤ M * d
  | 0 => Nat.le_refl _
  | d + 1 => by
    have h1 := sm_le h m d
    have h2 := h (m + d)
    rw [sm, Nat.mul_succ]
    omega
section SH1
variable {c : Cl} {nx wk rk at' : Nat → Int32}
theorem wk_loop (w : WF c) (T : TB c nx wk rk at') {α β : Nat} {ac : Nat → Int32} {A : Nat → Nat} (hA : ∀ h, h < 10 → ac h = nI (A h) ∧ A h ≤ 5) {k : Nat} (hk : Bg c k) (t0 : Nat) : ∀ n h, h ≤ 10 → 10 < h + n → wT c A nf k h = 0 →
    ok_X7_nobodyStands_L16_89 (nI α) (nI β) nx wk rk ac n (nI (t0 + wpr c α β A k h)) (nI (sp (wz c A nf k h).1)) (nI h) ∧
    (wT c A nf k 10 = 0 → F_X7_nobodyStands_L16_89 (nI α) (nI β) nx wk rk ac n (nI (t0 + wpr c α β A k h)) (nI (sp (wz c A nf k h).1)) (nI h) = (nI (t0 + wpr c α β A k 10), nI (sp (wz c A nf k 10).1))) ∧
    (¬ wT c A nf k 10 = 0 → (F_X7_nobodyStands_L16_89 (nI α) (nI β) nx wk rk ac n (nI (t0 + wpr c α β A k h)) (nI (sp (wz c A nf k h).1)) (nI h)).2 = -9) := by
  intro n
  induction n with
  | zero => intro h h1 h2; omega
  | succ n ih =>
    intro h h1 h2 h0
    rw [ok_X7_nobodyStands_L16_89_s, F_X7_nobodyStands_L16_89_s]
    have hs := sp_le (wz c A nf k h).1
    by_cases h10 : h = 10
    · subst h10
      rw [if_pos (show (10 : Int32) ≤ nI 10 by decide)]
      exact ⟨fun q => absurd (by decide) q, fun _ => rfl, fun q => absurd h0 q⟩
    · have hh : h < 10 := by omega
      obtain ⟨i1, i2⟩ := wz_zg w hk h h0
      obtain ⟨a1, a2⟩ := hA h hh
      obtain ⟨t1, t2⟩ := actAt_X hh a1 a2
      have hv := ps_vk w i2
      obtain ⟨s1, s2⟩ := spotAfter_X T hh hv (show A h < 6 by omega)
      obtain ⟨p1, p2⟩ := priceOf_X T (α := α) (β := β) hh hv (show A h < 6 by omega) i2
      rw [if_neg (le_lit (K := 10) 10 rfl hh (by decide)), if_neg (nI_pos (by omega)), t2, s2, p2, nI_add, nI_1, Nat.add_assoc, ← wpr_step i1]
      by_cases hz : zn c h (zg c h (wz c A nf k h).1) = 0
      · have est : st c h (A h) (wz c A nf k h).1 = some (wz c A nf k (h + 1)).1 := by
          unfold st
          rw [i2, decide_eq_true hz, if_pos (by rfl), ← i1]
          rfl
        have h0' : wT c A nf k (h + 1) = 0 := by
          rw [wT, h0, i1, hz]
        rw [est]
        obtain ⟨g1, g2, g3⟩ := ih (h + 1) (by omega) (by omega) h0'
        exact ⟨fun _ _ => ⟨t1, p1, s1, g1⟩, g2, g3⟩
      · have est : st c h (A h) (wz c A nf k h).1 = none := by
          unfold st
          rw [i2, decide_eq_false hz, if_neg (by decide)]
        have hno : ¬ wT c A nf k 10 = 0 := fun q => by
          have := wT_mono (d := 10 - (h + 1)) (h := h + 1) (by rw [show h + 1 + (10 - (h + 1)) = 10 by omega]; exact q)
          rw [wT, i1] at this
          omega
        rw [est]
        obtain ⟨n', rfl⟩ : ∃ n', n = n' + 1 := ⟨n - 1, by omega⟩
        have e9 : sI none < 0 := by decide
        rw [ok_X7_nobodyStands_L16_89_s, F_X7_nobodyStands_L16_89_s, if_pos e9, ite_self]
        exact ⟨fun _ _ => ⟨t1, p1, s1, fun _ q => absurd e9 q⟩, fun q => absurd q hno, fun _ => rfl⟩
/-- weeks so far, with prices -/
def NW (x : Nat → Nat) (P : Nat → Nat) (i : Nat) (N Q : Nat → Int32) : Prop := (∀ j, j < i → N (sp (x j)) = nI j ∧ Q (sp (x j)) = nI (sm P 0 j)) ∧ (∀ s, s < 11 → (∀ j, j < i → ¬ sp (x j) = s) → N s = -9)
theorem ns_loop (w : WF c) (T : TB c nx wk rk at') {α β : Nat} (hα : α ≤ 9) (hβ : β ≤ 9) {ac : Nat → Int32} {A : Nat → Nat} (hA : ∀ h, h < 10 → ac h = nI (A h) ∧ A h ≤ 5) {b m n : Nat} (hb : Bg c b) (hr : RG (xw c A b) m n) : ∀ f i, i ≤ n → n < i + f → (∀ j, j < i → wT c A nf (xw c A b j) 10 = 0) → ∀ (rp rw : Int32) (N Q : Nat → Int32), NW (xw c A b) (fun j => wpr c α β A (xw c A b j) 10) i N Q →
    ok_X7_nobodyStands_L16 (nI α) (nI β) nx wk rk ac f rp rw N Q (nI (sm (fun j => wpr c α β A (xw c A b j) 10) 0 i)) (nI (sp (xw c A b i))) (nI i) ∧
    ∃ (rp' rw' : Int32) (N' Q' : Nat → Int32), F_X7_nobodyStands_L16 (nI α) (nI β) nx wk rk ac (fun e16_0 e16_1 e16_2 e16_3 => (F_X7_nobodyStands_b159 e16_0 e16_1 e16_2 e16_3)) f rp rw N Q (nI (sm (fun j => wpr c α β A (xw c A b j) 10) 0 i)) (nI (sp (xw c A b i))) (nI i) = (bI (az (fun j => wT c A nf (xw c A b j) 10) n), rp', rw', N', Q') ∧ (az (fun j => wT c A nf (xw c A b j) 10) n = true → rp' = nI (sm (fun j => wpr c α β A (xw c A b j) 10) m (n - m)) ∧ rw' = nI (n - m)) := by
  obtain ⟨r1, r2, r3, r4⟩ := hr
  have hV : ∀ i, Vk (xw c A b i) := fun i => (xw_Bg w hb i).vk w
  have hs : ∀ i, sp (xw c A b i) < 10 := fun i => (xw_Bg w hb i).sp10 w
  intro f
  induction f with
  | zero => intro i h1 h2; omega
  | succ f ih =>
    intro i h1 h2 hz rp rw N Q hN
    have hi := hs i
    have hv : vp_in (nI (sp (xw c A b i))) 11 := vp_in_nI (by omega) (by decide)
    rw [ok_X7_nobodyStands_L16_s, F_X7_nobodyStands_L16_s, if_neg (le_lit (K := 11) 11 rfl (by omega) (by decide)), if_neg (nI_pos (by omega)), if_neg (le_lit (K := 11) 11 rfl (by omega) (by decide)), nI_clamp (by omega)]
    by_cases e : i = n
    · obtain ⟨n1, n2⟩ := hN.1 m (by omega)
      have ex : xw c A b i = xw c A b m := by rw [e, r3]
      have haz : az (fun j => wT c A nf (xw c A b j) 10) n = true := az_of (fun j hj => hz j (by omega))
      have e9 : ¬ N (sp (xw c A b i)) = -9 := by rw [ex, n1]; exact nI_ne9 (by omega)
      rw [if_neg e9]
      refine ⟨fun _ _ _ => ⟨hv, fun q => absurd q e9, fun _ => ⟨hv, hv⟩⟩, _, _, N, Q, by rw [haz]; rfl, fun _ => ?_⟩
      have hsp := sm_split (fun j => wpr c α β A (xw c A b j) 10) m (n - m)
      rw [show m + (n - m) = n by omega] at hsp
      rw [ex, n1, n2, e, hsp, pk_sub (by omega), pk_sub (by omega)]
      exact ⟨by congr 1; omega, rfl⟩
    · have e9 : N (sp (xw c A b i)) = -9 := hN.2 _ (by omega) (fun j hj q => r4 j i hj (by omega) (sp_inj (hV j) (hV i) q))
      obtain ⟨g1, g2, g3⟩ := wk_loop w T (α := α) (β := β) hA (xw_Bg w hb i) (sm (fun j => wpr c α β A (xw c A b j) 10) 0 i) FU 0 (Nat.zero_le _) (by have := FU_ge; omega) rfl
      have ew : wpr c α β A (xw c A b i) 0 = 0 := by unfold wpr; rw [wW, wR, Nat.mul_zero, Nat.mul_zero]
      rw [ew, Nat.add_zero, nI_0] at g1 g2 g3
      have ez : nI (sp (wz c A nf (xw c A b i) 0).1) = nI (sp (xw c A b i)) := rfl
      rw [ez] at g1 g2 g3
      rw [if_pos e9]
      by_cases h0 : wT c A nf (xw c A b i) 10 = 0
      · have g2' := g2 h0
        rw [g2']
        dsimp only
        unfold ok_X7_nobodyStands_16_b153 F_X7_nobodyStands_16_b153
        rw [nI_1]
        have hN' : NW (xw c A b) (fun j => wpr c α β A (xw c A b j) 10) (i + 1) (upd N (sp (xw c A b i)) (nI i)) (upd Q (sp (xw c A b i)) (nI (sm (fun j => wpr c α β A (xw c A b j) 10) 0 i))) := by
          refine ⟨fun j hj => ?_, fun s hs' hj => ?_⟩
          · by_cases q : j = i
            · rw [q, pk_us, pk_us]; exact ⟨rfl, rfl⟩
            · have hne : ¬ sp (xw c A b j) = sp (xw c A b i) := fun q2 => r4 j i (by omega) (by omega) (sp_inj (hV j) (hV i) q2)
              rw [pk_un hne, pk_un hne]
              exact hN.1 j (by omega)
          · rw [pk_un (fun q => hj i (by omega) q.symm)]
            exact hN.2 s hs' (fun j hj' => hj j (by omega))
        have et : sm (fun j => wpr c α β A (xw c A b j) 10) 0 i + wpr c α β A (xw c A b i) 10 = sm (fun j => wpr c α β A (xw c A b j) 10) 0 (i + 1) := by
          show _ = sm (fun j => wpr c α β A (xw c A b j) 10) 0 i + wpr c α β A (xw c A b (0 + i)) 10
          rw [Nat.zero_add]
        have ex : (wz c A nf (xw c A b i) 10).1 = xw c A b (i + 1) := rfl
        rw [et, ex]
        obtain ⟨k1, k2⟩ := ih (i + 1) (by omega) (by omega) (fun j hj => by
          by_cases q : j = i
          · rw [q]; exact h0
          · exact hz j (by omega)) rp rw _ _ hN'
        exact ⟨fun _ _ _ => ⟨hv, fun _ => ⟨hv, hv, g1, k1⟩, fun q => absurd e9 q⟩, k2⟩
      · have g3' := g3 h0
        have haz : az (fun j => wT c A nf (xw c A b j) 10) n = false := az_no (F := fun j => wT c A nf (xw c A b j) 10) (i := i) (by omega) h0
        dsimp only
        unfold ok_X7_nobodyStands_16_b153 F_X7_nobodyStands_16_b153
        rw [g3']
        obtain ⟨f', rfl⟩ : ∃ f', f = f' + 1 := ⟨f - 1, by omega⟩
        have e9' : (-9 : Int32) < 0 := by decide
        rw [ok_X7_nobodyStands_L16_s, F_X7_nobodyStands_L16_s, if_pos e9', ite_self, haz]
        exact ⟨fun _ _ _ => ⟨hv, fun _ => ⟨hv, hv, g1, fun _ q => absurd e9' q⟩, fun q => absurd e9 q⟩, rp, rw, _, _, rfl, fun q => absurd q nft⟩
theorem ns_X (w : WF c) (T : TB c nx wk rk at') {α β : Nat} (hα : α ≤ 9) (hβ : β ≤ 9) {ac : Nat → Int32} {A : Nat → Nat} (hA : ∀ h, h < 10 → ac h = nI (A h) ∧ A h ≤ 5) {b : Nat} (hb : Bg c b) (rp rw : Int32) (N Q : Nat → Int32) :
    ok_X7_nobodyStands (nI α) (nI β) rp rw nx wk rk ac N Q (nI (sp b)) ∧
    ∃ (rp' rw' : Int32) (N' Q' : Nat → Int32), F_X7_nobodyStands (nI α) (nI β) rp rw nx wk rk ac N Q (nI (sp b)) = (bI (nev c A b), rp', rw', N', Q') ∧ (nev c A b = true → rp' = nI (rpr c α β A b) ∧ rw' = nI (rwk c A b)) := by
  have hr := rgp_spec w (A := A) hb
  have hN0 : NW (xw c A b) (fun j => wpr c α β A (xw c A b j) 10) 0 (F_J7_fill_53178 11 N (-9)) Q := by
    refine ⟨fun j hj => by omega, fun s hs' _ => ?_⟩
    rw [fill_eq 11 (by decide)]
    exact if_pos hs'
  obtain ⟨g1, g2⟩ := ns_loop w T hα hβ hA hb hr FU 0 (Nat.zero_le _) (by have := hr.2.1; have := FU_ge; omega) (fun j hj => by omega) rp rw _ Q hN0
  exact ⟨⟨fill_ok 11 (by decide) _ _, g1⟩, g2⟩
end SH1

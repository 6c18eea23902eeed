/-! the class's ring -/
def NS (x : Nat → Nat) (i : Nat) (N : Nat → Int32) : Prop := (∀ j, j < i → N (sp (x j)) = nI (sp (x (j + 1)))) ∧ (∀ s, s < 11 → (∀ j, j < i → ¬ sp (x j) = s) → N s = -9)
theorem nI_ne9 {n : Nat} (h : n < 2 ^ 31) : ¬ nI n = (-9 : Int32) := fun q => nI_pos h (by rw [q]; decide)
theorem wb_loop {x : Nat → Nat} (hV : ∀ i, Vk (x i)) (hs : ∀ i, sp (x i) < 10) {m n : Nat} (hr : RG x m n) {N : Nat → Int32} (hN : NS x n N) : ∀ f i, i ≤ m → m < i + f →
    ok_X4_weeksBetween_L8 N (nI (sp (x n))) f (nI (sp (x i))) (nI i) (nI i) ∧ F_X4_weeksBetween_L8 N (nI (sp (x n))) f (nI (sp (x i))) (nI i) (nI i) = nI m := by
  obtain ⟨r1, r2, r3, r4⟩ := hr
  intro f
  induction f with
  | zero => intro i h1 h2; omega
  | succ f ih =>
    intro i h1 h2
    have hi := hs i
    have hn := hs n
    rw [ok_X4_weeksBetween_L8_s, F_X4_weeksBetween_L8_s, if_neg (le_lit (K := 10) 10 rfl (by omega) (by decide)), if_neg (nI_pos (by omega))]
    by_cases e : i = m
    · have e2 : nI (sp (x i)) = nI (sp (x n)) := by rw [e, r3]
      rw [if_pos e2, e]
      refine ⟨fun _ _ q => absurd (by rw [r3]) q, rfl⟩
    · have e2 : ¬ nI (sp (x i)) = nI (sp (x n)) := fun q => by
        have q2 := (nI_eq (by omega) (by omega)).mp q
        rw [← r3] at q2
        exact r4 i m (by omega) r1 (sp_inj (hV i) (hV m) q2)
      rw [if_neg e2, nI_clamp (by omega), hN.1 i (by omega), nI_1]
      obtain ⟨g1, g2⟩ := ih (i + 1) (by omega) (by omega)
      exact ⟨fun _ _ _ => ⟨vp_in_nI (by omega) (by decide), g1⟩, g2⟩
section RX2
variable {c : Cl} {pe se pl ow : Int32} {pr mi ri oF oL ho be en co nc : Nat → Int32}
theorem fw_loop (R : RX c pe se pl ow pr mi ri oF oL ho be en co nc) {ac : Nat → Int32} {A : Nat → Nat} (hA : ∀ h, h < 10 → ac h = nI (A h) ∧ A h ≤ 5) {b m n : Nat} (hb : Bg c b) (hr : RG (xw c A b) m n) : ∀ f i, i ≤ n → n < i + f → ∀ (w1 w2 w3 w4 w5 w6 w7 w8 w9 : Int32) (kA sA N : Nat → Int32), NS (xw c A b) i N →
    ok_X4_followWeeks_L9 pe se pl ow pr mi ri oF oL ho be en co nc ac f w1 w2 w3 w4 w5 w6 w7 w8 w9 kA sA N (nI (sp (xw c A b i))) (nI i) ∧
    ∃ (v1 v2 v3 v4 v5 v6 v7 v8 v9 : Int32) (kA' sA' N' : Nat → Int32), F_X4_followWeeks_L9 pe se pl ow pr mi ri oF oL ho be en co nc ac f w1 w2 w3 w4 w5 w6 w7 w8 w9 kA sA N (nI (sp (xw c A b i))) (nI i) = (v1, v2, v3, v4, v5, v6, v7, v8, v9, kA', sA', N', nI (sp (xw c A b n))) ∧ NS (xw c A b) n N' := by
  have wf := R.1
  obtain ⟨r1, r2, r3, r4⟩ := hr
  have hV : ∀ i, Vk (xw c A b i) := fun i => (xw_Bg wf hb i).vk wf
  have hs : ∀ i, sp (xw c A b i) < 10 := fun i => (xw_Bg wf hb i).sp10 wf
  intro f
  induction f with
  | zero => intro i h1 h2; omega
  | succ f ih =>
    intro i h1 h2 w1 w2 w3 w4 w5 w6 w7 w8 w9 kA sA N hN
    have hi := hs i
    have hv : vp_in (nI (sp (xw c A b i))) 11 := vp_in_nI (by omega) (by decide)
    rw [ok_X4_followWeeks_L9_s, F_X4_followWeeks_L9_s, if_neg (show ¬ nI (sp (xw c A b i)) < 0 from nI_pos (by omega)), nI_clamp (by omega)]
    by_cases e : i = n
    · have e9 : ¬ N (sp (xw c A b i)) = -9 := by
        rw [e, ← r3, hN.1 m (by omega)]
        exact nI_ne9 (by have := hs (m + 1); omega)
      rw [if_neg e9, ite_self, e]
      exact ⟨fun _ _ => ⟨e ▸ hv, fun q => absurd q (e ▸ e9)⟩, w1, w2, w3, w4, w5, w6, w7, w8, w9, kA, sA, N, rfl, e ▸ hN⟩
    · have e9 : N (sp (xw c A b i)) = -9 := hN.2 _ (by omega) (fun j hj q => r4 j i hj (by omega) (sp_inj (hV j) (hV i) q))
      obtain ⟨k1, k2⟩ := run_X R hA (xw_Bg wf hb i) kA sA
      rw [if_pos e9, if_neg (le_lit (K := 10) 10 rfl (by omega) (by decide)), whereAt_X (hV i), k2]
      dsimp only
      unfold ok_X4_followWeeks_9_b48 F_X4_followWeeks_9_b48
      have ex : nI (wz c A nf (xw c A b i) 10).1 = nI (xw c A b (i + 1)) := rfl
      rw [ex, spotOf_X (hV (i + 1)), nI_clamp (by omega), pk_us, nI_1]
      have hN' : NS (xw c A b) (i + 1) (upd N (sp (xw c A b i)) (nI (sp (xw c A b (i + 1))))) := by
        refine ⟨fun j hj => ?_, fun s hs' hj => ?_⟩
        · by_cases q : j = i
          · rw [q, pk_us]
          · rw [pk_un (fun q2 => r4 j i (by omega) (by omega) (sp_inj (hV j) (hV i) q2))]
            exact hN.1 j (by omega)
        · rw [pk_un (fun q => hj i (by omega) q.symm)]
          exact hN.2 s hs' (fun j hj' => hj j (by omega))
      obtain ⟨g1, g2⟩ := ih (i + 1) (by omega) (by omega) _ _ _ _ _ _ _ _ _ _ _ _ hN'
      exact ⟨fun _ _ => ⟨hv, fun _ => ⟨k1, hv, hv, g1⟩⟩, g2⟩
theorem rr_loop (R : RX c pe se pl ow pr mi ri oF oL ho be en co nc) {ac : Nat → Int32} {A : Nat → Nat} (hA : ∀ h, h < 10 → ac h = nI (A h) ∧ A h ≤ 5) {b m n : Nat} (hb : Bg c b) (hr : RG (xw c A b) m n) : ∀ f i, i ≤ n - m → n - m < i + f → ∀ (w1 w2 w3 w4 w5 w6 w7 w8 w9 : Int32) (kA sA : Nat → Int32),
    ok_X4_run_L59 pe se pl ow pr mi ri oF oL ho be en co nc ac (nI (sp (xw c A b n))) f (nI i) (nI (sm (fun j => wW c A nf (xw c A b j) 10) m i)) (nI (sm (fun j => wR c A nf (xw c A b j) 10) m i)) (nI (sm (fun j => wT c A nf (xw c A b j) 10) m i)) w1 w2 w3 w4 w5 w6 w7 w8 w9 kA sA (nI (sp (xw c A b (m + i)))) (nI i) ∧
    ∃ (v1 v2 v3 v4 v5 v6 v7 v8 v9 : Int32) (kA' sA' : Nat → Int32), F_X4_run_L59 pe se pl ow pr mi ri oF oL ho be en co nc ac (nI (sp (xw c A b n))) f (nI i) (nI (sm (fun j => wW c A nf (xw c A b j) 10) m i)) (nI (sm (fun j => wR c A nf (xw c A b j) 10) m i)) (nI (sm (fun j => wT c A nf (xw c A b j) 10) m i)) w1 w2 w3 w4 w5 w6 w7 w8 w9 kA sA (nI (sp (xw c A b (m + i)))) (nI i) =
      (nI (n - m), nI (sm (fun j => wW c A nf (xw c A b j) 10) m (n - m)), nI (sm (fun j => wR c A nf (xw c A b j) 10) m (n - m)), nI (sm (fun j => wT c A nf (xw c A b j) 10) m (n - m)), v1, v2, v3, v4, v5, v6, v7, v8, v9, kA', sA') := by
  have wf := R.1
  obtain ⟨r1, r2, r3, r4⟩ := hr
  have hV : ∀ i, Vk (xw c A b i) := fun i => (xw_Bg wf hb i).vk wf
  have hs : ∀ i, sp (xw c A b i) < 10 := fun i => (xw_Bg wf hb i).sp10 wf
  intro f
  induction f with
  | zero => intro i h1 h2; omega
  | succ f ih =>
    intro i h1 h2 w1 w2 w3 w4 w5 w6 w7 w8 w9 kA sA
    have hi := hs (m + i)
    have hn := hs n
    rw [ok_X4_run_L59_s, F_X4_run_L59_s]
    by_cases e : i = n - m
    · have e0 : ¬ nI i = (0 : Int32) := nI_ne0 (by omega) (by omega)
      have e1 : nI (sp (xw c A b (m + i))) = nI (sp (xw c A b n)) := by rw [show m + i = n by omega]
      rw [if_neg e0, if_pos e1, ite_self, e]
      exact ⟨fun _ => ⟨fun q => absurd q (e ▸ e0), fun _ q => absurd (e ▸ e1) q⟩, w1, w2, w3, w4, w5, w6, w7, w8, w9, kA, sA, rfl⟩
    · obtain ⟨k1, k2⟩ := run_X R hA (xw_Bg wf hb (m + i)) kA sA
      have hbody : ok_X4_run_59_b78 pe se pl ow pr mi ri oF oL ho be en co nc ac (ok_X4_run_L59 pe se pl ow pr mi ri oF oL ho be en co nc ac (nI (sp (xw c A b n))) f) (nI i) (nI (sm (fun j => wW c A nf (xw c A b j) 10) m i)) (nI (sm (fun j => wR c A nf (xw c A b j) 10) m i)) (nI (sm (fun j => wT c A nf (xw c A b j) 10) m i)) kA sA (nI (sp (xw c A b (m + i)))) (nI i) ∧
          ∃ (v1 v2 v3 v4 v5 v6 v7 v8 v9 : Int32) (kA' sA' : Nat → Int32), F_X4_run_59_b78 pe se pl ow pr mi ri oF oL ho be en co nc ac (F_X4_run_L59 pe se pl ow pr mi ri oF oL ho be en co nc ac (nI (sp (xw c A b n))) f) (nI i) (nI (sm (fun j => wW c A nf (xw c A b j) 10) m i)) (nI (sm (fun j => wR c A nf (xw c A b j) 10) m i)) (nI (sm (fun j => wT c A nf (xw c A b j) 10) m i)) kA sA (nI (sp (xw c A b (m + i)))) (nI i) =
      (nI (n - m), nI (sm (fun j => wW c A nf (xw c A b j) 10) m (n - m)), nI (sm (fun j => wR c A nf (xw c A b j) 10) m (n - m)), nI (sm (fun j => wT c A nf (xw c A b j) 10) m (n - m)), v1, v2, v3, v4, v5, v6, v7, v8, v9, kA', sA') := by
        unfold ok_X4_run_59_b78 F_X4_run_59_b78
        rw [whereAt_X (hV (m + i)), k2]
        dsimp only
        unfold ok_X4_run_59_b93 F_X4_run_59_b93
        have ex : nI (wz c A nf (xw c A b (m + i)) 10).1 = nI (xw c A b (m + (i + 1))) := rfl
        rw [ex, spotOf_X (hV (m + (i + 1))), nI_1, nI_add, nI_add, nI_add]
        obtain ⟨g1, g2⟩ := ih (i + 1) (by omega) (by omega) 0 (nI (xw c A b (m + (i + 1)))) (wz c A nf (xw c A b (m + i)) 10).2.1 (wz c A nf (xw c A b (m + i)) 10).2.2 (nI (wW c A nf (xw c A b (m + i)) 10)) (nI (wR c A nf (xw c A b (m + i)) 10)) (nI (wT c A nf (xw c A b (m + i)) 10)) (wSn c A nf (xw c A b (m + i)) 10) (bI (wAc c A nf (xw c A b (m + i)) 10)) (fun j => if j < 10 then nI (wz c A nf (xw c A b (m + i)) j).1 else kA j) (fun j => if j < 10 then zS c j (wz c A nf (xw c A b (m + i)) j) else sA j)
        exact ⟨⟨k1, g1⟩, g2⟩
      rw [if_neg (show ¬ (10 : Int32) ≤ nI i from le_lit (K := 10) 10 rfl (by omega) (by decide))]
      by_cases e0 : i = 0
      · have e0' : nI i = (0 : Int32) := by rw [e0]; rfl
        rw [if_pos e0']
        exact ⟨fun _ => ⟨fun _ => hbody.1, fun q => absurd e0' q⟩, hbody.2⟩
      · have e0' : ¬ nI i = (0 : Int32) := nI_ne0 (by omega) (by omega)
        have e1 : ¬ nI (sp (xw c A b (m + i))) = nI (sp (xw c A b n)) := fun q => by
          have q2 := (nI_eq (by omega) (by omega)).mp q
          rw [← r3] at q2
          exact r4 m (m + i) (by omega) (by omega) (sp_inj (hV _) (hV _) q2).symm
        rw [if_neg e0', if_neg e1]
        exact ⟨fun _ => ⟨fun q => absurd q e0', fun _ _ => hbody.1⟩, hbody.2⟩
/-- the ring -/
theorem ring_X (R : RX c pe se pl ow pr mi ri oF oL ho be en co nc) {ac : Nat → Int32} {A : Nat → Nat} (hA : ∀ h, h < 10 → ac h = nI (A h) ∧ A h ≤ 5) {b m n : Nat} (hb : Bg c b) (hr : RG (xw c A b) m n) (w1 w2 w3 w4 w5 w6 w7 w8 w9 : Int32) (kA sA N : Nat → Int32) :
    ok_X4_run w1 w2 w3 w4 w5 w6 w7 w8 w9 kA sA N pe se pl ow pr mi ri oF oL ho be en co nc ac (nI b) ∧
    ∃ (v1 v2 v3 v4 v5 v6 v7 v8 v9 : Int32) (kA' sA' N' : Nat → Int32), F_X4_run w1 w2 w3 w4 w5 w6 w7 w8 w9 kA sA N pe se pl ow pr mi ri oF oL ho be en co nc ac (nI b) =
      (nI m, nI (n - m), nI (sm (fun j => wW c A nf (xw c A b j) 10) m (n - m)), nI (sm (fun j => wR c A nf (xw c A b j) 10) m (n - m)), nI (sm (fun j => wT c A nf (xw c A b j) 10) m (n - m)), v1, v2, v3, v4, v5, v6, v7, v8, v9, kA', sA', N') := by
  have wf := R.1
  have hF := FU_ge
  have hV : ∀ i, Vk (xw c A b i) := fun i => (xw_Bg wf hb i).vk wf
  have hs : ∀ i, sp (xw c A b i) < 10 := fun i => (xw_Bg wf hb i).sp10 wf
  have hN0 : NS (xw c A b) 0 (F_J7_fill_53178 11 N (-9)) := by
    refine ⟨fun j hj => by omega, fun s hs' _ => ?_⟩
    rw [fill_eq 11 (by decide)]
    exact if_pos hs'
  obtain ⟨f1, u1, u2, u3, u4, u5, u6, u7, u8, u9, kA1, sA1, N1, f2, f3⟩ := fw_loop R hA hb hr FU 0 (Nat.zero_le _) (by have := hr.2.1; omega) w1 w2 w3 w4 w5 w6 w7 w8 w9 kA sA _ hN0
  obtain ⟨g1, g2⟩ := wb_loop hV hs hr f3 FU 0 (Nat.zero_le _) (by have := hr.1; have := hr.2.1; omega)
  obtain ⟨h1, v1, v2, v3, v4, v5, v6, v7, v8, v9, kA2, sA2, h2⟩ := rr_loop R hA hb hr FU 0 (Nat.zero_le _) (by have := hr.2.1; omega) u1 u2 u3 u4 u5 u6 u7 u8 u9 kA1 sA1
  have e0 : F_X11_spotOf (nI b) = nI (sp (xw c A b 0)) := spotOf_X (hV 0)
  unfold ok_X4_run F_X4_run
  dsimp only
  unfold ok_X4_run_b9 F_X4_run_b9 ok_X4_followWeeks F_X4_followWeeks
  rw [e0]
  rw [nI_0] at f1 f2
  rw [f2]
  dsimp only
  unfold F_X4_followWeeks_b83
  dsimp only
  unfold ok_X4_run_b16 F_X4_run_b16 ok_X4_weeksBetween F_X4_weeksBetween
  rw [e0]
  rw [nI_0] at g1 g2
  have h1' : ok_X4_run_L59 pe se pl ow pr mi ri oF oL ho be en co nc ac (nI (sp (xw c A b n))) FU 0 0 0 0 u1 u2 u3 u4 u5 u6 u7 u8 u9 kA1 sA1 (nI (sp (xw c A b n))) 0 := by
    rw [show nI (sp (xw c A b (m + 0))) = nI (sp (xw c A b n)) by rw [Nat.add_zero, hr.2.2.1]] at h1
    exact h1
  have h2' : F_X4_run_L59 pe se pl ow pr mi ri oF oL ho be en co nc ac (nI (sp (xw c A b n))) FU 0 0 0 0 u1 u2 u3 u4 u5 u6 u7 u8 u9 kA1 sA1 (nI (sp (xw c A b n))) 0 = (nI (n - m), nI (sm (fun j => wW c A nf (xw c A b j) 10) m (n - m)), nI (sm (fun j => wR c A nf (xw c A b j) 10) m (n - m)), nI (sm (fun j => wT c A nf (xw c A b j) 10) m (n - m)), v1, v2, v3, v4, v5, v6, v7, v8, v9, kA2, sA2) := by
    rw [show nI (sp (xw c A b (m + 0))) = nI (sp (xw c A b n)) by rw [Nat.add_zero, hr.2.2.1]] at h2
    exact h2
  rw [h2', g2]
  dsimp only
  unfold F_X4_run_b181 F_X4_weeksBetween_b40
  exact ⟨⟨fill_ok 11 (by decide) _ _, f1, g1, h1'⟩, v1, v2, v3, v4, v5, v6, v7, v8, v9, kA2, sA2, N1, rfl⟩
theorem nv_loop (R : RX c pe se pl ow pr mi ri oF oL ho be en co nc) {ac : Nat → Int32} {A : Nat → Nat} (hA : ∀ h, h < 10 → ac h = nI (A h) ∧ A h ≤ 5) {b m n : Nat} (hb : Bg c b) (hr : RG (xw c A b) m n) : ∀ f i, i ≤ n → n < i + f → (∀ j, j < i → wT c A nf (xw c A b j) 10 = 0) → ∀ (w1 w2 w3 w4 w5 w6 w7 w8 w9 : Int32) (kA sA : Nat → Int32) (v : Int32), (∀ s, s < 32 → (bt v s = true ↔ ∃ j, j < i ∧ sp (xw c A b j) = s)) →
    ok_X4_nobodyStands_L12 pe se pl ow pr mi ri oF oL ho be en co nc ac f w1 w2 w3 w4 w5 w6 w7 w8 w9 kA sA v (nI (sp (xw c A b i))) (nI i) ∧
    (F_X4_nobodyStands_L12 pe se pl ow pr mi ri oF oL ho be en co nc ac (fun e12_0 e12_1 e12_2 e12_3 e12_4 e12_5 e12_6 e12_7 e12_8 e12_9 e12_10 => (F_X4_nobodyStands_b94 e12_0 e12_1 e12_2 e12_3 e12_4 e12_5 e12_6 e12_7 e12_8 e12_9 e12_10)) f w1 w2 w3 w4 w5 w6 w7 w8 w9 kA sA v (nI (sp (xw c A b i))) (nI i)).1 = bI (az (fun j => wT c A nf (xw c A b j) 10) n) := by
  have wf := R.1
  obtain ⟨r1, r2, r3, r4⟩ := hr
  have hV : ∀ i, Vk (xw c A b i) := fun i => (xw_Bg wf hb i).vk wf
  have hs : ∀ i, sp (xw c A b i) < 10 := fun i => (xw_Bg wf hb i).sp10 wf
  intro f
  induction f with
  | zero => intro i h1 h2; omega
  | succ f ih =>
    intro i h1 h2 hz w1 w2 w3 w4 w5 w6 w7 w8 w9 kA sA v hv
    have hi := hs i
    rw [ok_X4_nobodyStands_L12_s, F_X4_nobodyStands_L12_s, if_neg (show ¬ nI (sp (xw c A b i)) < 0 from nI_pos (by omega)), tst_if (by omega)]
    by_cases e : i = n
    · have e9 : bt v (sp (xw c A b i)) = true := (hv _ (by omega)).mpr ⟨m, by omega, by rw [e, r3]⟩
      rw [if_pos e9, ite_self]
      refine ⟨fun _ _ q => ?_, ?_⟩
      · rw [(bt_t0 (by omega)).mp q] at e9; cases e9
      · rw [az_of (fun j hj => hz j (by omega))]; rfl
    · have e9 : ¬ bt v (sp (xw c A b i)) = true := fun q => by
        obtain ⟨j, hj, q2⟩ := (hv _ (by omega)).mp q
        exact r4 j i hj (by omega) (sp_inj (hV j) (hV i) q2)
      obtain ⟨k1, k2⟩ := run_X R hA (xw_Bg wf hb i) kA sA
      rw [if_neg e9, if_neg (le_lit (K := 10) 10 rfl (by omega) (by decide)), whereAt_X (hV i), k2]
      dsimp only
      unfold ok_X4_nobodyStands_12_b58 F_X4_nobodyStands_12_b58
      have ex : nI (wz c A nf (xw c A b i) 10).1 = nI (xw c A b (i + 1)) := rfl
      rw [ex, spotOf_X (hV (i + 1)), nI_1]
      by_cases h0 : wT c A nf (xw c A b i) 10 = 0
      · have hv' : ∀ s, s < 32 → (bt (v ||| ((1 : Int32) <<< (nI (sp (xw c A b i)) &&& 31))) s = true ↔ ∃ j, j < i + 1 ∧ sp (xw c A b j) = s) := by
          intro s hs'
          rw [b_or, bt_bit (by omega) hs', Bool.or_eq_true, hv s hs', decide_eq_true_eq]
          constructor
          · rintro (⟨j, q1, q2⟩ | q)
            · exact ⟨j, by omega, q2⟩
            · exact ⟨i, by omega, q.symm⟩
          · rintro ⟨j, q1, q2⟩
            by_cases q : j = i
            · exact Or.inr (by rw [← q2, q])
            · exact Or.inl ⟨j, by omega, q2⟩
        rw [h0, if_pos (show nI 0 = (0 : Int32) from rfl)]
        obtain ⟨g1, g2⟩ := ih (i + 1) (by omega) (by omega) (fun j hj => by
          by_cases q : j = i
          · rw [q]; exact h0
          · exact hz j (by omega)) 0 (nI (xw c A b (i + 1))) (wz c A nf (xw c A b i) 10).2.1 (wz c A nf (xw c A b i) 10).2.2 (nI (wW c A nf (xw c A b i) 10)) (nI (wR c A nf (xw c A b i) 10)) (nI 0) (wSn c A nf (xw c A b i) 10) (bI (wAc c A nf (xw c A b i) 10)) (fun j => if j < 10 then nI (wz c A nf (xw c A b i) j).1 else kA j) (fun j => if j < 10 then zS c j (wz c A nf (xw c A b i) j) else sA j) _ hv'
        exact ⟨fun _ _ _ => ⟨k1, fun _ => g1⟩, g2⟩
      · have hb80 := wT_le c A nf (xw c A b i) 10
        have hne : ¬ nI (wT c A nf (xw c A b i) 10) = (0 : Int32) := nI_ne0 (by omega) (by omega)
        rw [if_neg hne, az_no (F := fun j => wT c A nf (xw c A b j) 10) (i := i) (by omega) h0]
        exact ⟨fun _ _ _ => ⟨k1, fun q => absurd q hne⟩, rfl⟩
/-- nobody ever stands -/
theorem never_X (R : RX c pe se pl ow pr mi ri oF oL ho be en co nc) {ac : Nat → Int32} {A : Nat → Nat} (hA : ∀ h, h < 10 → ac h = nI (A h) ∧ A h ≤ 5) {b m n : Nat} (hb : Bg c b) (hr : RG (xw c A b) m n) (w1 w2 w3 w4 w5 w6 w7 w8 w9 : Int32) (kA sA : Nat → Int32) :
    ok_X4_nobodyStands w1 w2 w3 w4 w5 w6 w7 w8 w9 kA sA pe se pl ow pr mi ri oF oL ho be en co nc ac (nI b) ∧ (F_X4_nobodyStands w1 w2 w3 w4 w5 w6 w7 w8 w9 kA sA pe se pl ow pr mi ri oF oL ho be en co nc ac (nI b)).1 = bI (az (fun j => wT c A nf (xw c A b j) 10) n) := by
  have wf := R.1
  have hF := FU_ge
  have e0 : F_X11_spotOf (nI b) = nI (sp (xw c A b 0)) := spotOf_X (hb.vk wf)
  have h := nv_loop R hA hb hr FU 0 (Nat.zero_le _) (by have := hr.2.1; omega) (fun j hj => by omega) w1 w2 w3 w4 w5 w6 w7 w8 w9 kA sA 0 (fun s _ => by
    rw [b_0]
    constructor
    · intro q; cases q
    · rintro ⟨j, q, -⟩; omega)
  unfold ok_X4_nobodyStands F_X4_nobodyStands
  rw [e0]
  exact h
end RX2

/-! forgetting, by the class -/
theorem flL_loop (L : Nat → (Nat → Int64) → Int32 → (Nat → Int64)) (K : Nat) (x : Int64) (hs : ∀ n f i, i < K → L (n + 1) f (nI i) = L n (vp_updL f i x) (nI (i + 1))) (hx : ∀ n f, L (n + 1) f (nI K) = f) : ∀ (n i : Nat) (f : Nat → Int64), i ≤ K → K < i + n → L n f (nI i) = fun j => if i ≤ j ∧ j < K then x else f j := by
  intro n
  induction n with
  | zero => intro i f h1 h2; omega
  | succ n ih =>
    intro i f h1 h2
    by_cases h : i = K
    · subst h
      rw [hx]
      funext j
      rw [if_neg (by omega)]
    · rw [hs n f i (by omega), ih (i + 1) _ (by omega) (by omega)]
      funext j
      by_cases hj : j = i
      · subst hj
        rw [if_neg (by omega), if_pos (by omega), pk_uLs]
      · by_cases hj2 : i ≤ j ∧ j < K
        · rw [if_pos (by omega), if_pos hj2]
        · rw [if_neg (by omega), if_neg hj2, pk_uLn hj]
theorem fillL_eq (N : Nat) (hN : N < 4096) (f : Nat → Int64) (x : Int64) : F_J7_fill_d0a16 N f x = fun j => if j < N then x else f j := by
  have h := flL_loop (fun n f v => F_J7_fill_d0a16_L6 x (nI N) n f v) N x (fun n f i hi => by rw [F_J7_fill_d0a16_L6_s, if_neg (nI_ge hi (by omega)), nI_1, nI_clamp (by omega)]) (fun n f => by rw [F_J7_fill_d0a16_L6_s, if_pos (Int32.le_refl _)]) FU 0 f (Nat.zero_le _) (by have := FU_ge; omega)
  have e : F_J7_fill_d0a16 N f x = F_J7_fill_d0a16_L6 x (nI N) FU f (nI 0) := rfl
  rw [e, h]
  funext j
  by_cases hj : j < N
  · rw [if_pos ⟨Nat.zero_le _, hj⟩, if_pos hj]
  · rw [if_neg (fun q => hj q.2), if_neg hj]
theorem fillL_ok (N : Nat) (hN : N < 4096) (f : Nat → Int64) (x : Int64) : ok_J7_fill_d0a16 N f x := by
  have h := ok_loop (fun n (f : Nat → Int64) v => ok_J7_fill_d0a16_L6 N x (nI N) n f v) N (fun _ _ => True) (fun n s i hi _ h => by rw [ok_J7_fill_d0a16_L6_s]; intro _; refine ⟨vp_in_nI hi (by omega), ?_⟩; rw [nI_1]; exact h _ trivial) (fun n s _ => by rw [ok_J7_fill_d0a16_L6_s]; intro h; exact absurd (Int32.le_refl _) h) FU 0 f (Nat.zero_le _) (by have := FU_ge; omega) trivial
  exact h
theorem wo_loop {b g : Nat} (hg : g ≤ 9) : ∀ n i p, i ≤ 5 → 5 < i + n → ok_X0_weightOf_L5 (nI b) (nI g) n (lN p) (nI i) ∧ F_X0_weightOf_L5 (nI b) (nI g) n (lN p) (nI i) = lN (p * wB g (5 - i) (b / 2 ^ i)) := by
  intro n
  induction n with
  | zero => intro i p h1 h2; omega
  | succ n ih =>
    intro i p h1 h2
    rw [ok_X0_weightOf_L5_s, F_X0_weightOf_L5_s]
    by_cases h : i = 5
    · subst h
      rw [if_pos (show (5 : Int32) ≤ nI 5 by decide)]
      refine ⟨fun q => absurd (by decide) q, ?_⟩
      rw [Nat.sub_self, wB, Nat.mul_one]
    · have e : (if ((nI b >>> (nI i &&& (31 : Int32))) &&& (1 : Int32)) = (0 : Int32) then ((10 : Int32) - nI g).toInt64 else (nI g).toInt64) = lN (if b / 2 ^ i % 2 = 1 then g else 10 - g) := by
        rw [tst_if (by omega), bt_nI (by omega), Nat.testBit_eq_decide_div_mod_eq, show (10 : Int32) - nI g = nI (10 - g) from pk_sub (a := 10) (by omega), nI_l (by omega), nI_l (by omega)]
        by_cases q : b / 2 ^ i % 2 = 1
        · rw [if_pos (by simp [q]), if_pos q]
        · rw [if_neg (by simp [q]), if_neg q]
      rw [if_neg (le_lit (K := 5) 5 rfl (by omega) (by decide)), e, lN_mul, nI_1]
      obtain ⟨g1, g2⟩ := ih (i + 1) (p * (if b / 2 ^ i % 2 = 1 then g else 10 - g)) (by omega) (by omega)
      refine ⟨fun _ => g1, ?_⟩
      rw [g2, show 5 - i = (5 - (i + 1)) + 1 by omega, wB, Nat.div_div_eq_div_mul, ← Nat.pow_succ, Nat.mul_assoc]
theorem wo_X {b g : Nat} (hg : g ≤ 9) : ok_X0_weightOf (nI b) (nI g) ∧ F_X0_weightOf (nI b) (nI g) = lN (wB g 5 b) := by
  obtain ⟨g1, g2⟩ := wo_loop (b := b) hg FU 0 1 (by decide) (by have := FU_ge; omega)
  rw [Nat.pow_zero, Nat.div_one, Nat.one_mul] at g2
  exact ⟨g1, g2⟩
section CX1
variable {c : Cl} {pe se pl ow : Int32} {pr mi ri oF oL ho be en co nc : Nat → Int32}
theorem ga_loop (R : RX c pe se pl ow pr mi ri oF oL ho be en co nc) {ac : Nat → Int32} {A : Nat → Nat} (hA : ∀ h, h < 10 → ac h = nI (A h) ∧ A h ≤ 5) {k hr : Nat} (hk : Bg c k) (hh : hr < 10) : ∀ n b, b ≤ 32 → 32 < b + n → ∀ (K : Nat → Int64) (w1 w2 w3 w4 w5 w6 w7 w8 w9 : Int32) (kA sA : Nat → Int32), (∀ κ, Vk κ → K (sp κ) = lN (SC c A k (phK κ) hr b)) →
    ok_X0_gather_L21 pe se pl (nI (kG c)) ow pr mi ri oF oL ho be en co nc ac (nI k) (nI hr) n (lN (SC c A k phS 10 b)) (lN (SC c A k phD 10 b)) K w1 w2 w3 w4 w5 w6 w7 w8 w9 kA sA (nI b) ∧
    ∃ (K' : Nat → Int64) (v1 v2 v3 v4 v5 v6 v7 v8 v9 : Int32) (kA' sA' : Nat → Int32), F_X0_gather_L21 pe se pl (nI (kG c)) ow pr mi ri oF oL ho be en co nc ac (nI k) (nI hr) n (lN (SC c A k phS 10 b)) (lN (SC c A k phD 10 b)) K w1 w2 w3 w4 w5 w6 w7 w8 w9 kA sA (nI b) = (lN (SC c A k phS 10 32), lN (SC c A k phD 10 32), K', v1, v2, v3, v4, v5, v6, v7, v8, v9, kA', sA') ∧ (∀ κ, Vk κ → K' (sp κ) = lN (SC c A k (phK κ) hr 32)) := by
  have wf := R.1
  have hg := wf.g9
  intro n
  induction n with
  | zero => intro b h1 h2; omega
  | succ n ih =>
    intro b h1 h2 K w1 w2 w3 w4 w5 w6 w7 w8 w9 kA sA hK
    rw [ok_X0_gather_L21_s, F_X0_gather_L21_s]
    by_cases h : b = 32
    · subst h
      rw [if_pos (show (32 : Int32) ≤ nI 32 by decide)]
      exact ⟨fun q => absurd (by decide) q, K, w1, w2, w3, w4, w5, w6, w7, w8, w9, kA, sA, rfl, hK⟩
    · obtain ⟨o1, o2⟩ := wo_X (b := b) hg
      have hwb := wB_le (g := kG c) (by omega) 5 b
      have hw63 : wB (kG c) 5 b < 2 ^ 63 := by omega
      rw [if_neg (le_lit (K := 32) 32 rfl (by omega) (by decide)), o2, isHour_nI hh, if_neg i10, nI_1]
      have eS : ∀ φ u, SC c A k φ u (b + 1) = SC c A k φ u b + wB (kG c) 5 b * φ (wz c A (fgC c A k b) k u) (wT c A (fgC c A k b) k u) := fun φ u => rfl
      by_cases h0 : wB (kG c) 5 b = 0
      · have e0 : ∀ φ u, SC c A k φ u (b + 1) = SC c A k φ u b := fun φ u => by rw [eS, h0, Nat.zero_mul, Nat.add_zero]
        obtain ⟨g1, g2⟩ := ih (b + 1) (by omega) (by omega) K w1 w2 w3 w4 w5 w6 w7 w8 w9 kA sA (fun κ hκ => by rw [e0]; exact hK κ hκ)
        rw [e0, e0] at g1 g2
        rw [if_pos ((lg0 hw63).mpr h0)]
        exact ⟨fun _ => ⟨o1, fun _ => g1, fun q => absurd ((lg0 hw63).mpr h0) q⟩, g2⟩
      · have hne : ¬ lg_cmp (lN (wB (kG c) 5 b)) 0 = 0 := fun q => h0 ((lg0 hw63).mp q)
        obtain ⟨r1, r2⟩ := run_Xb R hA hk (b := b) (by omega) kA sA _ rfl
        have hvk : Vk (wz c A (fgC c A k b) k hr).1 := by
          rcases (wz_ZI wf (A := A) (g := fgC c A k b) hk hr).1 with q | ⟨q, -⟩
          · exact q.vk wf
          · exact Or.inr (Or.inr q)
        have hsp := sp_le (wz c A (fgC c A k b) k hr).1
        have hT := wT_le c A (fgC c A k b) k 10
        rw [if_neg hne, r2]
        dsimp only
        unfold ok_X0_gather_21_b66 F_X0_gather_21_b66
        rw [nI_clamp (by omega)]
        dsimp only
        rw [if_pos hh, spotOf_X hvk]
        unfold ok_X0_addWeek F_X0_addWeek ok_X0_addWeek_b45 F_X0_addWeek_b45
        rw [if_neg (nI_pos (by omega)), if_neg (nI_pos (by omega)), nI_clamp (by omega), hK _ hvk, nI_l (by omega), lN_mul, lN_add, lN_add, lN_add]
        have hin : vp_in (nI (sp (wz c A (fgC c A k b) k hr).1)) 11 := vp_in_nI (by omega) (by decide)
        have hK' : ∀ κ, Vk κ → vp_updL K (sp (wz c A (fgC c A k b) k hr).1) (lN (SC c A k (phK (wz c A (fgC c A k b) k hr).1) hr b + wB (kG c) 5 b)) (sp κ) = lN (SC c A k (phK κ) hr (b + 1)) := by
          intro κ hκ
          by_cases q : κ = (wz c A (fgC c A k b) k hr).1
          · rw [← q, pk_uLs, eS]
            show _ = lN (SC c A k (phK κ) hr b + wB (kG c) 5 b * (if (wz c A (fgC c A k b) k hr).1 = κ then 1 else 0))
            rw [if_pos q.symm, Nat.mul_one]
          · rw [pk_uLn (fun q2 => q (sp_inj hκ hvk q2)), hK κ hκ, eS]
            show _ = lN (SC c A k (phK κ) hr b + wB (kG c) 5 b * (if (wz c A (fgC c A k b) k hr).1 = κ then 1 else 0))
            rw [if_neg (fun q2 => q q2.symm), Nat.mul_zero, Nat.add_zero]
        have e1 : SC c A k phS 10 (b + 1) = SC c A k phS 10 b + wB (kG c) 5 b * wT c A (fgC c A k b) k 10 := rfl
        by_cases hz : wT c A (fgC c A k b) k 10 = 0
        · have e2 : SC c A k phD 10 (b + 1) = SC c A k phD 10 b + wB (kG c) 5 b := by
            rw [eS]
            show _ + wB (kG c) 5 b * (if wT c A (fgC c A k b) k 10 = 0 then 1 else 0) = _
            rw [if_pos hz, Nat.mul_one]
          have hz' : nI (wT c A (fgC c A k b) k 10) = (0 : Int32) := by rw [hz]; rfl
          rw [if_pos hz']
          dsimp only
          unfold ok_X0_gather_21_b85 F_X0_gather_21_b85
          rw [nI_1]
          obtain ⟨g1, g2⟩ := ih (b + 1) (by omega) (by omega) _ 0 (nI (wz c A (fgC c A k b) k 10).1) (wz c A (fgC c A k b) k 10).2.1 (wz c A (fgC c A k b) k 10).2.2 (nI (wW c A (fgC c A k b) k 10)) (nI (wR c A (fgC c A k b) k 10)) (nI (wT c A (fgC c A k b) k 10)) (wSn c A (fgC c A k b) k 10) (bI (wAc c A (fgC c A k b) k 10)) (fun j => if j < 10 then nI (wz c A (fgC c A k b) k j).1 else kA j) (fun j => if j < 10 then zS c j (wz c A (fgC c A k b) k j) else sA j) hK'
          rw [e1, e2] at g1 g2
          exact ⟨fun _ => ⟨o1, fun q => absurd q hne, fun _ => ⟨fun q => absurd q i10, fun _ => ⟨r1, vp_in_nI hh (by decide), ⟨fun _ _ => ⟨hin, hin⟩, fun _ _ => ⟨hin, hin⟩⟩, g1⟩⟩⟩, g2⟩
        · have e2 : SC c A k phD 10 (b + 1) = SC c A k phD 10 b := by
            rw [eS]
            show _ + wB (kG c) 5 b * (if wT c A (fgC c A k b) k 10 = 0 then 1 else 0) = _
            rw [if_neg hz, Nat.mul_zero, Nat.add_zero]
          have hz' : ¬ nI (wT c A (fgC c A k b) k 10) = (0 : Int32) := nI_ne0 (by omega) (by omega)
          rw [if_neg hz']
          dsimp only
          unfold ok_X0_gather_21_b85 F_X0_gather_21_b85
          rw [nI_1]
          obtain ⟨g1, g2⟩ := ih (b + 1) (by omega) (by omega) _ 0 (nI (wz c A (fgC c A k b) k 10).1) (wz c A (fgC c A k b) k 10).2.1 (wz c A (fgC c A k b) k 10).2.2 (nI (wW c A (fgC c A k b) k 10)) (nI (wR c A (fgC c A k b) k 10)) (nI (wT c A (fgC c A k b) k 10)) (wSn c A (fgC c A k b) k 10) (bI (wAc c A (fgC c A k b) k 10)) (fun j => if j < 10 then nI (wz c A (fgC c A k b) k j).1 else kA j) (fun j => if j < 10 then zS c j (wz c A (fgC c A k b) k j) else sA j) hK'
          rw [e1, e2] at g1 g2
          exact ⟨fun _ => ⟨o1, fun q => absurd q hne, fun _ => ⟨fun q => absurd q i10, fun _ => ⟨r1, vp_in_nI hh (by decide), ⟨fun _ _ => ⟨hin, hin⟩, fun _ _ => ⟨hin, hin⟩⟩, g1⟩⟩⟩, g2⟩
theorem ga_X (R : RX c pe se pl ow pr mi ri oF oL ho be en co nc) {ac : Nat → Int32} {A : Nat → Nat} (hA : ∀ h, h < 10 → ac h = nI (A h) ∧ A h ≤ 5) {k hr : Nat} (hk : Bg c k) (hh : hr < 10) (K : Nat → Int64) (w1 w2 w3 w4 w5 w6 w7 w8 w9 : Int32) (kA sA : Nat → Int32) :
    ok_X0_gather K w1 w2 w3 w4 w5 w6 w7 w8 w9 kA sA pe se pl (nI (kG c)) ow pr mi ri oF oL ho be en co nc ac (nI k) (nI hr) ∧
    ∃ (K' : Nat → Int64) (v1 v2 v3 v4 v5 v6 v7 v8 v9 : Int32) (kA' sA' : Nat → Int32), F_X0_gather K w1 w2 w3 w4 w5 w6 w7 w8 w9 kA sA pe se pl (nI (kG c)) ow pr mi ri oF oL ho be en co nc ac (nI k) (nI hr) = (lN (SC c A k phS 10 32), lN (SC c A k phD 10 32), K', v1, v2, v3, v4, v5, v6, v7, v8, v9, kA', sA') ∧ (∀ κ, Vk κ → K' (sp κ) = lN (SC c A k (phK κ) hr 32)) := by
  obtain ⟨g1, K', v1, v2, v3, v4, v5, v6, v7, v8, v9, kA', sA', g2, g3⟩ := ga_loop R hA hk hh FU 0 (by decide) (by have := FU_ge; omega) (fun j => if j < 11 then 0 else K j) w1 w2 w3 w4 w5 w6 w7 w8 w9 kA sA (fun κ hκ => by
    rw [if_pos (by have := sp_le κ; omega)]; rfl)
  unfold ok_X0_gather F_X0_gather
  rw [fillL_eq 11 (by decide)]
  dsimp only
  unfold ok_X0_gather_b18 F_X0_gather_b18
  have g2' : F_X0_gather_L21 pe se pl (nI (kG c)) ow pr mi ri oF oL ho be en co nc ac (nI k) (nI hr) FU 0 0 (fun j => if j < 11 then 0 else K j) w1 w2 w3 w4 w5 w6 w7 w8 w9 kA sA 0 = (lN (SC c A k phS 10 32), lN (SC c A k phD 10 32), K', v1, v2, v3, v4, v5, v6, v7, v8, v9, kA', sA') := g2
  rw [g2']
  exact ⟨⟨fillL_ok 11 (by decide) _ _, g1⟩, K', v1, v2, v3, v4, v5, v6, v7, v8, v9, kA', sA', rfl, g3⟩
end CX1

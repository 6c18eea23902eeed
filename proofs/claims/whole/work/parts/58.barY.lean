/-! the best way, the bar: the reference -/
section BY1
variable {c : Cl} {se ow : Int32} {wh fr to th mi ri op sh ho : Nat → Int32}
theorem lay_loop (R : RY c se ow wh fr to th mi ri op sh ho) {α β : Nat} (hα : α ≤ 9) (hβ : β ≤ 9) : ∀ n κ, κ ≤ 16 → 16 < κ + n → ∀ (w1 w2 w3 w4 w5 w6 w7 w8 w9 bb bp : Int32) (lt ac : Nat → Int32), BY c α β (bs c α β (spc κ)) bb bp ac →
    ok_X12_layWay_L14 (nI (kN c)) se ow wh fr to th mi ri op sh ho (nI α) (nI β) n w1 w2 w3 w4 w5 w6 w7 w8 w9 bb bp lt ac (nI κ) ∧
    ∃ (v1 v2 v3 v4 v5 v6 v7 v8 v9 bb' bp' : Int32) (lt' ac' : Nat → Int32), F_X12_layWay_L14 (nI (kN c)) se ow wh fr to th mi ri op sh ho (nI α) (nI β) n w1 w2 w3 w4 w5 w6 w7 w8 w9 bb bp lt ac (nI κ) = (v1, v2, v3, v4, v5, v6, v7, v8, v9, bb', bp', lt', ac') ∧ BY c α β (bs c α β 10) bb' bp' ac' := by
  have w := R.1
  intro n
  induction n with
  | zero => intro κ h1 h2; omega
  | succ n ih =>
    intro κ h1 h2 w1 w2 w3 w4 w5 w6 w7 w8 w9 bb bp lt ac hB
    rw [ok_X12_layWay_L14_s, F_X12_layWay_L14_s]
    by_cases h16 : κ = 16
    · subst h16
      rw [if_pos (show (16 : Int32) ≤ nI 16 by decide)]
      exact ⟨fun q => absurd (by decide) q, w1, w2, w3, w4, w5, w6, w7, w8, w9, bb, bp, lt, ac, rfl, hB⟩
    · have hκ : κ < 16 := by omega
      obtain ⟨n1, n2⟩ := noBegin_Y R (k := κ) (by omega)
      have hst := bs_spc w (α := α) (β := β) hκ
      rw [if_neg (le_lit (K := 16) 16 rfl hκ (by decide)), n2, nI_1]
      cases hb : bgb c κ with
      | false =>
        rw [hb, Bool.false_and, if_neg nft] at hst
        rw [Bool.not_false, if_neg bI_tn]
        obtain ⟨g1, g2⟩ := ih (κ + 1) (by omega) (by omega) w1 w2 w3 w4 w5 w6 w7 w8 w9 bb bp lt ac (by rw [hst]; exact hB)
        exact ⟨fun _ => ⟨n1, fun q => absurd q bI_tn, fun _ => g1⟩, g2⟩
      | true =>
        have hBg := bgb_iff.mp hb
        rw [hb, Bool.true_and] at hst
        rw [Bool.not_true, if_pos bI_f]
        obtain ⟨l1, u1, u2, u3, u4, u5, u6, u7, u8, u9, lt1, l2, l3⟩ := left_Y R hα hβ (e := κ) (by omega) w1 w2 w3 w4 w5 w6 w7 w8 w9 lt
        rw [l2]
        dsimp only
        have ev : lt1 κ = nI (vE c α β κ) := by
          have := l3 0 κ (by omega) (by omega)
          rw [Nat.mul_zero, Nat.zero_add] at this
          exact this
        have hv1 : vE c α β κ ≤ FAR := lh_le _ _ _ _ _ _
        have hv2 : bv c α β (bs c α β (spc κ)) ≤ FAR := by
          cases bs c α β (spc κ) with
          | none => exact Nat.le_refl _
          | some e => exact lh_le _ _ _ _ _ _
        have hv352 : vp_in (nI κ) 352 := vp_in_nI (by omega) (by decide)
        unfold ok_X12_layWay_14_b35 F_X12_layWay_14_b35
        rw [nI_clamp (by omega), ev, nI_1]
        unfold FAR at hv1 hv2
        have skip : ¬ vE c α β κ < bv c α β (bs c α β (spc κ)) → ok_X12_layWay_L14 (nI (kN c)) se ow wh fr to th mi ri op sh ho (nI α) (nI β) n u1 u2 u3 u4 u5 u6 u7 u8 u9 bb bp lt1 ac (nI (κ + 1)) ∧
            ∃ (v1 v2 v3 v4 v5 v6 v7 v8 v9 bb' bp' : Int32) (lt' ac' : Nat → Int32), F_X12_layWay_L14 (nI (kN c)) se ow wh fr to th mi ri op sh ho (nI α) (nI β) n u1 u2 u3 u4 u5 u6 u7 u8 u9 bb bp lt1 ac (nI (κ + 1)) = (v1, v2, v3, v4, v5, v6, v7, v8, v9, bb', bp', lt', ac') ∧ BY c α β (bs c α β 10) bb' bp' ac' := by
          intro q
          rw [if_neg (by simp; omega)] at hst
          exact ih (κ + 1) (by omega) (by omega) u1 u2 u3 u4 u5 u6 u7 u8 u9 bb bp lt1 ac (by rw [hst]; exact hB)
        have take : vE c α β κ < bv c α β (bs c α β (spc κ)) → ok_X12_layWay_14_b69 se ow wh fr to th mi ri op sh ho (nI α) (nI β) (ok_X12_layWay_L14 (nI (kN c)) se ow wh fr to th mi ri op sh ho (nI α) (nI β) n) u1 u2 u3 u4 u5 u6 u7 u8 u9 lt1 ac (nI κ) ∧
            ∃ (v1 v2 v3 v4 v5 v6 v7 v8 v9 bb' bp' : Int32) (lt' ac' : Nat → Int32), F_X12_layWay_14_b69 se ow wh fr to th mi ri op sh ho (nI α) (nI β) (F_X12_layWay_L14 (nI (kN c)) se ow wh fr to th mi ri op sh ho (nI α) (nI β) n) u1 u2 u3 u4 u5 u6 u7 u8 u9 lt1 ac (nI κ) = (v1, v2, v3, v4, v5, v6, v7, v8, v9, bb', bp', lt', ac') ∧ BY c α β (bs c α β 10) bb' bp' ac' := by
          intro q
          rw [if_pos (by simp [q])] at hst
          obtain ⟨a1, x1, x2, x3, x4, x5, x6, x7, x8, x9, ac1, a2, a3⟩ := lw_loop R hα hβ l3 hBg (show lh c α β κ 0 κ < FAR by unfold FAR; unfold vE at q hv1; omega) FU 0 (Nat.zero_le _) (by have := FU_ge; omega) u1 u2 u3 u4 u5 u6 u7 u8 u9 ac (fun g hg => by omega)
          have a2' : F_X12_layActs_L6 se ow wh fr to th mi ri op sh ho lt1 (nI α) (nI β) FU u1 u2 u3 u4 u5 u6 u7 u8 u9 ac (nI κ) 0 = (x1, x2, x3, x4, x5, x6, x7, x8, x9, ac1) := a2
          unfold ok_X12_layWay_14_b69 F_X12_layWay_14_b69 ok_X12_layActs F_X12_layActs
          rw [a2']
          dsimp only
          unfold F_X12_layActs_b133
          dsimp only
          unfold ok_X12_layWay_14_b91 F_X12_layWay_14_b91
          rw [nI_clamp (by omega), ev, nI_1]
          obtain ⟨k1, k2⟩ := ih (κ + 1) (by omega) (by omega) x1 x2 x3 x4 x5 x6 x7 x8 x9 (nI κ) (nI (vE c α β κ)) lt1 ac1 (by rw [hst]; exact ⟨rfl, rfl, a3⟩)
          exact ⟨⟨hv352, a1, k1⟩, k2⟩
        refine (fun (z : _ ∧ _) => ⟨fun _ => ⟨n1, fun _ => ⟨l1, hv352, z.1⟩, fun q => absurd rfl q⟩, z.2⟩) ?_
        by_cases q1 : vE c α β κ = 1000000
        · have e1 : (1000000 : Int32) ≤ nI (vE c α β κ) := by rw [q1]; exact Int32.le_refl _
          rw [if_pos e1]
          obtain ⟨k1, k2⟩ := skip (by omega)
          exact ⟨⟨fun _ => k1, fun q => absurd e1 q⟩, k2⟩
        · have e1 : ¬ (1000000 : Int32) ≤ nI (vE c α β κ) := nI_ge (b := 1000000) (by omega) (by decide)
          rw [if_neg e1]
          cases ho : bs c α β (spc κ) with
          | none =>
            rw [ho] at hB take
            obtain ⟨b1, b2⟩ := hB
            obtain ⟨k1, k2⟩ := take (by show vE c α β κ < 1000000; omega)
            rw [if_pos b2]
            exact ⟨⟨fun q => absurd q e1, fun _ => ⟨fun _ => k1, fun q => absurd b2 q⟩⟩, k2⟩
          | some e =>
            rw [ho] at hB take skip hv2
            obtain ⟨b1, b2, b3⟩ := hB
            have hve : vE c α β e ≤ 1000000 := hv2
            have e2 : ¬ bp = -9 := by rw [b2]; exact nI_ne9 (by omega)
            rw [if_neg e2, b2]
            rw [b2] at skip
            by_cases q2 : vE c α β κ < vE c α β e
            · obtain ⟨k1, k2⟩ := take q2
              rw [if_neg (nI_ge q2 (by omega))]
              exact ⟨⟨fun q => absurd q e1, fun _ => ⟨fun q => absurd q (b2 ▸ e2), fun _ => ⟨hv352, fun q => absurd q (nI_ge q2 (by omega)), fun _ => k1⟩⟩⟩, k2⟩
            · obtain ⟨k1, k2⟩ := skip q2
              have e3 : nI (vE c α β e) ≤ nI (vE c α β κ) := nI_le (by omega) (by omega)
              rw [if_pos e3]
              exact ⟨⟨fun q => absurd q e1, fun _ => ⟨fun q => absurd q (b2 ▸ e2), fun _ => ⟨hv352, fun _ => k1, fun q => absurd e3 q⟩⟩⟩, k2⟩
theorem way_Y (R : RY c se ow wh fr to th mi ri op sh ho) {α β : Nat} (hα : α ≤ 9) (hβ : β ≤ 9) (w1 w2 w3 w4 w5 w6 w7 w8 w9 : Int32) (lt ac : Nat → Int32) :
    ok_X12_layWay (nI (kN c)) se ow w1 w2 w3 w4 w5 w6 w7 w8 w9 wh fr to th mi ri op sh ho lt ac (nI α) (nI β) ∧
    ∃ (v1 v2 v3 v4 v5 v6 v7 v8 v9 bb bp : Int32) (lt' ac' : Nat → Int32), F_X12_layWay (nI (kN c)) se ow w1 w2 w3 w4 w5 w6 w7 w8 w9 wh fr to th mi ri op sh ho lt ac (nI α) (nI β) = (v1, v2, v3, v4, v5, v6, v7, v8, v9, bb, bp, lt', ac') ∧ BY c α β (bs c α β 10) bb bp ac' := by
  obtain ⟨g1, v1, v2, v3, v4, v5, v6, v7, v8, v9, bb, bp, lt', ac', g2, g3⟩ := lay_loop R hα hβ FU 0 (Nat.zero_le _) (by have := FU_ge; omega) w1 w2 w3 w4 w5 w6 w7 w8 w9 (-9) (-9) lt ac ⟨rfl, rfl⟩
  rw [nI_0] at g1 g2
  unfold ok_X12_layWay F_X12_layWay
  rw [g2]
  exact ⟨g1, v1, v2, v3, v4, v5, v6, v7, v8, v9, bb, bp, lt', ac', rfl, g3⟩
theorem bn_loop (R : RY c se ow wh fr to th mi ri op sh ho) : ∀ n s v, s ≤ 16 → 16 < s + n → ok_X12_bar_L27 (nI (kN c)) th n v (nI s) ∧ ∀ i, (bt (F_X12_bar_L27 (nI (kN c)) th n v (nI s)) i = true ↔ (bt v i = true ∨ (s ≤ i ∧ i < 16 ∧ bgb c i = true))) := by
  intro n
  induction n with
  | zero => intro s v h1 h2; omega
  | succ n ih =>
    intro s v h1 h2
    rw [ok_X12_bar_L27_s, F_X12_bar_L27_s]
    by_cases h16 : s = 16
    · subst h16
      rw [if_pos (show (16 : Int32) ≤ nI 16 by decide)]
      refine ⟨fun q => absurd (by decide) q, fun i => ⟨fun q => Or.inl q, ?_⟩⟩
      rintro (q | ⟨q1, q2, -⟩)
      · exact q
      · omega
    · obtain ⟨n1, n2⟩ := noBegin_Y R (k := s) (by omega)
      have ev : (if bI (!bgb c s) = 0 then (1 : Int32) <<< (nI s &&& 31) else 0) = if bgb c s = true then (1 : Int32) <<< (nI s &&& 31) else 0 := by cases bgb c s <;> rfl
      rw [if_neg (le_lit (K := 16) 16 rfl (by omega) (by decide)), n2, ev, nI_1]
      obtain ⟨g1, g2⟩ := ih (s + 1) (v ||| if bgb c s = true then (1 : Int32) <<< (nI s &&& 31) else 0) (by omega) (by omega)
      refine ⟨fun _ => ⟨n1, g1⟩, fun i => ?_⟩
      rw [g2 i, b_or, Bool.or_eq_true]
      have hbit : bt (if bgb c s = true then (1 : Int32) <<< (nI s &&& 31) else 0) i = true ↔ (i = s ∧ bgb c s = true) := by
        cases bgb c s with
        | false => rw [if_neg nft, b_0]; simp
        | true =>
          rw [if_pos rfl]
          by_cases hi : i < 32
          · rw [bt_bit (by omega) hi]; simp
          · rw [b_big (by omega)]
            constructor
            · intro q; cases q
            · intro q; omega
      rw [hbit]
      constructor
      · rintro ((q | ⟨q1, q2⟩) | ⟨q1, q2⟩)
        · exact Or.inl q
        · exact Or.inr ⟨by omega, by omega, by rw [q1]; exact q2⟩
        · exact Or.inr ⟨by omega, q2⟩
      · rintro (q | ⟨q1, q2, q3⟩)
        · exact Or.inl (Or.inl q)
        · by_cases q : i = s
          · exact Or.inl (Or.inr ⟨q, by rw [← q]; exact q3⟩)
          · exact Or.inr ⟨by omega, q2, q3⟩
def SYs (c : Cl) (h : Nat) (v : Int32) : Prop := ∀ k, bt v k = true ↔ rc c h k
theorem rc_lt {c : Cl} (w : WF c) {h k : Nat} (q : rc c h k) : k < 21 := by
  have := ps_vk w (rc_ps w q)
  unfold Vk at this
  omega
theorem by_acts (R : RY c se ow wh fr to th mi ri op sh ho) {h k : Nat} (hh : h < 10) {x : Int32} (hx : SYs c h x) (hk : k < 21) : ∀ n a, a ≤ 6 → 6 < a + n → ∀ (w1 w2 w3 w4 w5 w6 w7 w8 w9 v : Int32),
    ok_X12_bar_L59_70_80 se ow wh fr to th mi ri op sh ho x (nI h) (nI k) n w1 w2 w3 w4 w5 w6 w7 w8 w9 v (nI a) ∧
    ∃ (v1 v2 v3 v4 v5 v6 v7 v8 v9 v' : Int32), F_X12_bar_L59_70_80 se ow wh fr to th mi ri op sh ho x (nI h) (nI k) n w1 w2 w3 w4 w5 w6 w7 w8 w9 v (nI a) = (v1, v2, v3, v4, v5, v6, v7, v8, v9, v') ∧ ∀ i, (bt v' i = true ↔ (bt v i = true ∨ (rc c h k ∧ ∃ a', a ≤ a' ∧ a' < 6 ∧ st c h a' k = some i))) := by
  have wf := R.1
  intro n
  induction n with
  | zero => intro a h1 h2; omega
  | succ n ih =>
    intro a h1 h2 w1 w2 w3 w4 w5 w6 w7 w8 w9 v
    rw [ok_X12_bar_L59_70_80_s, F_X12_bar_L59_70_80_s]
    by_cases h6 : a = 6
    · subst h6
      rw [if_pos (show (6 : Int32) ≤ nI 6 by decide)]
      refine ⟨fun q => absurd (by decide) q, w1, w2, w3, w4, w5, w6, w7, w8, w9, v, rfl, fun i => ⟨fun q => Or.inl q, ?_⟩⟩
      rintro (q | ⟨-, a', q1, q2, -⟩)
      · exact q
      · omega
    · rw [if_neg (le_lit (K := 6) 6 rfl (by omega) (by decide)), tst_if1 (by omega)]
      cases hb : bt x k with
      | false =>
        rw [if_neg nft]
        refine ⟨fun _ q => absurd ((bt_t1 (by omega)).mp q) (by rw [hb]; decide), w1, w2, w3, w4, w5, w6, w7, w8, w9, v, rfl, fun i => ⟨fun q => Or.inl q, ?_⟩⟩
        rintro (q | ⟨q, -⟩)
        · exact q
        · have := (hx k).mpr q
          rw [hb] at this; cases this
      | true =>
        have hrc := (hx k).mp hb
        have hp := rc_ps wf hrc
        obtain ⟨s1, u1, u2, u3, u4, u5, u6, u7, s2⟩ := step_Y R 0 0 hh (show a ≤ 5 by omega) hp
        have s2' : F_X12_step se ow wh fr to th mi ri op sh ho (nI h) (nI k) (nI a) 0 0 = _ := s2
        rw [if_pos rfl, s2']
        dsimp only
        unfold ok_X12_bar_59_70_80_b108 F_X12_bar_59_70_80_b108
        rw [nI_1]
        have hZ := zN_ZI wf (h := h) (a := a) (fg := false) (ps_ZI wf hp)
        have h6' := wf.n6
        have hk' : (zN c h a false (zg c h k)).1 < 32 := by
          rcases hZ.1 with q | ⟨q, -⟩
          · have := q.lt16 wf; omega
          · omega
        have e0 : pri c 0 0 h a k = 0 := by unfold pri; rw [Nat.zero_mul, Nat.zero_mul]
        have hbt : ((x >>> (nI k &&& (31 : Int32))) &&& (1 : Int32)) = 1 := (bt_t1 (by omega)).mpr hb
        by_cases q : zn c h (zg c h k) = 0
        · have est : st c h a k = some (zN c h a false (zg c h k)).1 := by
            unfold st
            rw [hp, decide_eq_true q, if_pos (by rfl)]
          rw [if_pos q, e0, if_neg (show ¬ (1000000 : Int32) ≤ nI 0 by decide)]
          obtain ⟨g1, v1, v2, v3, v4, v5, v6, v7, v8, v9, v', g2, g3⟩ := ih (a + 1) (by omega) (by omega) (nI (zN c h a false (zg c h k)).1) u1 u2 u3 u4 u5 (bI (za c h a false (zg c h k))) u6 u7 (v ||| ((1 : Int32) <<< (nI (zN c h a false (zg c h k)).1 &&& 31)))
          refine ⟨fun _ _ => ⟨s1, fun q' => absurd q' (by decide), fun _ => g1⟩, v1, v2, v3, v4, v5, v6, v7, v8, v9, v', g2, fun i => ?_⟩
          have hbit : bt ((1 : Int32) <<< (nI (zN c h a false (zg c h k)).1 &&& 31)) i = true ↔ i = (zN c h a false (zg c h k)).1 := by
            by_cases hi : i < 32
            · rw [bt_bit (by omega) hi]; simp
            · rw [b_big (by omega)]
              constructor
              · intro q; cases q
              · intro q; omega
          rw [g3 i, b_or, Bool.or_eq_true, hbit]
          constructor
          · rintro ((q1 | q1) | ⟨q1, a', q2, q3⟩)
            · exact Or.inl q1
            · exact Or.inr ⟨hrc, a, Nat.le_refl _, by omega, by rw [q1]; exact est⟩
            · exact Or.inr ⟨q1, a', by omega, q3⟩
          · rintro (q1 | ⟨q1, a', q2, q3, q4⟩)
            · exact Or.inl (Or.inl q1)
            · by_cases q5 : a' = a
              · rw [q5, est] at q4
                exact Or.inl (Or.inr (Option.some.inj q4).symm)
              · exact Or.inr ⟨q1, a', by omega, q3, q4⟩
        · have est : st c h a k = none := by
            unfold st
            rw [hp, decide_eq_false q, if_neg (by decide)]
          rw [if_neg q, if_pos (Int32.le_refl _)]
          obtain ⟨g1, v1, v2, v3, v4, v5, v6, v7, v8, v9, v', g2, g3⟩ := ih (a + 1) (by omega) (by omega) (nI (zN c h a false (zg c h k)).1) u1 u2 u3 u4 u5 (bI (za c h a false (zg c h k))) u6 u7 v
          refine ⟨fun _ _ => ⟨s1, fun _ => g1, fun q' => absurd (Int32.le_refl _) q'⟩, v1, v2, v3, v4, v5, v6, v7, v8, v9, v', g2, fun i => ?_⟩
          rw [g3 i]
          constructor
          · rintro (q1 | ⟨q1, a', q2, q3⟩)
            · exact Or.inl q1
            · exact Or.inr ⟨q1, a', by omega, q3⟩
          · rintro (q1 | ⟨q1, a', q2, q3, q4⟩)
            · exact Or.inl q1
            · by_cases q5 : a' = a
              · rw [q5, est] at q4; cases q4
              · exact Or.inr ⟨q1, a', by omega, q3, q4⟩
theorem by_keys (R : RY c se ow wh fr to th mi ri op sh ho) {h : Nat} (hh : h < 10) {x : Int32} (hx : SYs c h x) : ∀ n k, k ≤ 21 → 21 < k + n → ∀ (w1 w2 w3 w4 w5 w6 w7 w8 w9 v : Int32),
    ok_X12_bar_L59_70 se ow wh fr to th mi ri op sh ho x (nI h) n w1 w2 w3 w4 w5 w6 w7 w8 w9 v (nI k) ∧
    ∃ (v1 v2 v3 v4 v5 v6 v7 v8 v9 v' : Int32), F_X12_bar_L59_70 se ow wh fr to th mi ri op sh ho x (nI h) n w1 w2 w3 w4 w5 w6 w7 w8 w9 v (nI k) = (v1, v2, v3, v4, v5, v6, v7, v8, v9, v') ∧ ∀ i, (bt v' i = true ↔ (bt v i = true ∨ ∃ k' a', k ≤ k' ∧ a' < 6 ∧ rc c h k' ∧ st c h a' k' = some i)) := by
  have wf := R.1
  intro n
  induction n with
  | zero => intro k h1 h2; omega
  | succ n ih =>
    intro k h1 h2 w1 w2 w3 w4 w5 w6 w7 w8 w9 v
    rw [ok_X12_bar_L59_70_s, F_X12_bar_L59_70_s]
    by_cases h21 : k = 21
    · subst h21
      rw [if_pos (show (21 : Int32) ≤ nI 21 by decide)]
      refine ⟨fun q => absurd (by decide) q, w1, w2, w3, w4, w5, w6, w7, w8, w9, v, rfl, fun i => ⟨fun q => Or.inl q, ?_⟩⟩
      rintro (q | ⟨k', a', q1, -, q2, -⟩)
      · exact q
      · have := rc_lt wf q2; omega
    · obtain ⟨a1, u1, u2, u3, u4, u5, u6, u7, u8, u9, v0, a2, a3⟩ := by_acts R hh hx (k := k) (by omega) FU 0 (Nat.zero_le _) (by have := FU_ge; omega) w1 w2 w3 w4 w5 w6 w7 w8 w9 v
      rw [nI_0] at a1 a2
      rw [if_neg (le_lit (K := 21) 21 rfl (by omega) (by decide)), a2]
      dsimp only
      unfold ok_X12_bar_59_70_b129 F_X12_bar_59_70_b129
      rw [nI_1]
      obtain ⟨g1, v1, v2, v3, v4, v5, v6, v7, v8, v9, v', g2, g3⟩ := ih (k + 1) (by omega) (by omega) u1 u2 u3 u4 u5 u6 u7 u8 u9 v0
      refine ⟨fun _ => ⟨a1, g1⟩, v1, v2, v3, v4, v5, v6, v7, v8, v9, v', g2, fun i => ?_⟩
      rw [g3 i, a3 i]
      constructor
      · rintro ((q | ⟨q1, a', -, q2, q3⟩) | ⟨k', a', q1, q2⟩)
        · exact Or.inl q
        · exact Or.inr ⟨k, a', Nat.le_refl _, q2, q1, q3⟩
        · exact Or.inr ⟨k', a', by omega, q2⟩
      · rintro (q | ⟨k', a', q1, q2, q3, q4⟩)
        · exact Or.inl (Or.inl q)
        · by_cases q : k' = k
          · rw [q] at q3 q4
            exact Or.inl (Or.inr ⟨q3, a', Nat.zero_le _, q2, q4⟩)
          · exact Or.inr ⟨k', a', by omega, q2, q3, q4⟩
theorem SYs_0 {h : Nat} {v : Int32} (hv : SYs c h v) : v = 0 ↔ ¬ ∃ k, rc c h k := by
  rw [bt_eq0]
  constructor
  · rintro q ⟨k, hk⟩
    have := (hv k).mpr hk
    rw [q] at this; cases this
  · intro q i
    cases e : bt v i with
    | false => rfl
    | true => exact absurd ⟨i, (hv i).mp e⟩ q
theorem by_hours (R : RY c se ow wh fr to th mi ri op sh ho) (t bb bp : Int32) (lt ac : Nat → Int32) : ∀ n h, h ≤ 10 → 10 < h + n → ∀ (w1 w2 w3 w4 w5 w6 w7 w8 w9 v : Int32), SYs c h v →
    ok_X12_bar_L59 se ow wh fr to th mi ri op sh ho n w1 w2 w3 w4 w5 w6 w7 w8 w9 v (nI h) ∧
    (F_X12_bar_L59 se ow wh fr to th mi ri op sh ho (fun e59_0 e59_1 e59_2 e59_3 e59_4 e59_5 e59_6 e59_7 e59_8 => (F_X12_bar_b149 t e59_0 e59_1 e59_2 e59_3 e59_4 e59_5 e59_6 e59_7 e59_8 bb bp lt ac)) t bb bp lt ac n w1 w2 w3 w4 w5 w6 w7 w8 w9 v (nI h)).1 = oV 10 (lo (emp c) h (10 - h)) := by
  have wf := R.1
  intro n
  induction n with
  | zero => intro h h1 h2; omega
  | succ n ih =>
    intro h h1 h2 w1 w2 w3 w4 w5 w6 w7 w8 w9 v hv
    rw [ok_X12_bar_L59_s, F_X12_bar_L59_s]
    by_cases h10 : h = 10
    · subst h10
      rw [if_pos (show (10 : Int32) ≤ nI 10 by decide)]
      exact ⟨fun q => absurd (by decide) q, rfl⟩
    · have hh : h < 10 := by omega
      obtain ⟨a1, u1, u2, u3, u4, u5, u6, u7, u8, u9, v0, a2, a3⟩ := by_keys R hh hv FU 0 (Nat.zero_le _) (by have := FU_ge; omega) w1 w2 w3 w4 w5 w6 w7 w8 w9 0
      rw [nI_0] at a1 a2
      have hv0 : SYs c (h + 1) v0 := by
        intro i
        rw [a3 i, b_0]
        constructor
        · rintro (q | ⟨k', a', -, q2, q3, q4⟩)
          · cases q
          · exact ⟨k', a', q2, q3, q4⟩
        · rintro ⟨k', a', q2, q3, q4⟩
          exact Or.inr ⟨k', a', Nat.zero_le _, q2, q3, q4⟩
      rw [if_neg (le_lit (K := 10) 10 rfl hh (by decide)), a2]
      dsimp only
      unfold ok_X12_bar_59_b135 F_X12_bar_59_b135
      rw [nI_1, lo_at hh]
      obtain ⟨g1, g2⟩ := ih (h + 1) (by omega) (by omega) u1 u2 u3 u4 u5 u6 u7 u8 u9 v0 hv0
      by_cases q : v0 = 0
      · rw [if_pos q, if_pos (emp_t.mpr ((SYs_0 hv0).mp q))]
        exact ⟨fun _ => ⟨a1, fun q' => absurd q q'⟩, rfl⟩
      · rw [if_neg q, if_neg (fun q' => q ((SYs_0 hv0).mpr (emp_t.mp q')))]
        exact ⟨fun _ => ⟨a1, fun _ => g1⟩, g2⟩
/-- the bar, by the reference -/
theorem bar_Y (R : RY c se ow wh fr to th mi ri op sh ho) (w1 w2 w3 w4 w5 w6 w7 w8 w9 : Int32) (lt ac : Nat → Int32) : ok_X12_bar (nI (kN c)) se ow w1 w2 w3 w4 w5 w6 w7 w8 w9 wh fr to th mi ri op sh ho lt ac ∧ (F_X12_bar (nI (kN c)) se ow w1 w2 w3 w4 w5 w6 w7 w8 w9 wh fr to th mi ri op sh ho lt ac).1 = oV 10 (lo (emp c) 0 10) := by
  have wf := R.1
  obtain ⟨y1, v1, v2, v3, v4, v5, v6, v7, v8, v9, bb, bp, lt', ac', y2, y3⟩ := way_Y R (α := 0) (β := 0) (by decide) (by decide) w1 w2 w3 w4 w5 w6 w7 w8 w9 lt ac
  have y2' : F_X12_layWay (nI (kN c)) se ow w1 w2 w3 w4 w5 w6 w7 w8 w9 wh fr to th mi ri op sh ho lt ac 0 0 = (v1, v2, v3, v4, v5, v6, v7, v8, v9, bb, bp, lt', ac') := y2
  unfold ok_X12_bar F_X12_bar
  rw [y2']
  dsimp only
  unfold ok_X12_bar_b11 F_X12_bar_b11
  cases ho : bs c 0 0 10 with
  | none =>
    rw [ho] at y3
    obtain ⟨b1, b2⟩ := y3
    rw [if_pos b1]
    dsimp only
    unfold ok_X12_bar_b57 F_X12_bar_b57
    obtain ⟨n1, n2⟩ := bn_loop R FU 0 0 (Nat.zero_le _) (by have := FU_ge; omega)
    rw [nI_0] at n1 n2
    have hS : SYs c 0 (F_X12_bar_L27 (nI (kN c)) th FU 0 0) := by
      intro k
      rw [n2 k, b_0]
      constructor
      · rintro (q | ⟨-, -, q⟩)
        · cases q
        · exact bgb_iff.mp q
      · intro q
        have q' : Bg c k := q
        exact Or.inr ⟨Nat.zero_le _, q'.lt16 wf, bgb_iff.mpr q'⟩
    obtain ⟨h1, h2⟩ := by_hours R 0 bb bp lt' ac' FU 0 (Nat.zero_le _) (by have := FU_ge; omega) v1 v2 v3 v4 v5 v6 v7 v8 v9 _ hS
    exact ⟨⟨y1, fun _ => ⟨n1, h1⟩⟩, h2⟩
  | some e =>
    rw [ho] at y3
    obtain ⟨b1, b2, -⟩ := y3
    obtain ⟨s1, s2⟩ := bs_some ho
    have e9 : ¬ bb = -9 := by rw [b1]; exact nI_ne9 (by have := s1.lt16 wf; omega)
    rw [if_neg e9]
    refine ⟨⟨y1, fun q => absurd q e9⟩, ?_⟩
    have : lo (emp c) 0 10 = none := by
      cases el : lo (emp c) 0 10 with
      | none => rfl
      | some h =>
        obtain ⟨-, q1, q2, -⟩ := lo_some el
        exact absurd ⟨_, rc_wy wf s1 s2 (h + 1) (by omega)⟩ (emp_t.mp q2)
    rw [this]
    rfl
end BY1

/-! the class's table of steps -/
section TB1
variable {c : Cl} {pe se pl ow : Int32} {pr mi ri oF oL ho be en co nc : Nat → Int32}
theorem ix6 (i a : Nat) : nI i * (6 : Int32) + nI a = nI (i * 6 + a) := by
  rw [show nI i * (6 : Int32) = nI (i * 6) from pk_mul i 6, nI_add]
theorem pa_loop1 {h s i : Nat} (hi : i < 110) (x2 x3 : Int32) : ∀ n a, a ≤ 6 → 6 < a + n → ∀ (nx wk rk at' : Nat → Int32) (w1 w2 w3 w4 w5 w6 w7 w8 w9 : Int32), (∀ b, b < a → nx (i * 6 + b) = -9) →
    ok_X8_prepareActs_L30 pe se pl ow pr mi ri oF oL ho be en co nc x2 x3 (-9) (nI i) n nx wk rk at' w1 w2 w3 w4 w5 w6 w7 w8 w9 (nI a) ∧
    ∃ (nx' wk' rk' at'' : Nat → Int32) (v1 v2 v3 v4 v5 v6 v7 v8 v9 : Int32), F_X8_prepareActs_L30 pe se pl ow pr mi ri oF oL ho be en co nc x2 x3 (-9) (nI i) n nx wk rk at' w1 w2 w3 w4 w5 w6 w7 w8 w9 (nI a) = (nx', wk', rk', at'', v1, v2, v3, v4, v5, v6, v7, v8, v9) ∧ (∀ b, b < 6 → nx' (i * 6 + b) = -9) ∧ at'' i = at' i ∧ FR i nx wk rk at' nx' wk' rk' at'' := by
  intro n
  induction n with
  | zero => intro a h1 h2; omega
  | succ n ih =>
    intro a h1 h2 nx wk rk at' w1 w2 w3 w4 w5 w6 w7 w8 w9 hn
    rw [ok_X8_prepareActs_L30_s, F_X8_prepareActs_L30_s]
    by_cases h6 : a = 6
    · subst h6
      rw [if_pos (show (6 : Int32) ≤ nI 6 by decide)]
      exact ⟨fun q => absurd (by decide) q, nx, wk, rk, at', w1, w2, w3, w4, w5, w6, w7, w8, w9, rfl, hn, rfl, FR_refl _ _ _ _ _⟩
    · rw [if_neg (le_lit (K := 6) 6 rfl (by omega) (by decide)), if_pos rfl, ix6, nI_clamp (by omega), nI_1]
      obtain ⟨g1, nx', wk', rk', at'', v1, v2, v3, v4, v5, v6, v7, v8, v9, g2, g3, g4, g5⟩ := ih (a + 1) (by omega) (by omega) (upd nx (i * 6 + a) (-9)) wk rk at' w1 w2 w3 w4 w5 w6 w7 w8 w9 (fun b hb => by
        by_cases q : b = a
        · rw [q, pk_us]
        · rw [pk_un (by omega)]; exact hn b (by omega))
      refine ⟨fun _ => ⟨fun _ => ⟨vp_in_nI (by omega) (by decide), g1⟩, fun q => absurd rfl q⟩, nx', wk', rk', at'', v1, v2, v3, v4, v5, v6, v7, v8, v9, g2, g3, g4, FR_trans (FR_upd1 (by omega) _ _ _ _ _) g5⟩
theorem pa_loop2 (R : RX c pe se pl ow pr mi ri oF oL ho be en co nc) {h s i : Nat} (hh : h < 10) (hs : s < 11) (hi : i < 110) (hp : ps c h (kw s) = true) : ∀ n a, a ≤ 6 → 6 < a + n → ∀ (nx wk rk at' : Nat → Int32) (w1 w2 w3 w4 w5 w6 w7 w8 w9 : Int32), (∀ b, b < a → nx (i * 6 + b) = sI (st c h b (kw s)) ∧ wk (i * 6 + b) = nI (pz c h b (kw s))) → (0 < a → rk i = nI (rz c h (kw s)) ∧ at' i = bI (aq c h (kw s))) → (a = 0 → at' i = 1) →
    ok_X8_prepareActs_L30 pe se pl ow pr mi ri oF oL ho be en co nc (nI h) (nI s) (gng c h) (nI i) n nx wk rk at' w1 w2 w3 w4 w5 w6 w7 w8 w9 (nI a) ∧
    ∃ (nx' wk' rk' at'' : Nat → Int32) (v1 v2 v3 v4 v5 v6 v7 v8 v9 : Int32), F_X8_prepareActs_L30 pe se pl ow pr mi ri oF oL ho be en co nc (nI h) (nI s) (gng c h) (nI i) n nx wk rk at' w1 w2 w3 w4 w5 w6 w7 w8 w9 (nI a) = (nx', wk', rk', at'', v1, v2, v3, v4, v5, v6, v7, v8, v9) ∧ (∀ b, b < 6 → nx' (i * 6 + b) = sI (st c h b (kw s)) ∧ wk' (i * 6 + b) = nI (pz c h b (kw s))) ∧ rk' i = nI (rz c h (kw s)) ∧ at'' i = bI (aq c h (kw s)) ∧ FR i nx wk rk at' nx' wk' rk' at'' := by
  have wf := R.1
  have hz := ps_ZI wf hp
  have h9 := gng_ne9 wf h
  intro n
  induction n with
  | zero => intro a h1 h2; omega
  | succ n ih =>
    intro a h1 h2 nx wk rk at' w1 w2 w3 w4 w5 w6 w7 w8 w9 hn hr h0
    rw [ok_X8_prepareActs_L30_s, F_X8_prepareActs_L30_s]
    by_cases h6 : a = 6
    · subst h6
      rw [if_pos (show (6 : Int32) ≤ nI 6 by decide)]
      exact ⟨fun q => absurd (by decide) q, nx, wk, rk, at', w1, w2, w3, w4, w5, w6, w7, w8, w9, rfl, hn, (hr (by decide)).1, (hr (by decide)).2, FR_refl _ _ _ _ _⟩
    · have hv : vp_in (nI (i * 6 + a)) 660 := vp_in_nI (by omega) (by decide)
      have hvi : vp_in (nI i) 110 := vp_in_nI hi (by decide)
      rw [if_neg (le_lit (K := 6) 6 rfl (by omega) (by decide)), if_neg h9, ix6, nI_clamp (show i < 2 ^ 31 by omega), nI_clamp (show i * 6 + a < 2 ^ 31 by omega)]
      by_cases hat : at' i = 0
      · have ha0 : 0 < a := by
          cases a with
          | zero => rw [h0 rfl] at hat; exact absurd hat (by decide)
          | succ a => omega
        have haq : za c h 0 false (zg c h (kw s)) = false := by
          have e := (hr ha0).2
          rw [hat] at e
          have e2 := bI_0.mp e.symm
          unfold aq at e2
          rw [hp, Bool.true_and] at e2
          exact e2
        obtain ⟨a', rfl⟩ : ∃ a', a = a' + 1 := ⟨a - 1, by omega⟩
        rw [if_pos hat, show i * 6 + (a' + 1) = i * 6 + a' + 1 by omega, nI_pred, nI_clamp (by omega), nI_1, (hn a' (by omega)).1, (hn a' (by omega)).2, (st_na haq a' (a' + 1)).1, (st_na haq a' (a' + 1)).2, show i * 6 + a' + 1 = i * 6 + (a' + 1) by omega]
        obtain ⟨g1, g2⟩ := ih (a' + 1 + 1) (by omega) (by omega) (upd nx (i * 6 + (a' + 1)) (sI (st c h (a' + 1) (kw s)))) (upd wk (i * 6 + (a' + 1)) (nI (pz c h (a' + 1) (kw s)))) rk at' w1 w2 w3 w4 w5 w6 w7 w8 w9 (fun b hb => by
          by_cases q : b = a' + 1
          · rw [q, pk_us, pk_us]; exact ⟨rfl, rfl⟩
          · rw [pk_un (by omega), pk_un (by omega)]; exact hn b (by omega)) (fun _ => hr ha0) (fun q => by omega)
        obtain ⟨nx', wk', rk', at'', v1, v2, v3, v4, v5, v6, v7, v8, v9, k2, k3, k4, k5, k6⟩ := g2
        have hv' : vp_in (nI (i * 6 + a')) 660 := vp_in_nI (by omega) (by decide)
        refine ⟨fun _ => ⟨fun q => absurd q h9, fun _ => ⟨hvi, fun _ => ⟨hv', hv, hv', hv, g1⟩, fun q => absurd hat q⟩⟩, nx', wk', rk', at'', v1, v2, v3, v4, v5, v6, v7, v8, v9, k2, k3, k4, k5, FR_trans (FR_upd2 (by omega) _ _ _ _ _ _) k6⟩
      · have ewh : F_X11_whereAt (nI s) = nI (kw s) := by
          have := whereAt_X (Vk_kw hs)
          rw [sp_kw hs] at this
          exact this
        obtain ⟨p1, p2⟩ := ph_X R hh (show a ≤ 5 by omega) hz 0 0 0 0 0 false rfl
        have p2' : F_X3_passHour (nI h) (nI (kw s)) (gng c h) 0 0 0 0 0 pe se pl ow pr mi ri oF oL ho be en co nc (nI a) 0 = _ := p2
        rw [if_neg hat, ewh]
        unfold F_X3_startIn
        dsimp only
        unfold ok_X8_prepareActs_30_b90 F_X8_prepareActs_30_b90
        rw [p2']
        dsimp only
        unfold ok_X8_prepareActs_30_b101 F_X8_prepareActs_30_b101
        have hzn := zn_le c h (zg c h (kw s))
        have hzN := zN_ZI wf (h := h) (a := a) (fg := false) hz
        have hvk : Vk (zN c h a false (zg c h (kw s))).1 := by
          rcases hzN.1 with q | ⟨q, -⟩
          · exact q.vk wf
          · exact Or.inr (Or.inr q)
        have est : (if (0 : Int32) + nI (zn c h (zg c h (kw s))) = 0 then F_X11_spotOf (nI (zN c h a false (zg c h (kw s))).1) else -9) = sI (st c h a (kw s)) := by
          rw [Int32.zero_add]
          unfold st
          by_cases q : zn c h (zg c h (kw s)) = 0
          · rw [q, if_pos (show nI 0 = (0 : Int32) from rfl), if_pos (by rw [hp]; rfl), spotOf_X hvk]; rfl
          · rw [if_neg (nI_ne0 (by omega) (by omega)), if_neg (by simp [q])]; rfl
        rw [est, nar_b, nI_clamp (show i < 2 ^ 31 by omega), nI_clamp (show i * 6 + a < 2 ^ 31 by omega), nI_1, Int32.zero_add, Int32.zero_add]
        have ez : za c h a false (zg c h (kw s)) = aq c h (kw s) := by
          unfold aq
          rw [hp, Bool.true_and]
          exact za_ind _ _ _ _ _ _ _
        rw [ez]
        obtain ⟨g1, g2⟩ := ih (a + 1) (by omega) (by omega) (upd nx (i * 6 + a) (sI (st c h a (kw s)))) (upd wk (i * 6 + a) (nI (zw c h a false (zg c h (kw s))))) (upd rk i (nI (zr c h (zg c h (kw s))))) (upd at' i (bI (aq c h (kw s)))) (nI ((h + 1) % 10)) (nI (zN c h a false (zg c h (kw s))).1) (zN c h a false (zg c h (kw s))).2.1 (zN c h a false (zg c h (kw s))).2.2 (nI (zw c h a false (zg c h (kw s)))) (nI (zr c h (zg c h (kw s)))) (0 + nI (zn c h (zg c h (kw s)))) (zS c h (zg c h (kw s))) (bI (aq c h (kw s))) (fun b hb => by
          by_cases q : b = a
          · rw [q, pk_us, pk_us]; exact ⟨rfl, rfl⟩
          · rw [pk_un (by omega), pk_un (by omega)]; exact hn b (by omega)) (fun _ => ⟨pk_us, pk_us⟩) (fun q => by omega)
        obtain ⟨nx', wk', rk', at'', v1, v2, v3, v4, v5, v6, v7, v8, v9, k2, k3, k4, k5, k6⟩ := g2
        refine ⟨fun _ => ⟨fun q => absurd q h9, fun _ => ⟨hvi, fun q => absurd q hat, fun _ => ⟨p1, hvi, hvi, hv, hv, g1⟩⟩⟩, nx', wk', rk', at'', v1, v2, v3, v4, v5, v6, v7, v8, v9, k2, k3, k4, k5, FR_trans (FR_upd (by omega) _ _ _ _ _ _ _ _) k6⟩
theorem ix11 (h s : Nat) : nI h * (11 : Int32) + nI s = nI (h * 11 + s) := by
  rw [show nI h * (11 : Int32) = nI (h * 11) from pk_mul h 11, nI_add]
theorem pa_X (R : RX c pe se pl ow pr mi ri oF oL ho be en co nc) {h s : Nat} (hh : h < 10) (hs : s < 11) (nx wk rk at' : Nat → Int32) (w1 w2 w3 w4 w5 w6 w7 w8 w9 : Int32) :
    ok_X8_prepareActs nx wk rk at' w1 w2 w3 w4 w5 w6 w7 w8 w9 pe se pl ow pr mi ri oF oL ho be en co nc (nI h) (nI s) (if ps c h (kw s) = true then gng c h else -9) ∧
    ∃ (nx' wk' rk' at'' : Nat → Int32) (v1 v2 v3 v4 v5 v6 v7 v8 v9 : Int32), F_X8_prepareActs nx wk rk at' w1 w2 w3 w4 w5 w6 w7 w8 w9 pe se pl ow pr mi ri oF oL ho be en co nc (nI h) (nI s) (if ps c h (kw s) = true then gng c h else -9) = (nx', wk', rk', at'', v1, v2, v3, v4, v5, v6, v7, v8, v9) ∧ EN c (h * 11 + s) nx' wk' rk' at'' ∧ FR (h * 11 + s) nx wk rk at' nx' wk' rk' at'' := by
  have wf := R.1
  have hi : h * 11 + s < 110 := by omega
  have hd : (h * 11 + s) / 11 = h := by omega
  have hm : (h * 11 + s) % 11 = s := by omega
  have hvi : vp_in (nI (h * 11 + s)) 110 := vp_in_nI hi (by decide)
  unfold ok_X8_prepareActs F_X8_prepareActs
  rw [ix11, nI_clamp (by omega)]
  cases hp : ps c h (kw s) with
  | true =>
    rw [if_pos rfl, if_neg (gng_ne9 wf h), show vp_nar .boolean (1 : Int32) = 1 from nar_b true]
    obtain ⟨g1, nx', wk', rk', at'', v1, v2, v3, v4, v5, v6, v7, v8, v9, k2, k3, k4, k5, k6⟩ := pa_loop2 R hh hs hi hp FU 0 (by decide) (by have := FU_ge; omega) nx wk rk (upd at' (h * 11 + s) 1) w1 w2 w3 w4 w5 w6 w7 w8 w9 (fun b hb => by omega) (fun q => by omega) (fun _ => pk_us)
    rw [nI_0] at g1 k2
    rw [k2]
    refine ⟨⟨hvi, g1⟩, nx', wk', rk', at'', v1, v2, v3, v4, v5, v6, v7, v8, v9, rfl, ?_, FR_trans (FR_updA _ _ _ _ _) k6⟩
    unfold EN
    rw [hd, hm]
    exact ⟨fun a ha => ⟨(k3 a ha).1, fun _ => (k3 a ha).2⟩, fun _ => k4, k5⟩
  | false =>
    rw [if_neg nft, if_pos rfl, show vp_nar .boolean (0 : Int32) = 0 from nar_b false]
    obtain ⟨g1, nx', wk', rk', at'', v1, v2, v3, v4, v5, v6, v7, v8, v9, k2, k3, k4, k5⟩ := pa_loop1 (pe := pe) (se := se) (pl := pl) (ow := ow) (pr := pr) (mi := mi) (ri := ri) (oF := oF) (oL := oL) (ho := ho) (be := be) (en := en) (co := co) (nc := nc) (h := h) (s := s) hi (nI h) (nI s) FU 0 (by decide) (by have := FU_ge; omega) nx wk rk (upd at' (h * 11 + s) 0) w1 w2 w3 w4 w5 w6 w7 w8 w9 (fun b hb => by omega)
    rw [nI_0] at g1 k2
    rw [k2]
    refine ⟨⟨hvi, g1⟩, nx', wk', rk', at'', v1, v2, v3, v4, v5, v6, v7, v8, v9, rfl, ?_, FR_trans (FR_updA _ _ _ _ _) k5⟩
    unfold EN
    rw [hd, hm, hp]
    refine ⟨fun a ha => ⟨?_, fun q => absurd q nft⟩, fun q => absurd q nft, ?_⟩
    · rw [k3 a ha]
      unfold st
      rw [hp, Bool.false_and, if_neg nft]; rfl
    · rw [k4, pk_us]
      unfold aq
      rw [hp]; rfl
theorem pp_loop (R : RX c pe se pl ow pr mi ri oF oL ho be en co nc) {h : Nat} (hh : h < 10) : ∀ n s, s ≤ 11 → 11 < s + n → ∀ (nx wk rk at' : Nat → Int32) (w1 w2 w3 w4 w5 w6 w7 w8 w9 : Int32), (∀ i, i < h * 11 + s → EN c i nx wk rk at') →
    ok_X8_prepare_L2_17 pe se pl ow pr mi ri oF oL ho be en co nc (nI h) (gng c h) n nx wk rk at' w1 w2 w3 w4 w5 w6 w7 w8 w9 (nI s) ∧
    ∃ (nx' wk' rk' at'' : Nat → Int32) (v1 v2 v3 v4 v5 v6 v7 v8 v9 : Int32), F_X8_prepare_L2_17 pe se pl ow pr mi ri oF oL ho be en co nc (nI h) (gng c h) n nx wk rk at' w1 w2 w3 w4 w5 w6 w7 w8 w9 (nI s) = (nx', wk', rk', at'', v1, v2, v3, v4, v5, v6, v7, v8, v9) ∧ (∀ i, i < h * 11 + 11 → EN c i nx' wk' rk' at'') := by
  have wf := R.1
  intro n
  induction n with
  | zero => intro s h1 h2; omega
  | succ n ih =>
    intro s h1 h2 nx wk rk at' w1 w2 w3 w4 w5 w6 w7 w8 w9 hE
    rw [ok_X8_prepare_L2_17_s, F_X8_prepare_L2_17_s]
    by_cases h11 : s = 11
    · subst h11
      rw [if_pos (show (11 : Int32) ≤ nI 11 by decide)]
      exact ⟨fun q => absurd (by decide) q, nx, wk, rk, at', w1, w2, w3, w4, w5, w6, w7, w8, w9, rfl, hE⟩
    · have hs : s < 11 := by omega
      have ewh : F_X11_whereAt (nI s) = nI (kw s) := by
        have := whereAt_X (Vk_kw hs)
        rw [sp_kw hs] at this
        exact this
      have hkw : kw s < 21 := by have := Vk_kw hs; unfold Vk at this; omega
      have e4 : (if (if nI (kw s) = (20 : Int32) then (if gng c h = 0 then (0 : Int32) else 1) else F_X1_isBegin pe pl (nI (kw s))) = 0 then (-9 : Int32) else gng c h) = if ps c h (kw s) = true then gng c h else -9 := by
        rw [isBegin_X R (by omega)]
        unfold ps
        by_cases q : kw s = 20
        · rw [if_pos q, if_pos ((eq_lit (K := 20) 20 rfl (by omega) (by decide)).mpr q)]
          by_cases q2 : gng c h = 0
          · rw [if_pos q2, if_pos rfl, if_neg (by simp [q2])]
          · rw [if_neg q2, if_neg i10, if_pos (by simp [q2])]
        · rw [if_neg q, if_neg (fun q2 => q ((eq_lit (K := 20) 20 rfl (by omega) (by decide)).mp q2))]
          cases bgb c (kw s) with
          | true => rw [if_neg bI_tn, if_pos rfl]
          | false => rw [if_pos bI_f, if_neg nft]
      obtain ⟨p1, nx1, wk1, rk1, at1, u1, u2, u3, u4, u5, u6, u7, u8, u9, p2, p3, p4⟩ := pa_X R hh hs nx wk rk at' w1 w2 w3 w4 w5 w6 w7 w8 w9
      rw [if_neg (le_lit (K := 11) 11 rfl (by omega) (by decide)), ewh, e4, p2]
      dsimp only
      unfold ok_X8_prepare_2_17_b77 F_X8_prepare_2_17_b77
      rw [nI_1]
      obtain ⟨g1, g2⟩ := ih (s + 1) (by omega) (by omega) nx1 wk1 rk1 at1 u1 u2 u3 u4 u5 u6 u7 u8 u9 (fun i hi => by
        by_cases q : i = h * 11 + s
        · rw [q]; exact p3
        · exact EN_FR p4 q (hE i (by omega)))
      exact ⟨fun _ => ⟨p1, g1⟩, g2⟩
theorem pr_loop (R : RX c pe se pl ow pr mi ri oF oL ho be en co nc) {fi la : Nat → Int32} (hf : ∀ s, s < kS c → fi s = nI (kF c s) ∧ la s = nI (kT c s)) : ∀ n h, h ≤ 10 → 10 < h + n → ∀ (nx wk rk at' : Nat → Int32) (w1 w2 w3 w4 w5 w6 w7 w8 w9 : Int32), (∀ i, i < h * 11 → EN c i nx wk rk at') →
    ok_X8_prepare_L2 pe se pl ow pr fi la mi ri oF oL ho be en co nc n nx wk rk at' w1 w2 w3 w4 w5 w6 w7 w8 w9 (nI h) ∧
    ∃ (nx' wk' rk' at'' : Nat → Int32) (v1 v2 v3 v4 v5 v6 v7 v8 v9 : Int32), F_X8_prepare_L2 pe se pl ow pr fi la mi ri oF oL ho be en co nc n nx wk rk at' w1 w2 w3 w4 w5 w6 w7 w8 w9 (nI h) = (nx', wk', rk', at'', v1, v2, v3, v4, v5, v6, v7, v8, v9) ∧ (∀ i, i < 110 → EN c i nx' wk' rk' at'') := by
  intro n
  induction n with
  | zero => intro h h1 h2; omega
  | succ n ih =>
    intro h h1 h2 nx wk rk at' w1 w2 w3 w4 w5 w6 w7 w8 w9 hE
    rw [ok_X8_prepare_L2_s, F_X8_prepare_L2_s]
    by_cases h10 : h = 10
    · subst h10
      rw [if_pos (show (10 : Int32) ≤ nI 10 by decide)]
      exact ⟨fun q => absurd (by decide) q, nx, wk, rk, at', w1, w2, w3, w4, w5, w6, w7, w8, w9, rfl, hE⟩
    · have hh : h < 10 := by omega
      obtain ⟨u1', u2'⟩ := under_X R hf hh
      obtain ⟨p1, nx1, wk1, rk1, at1, u1, u2, u3, u4, u5, u6, u7, u8, u9, p2, p3⟩ := pp_loop R hh FU 0 (by decide) (by have := FU_ge; omega) nx wk rk at' w1 w2 w3 w4 w5 w6 w7 w8 w9 (fun i hi => hE i (by omega))
      rw [nI_0] at p1 p2
      rw [if_neg (le_lit (K := 10) 10 rfl hh (by decide)), u2', p2]
      dsimp only
      unfold ok_X8_prepare_2_b83 F_X8_prepare_2_b83
      rw [nI_1]
      obtain ⟨g1, g2⟩ := ih (h + 1) (by omega) (by omega) nx1 wk1 rk1 at1 u1 u2 u3 u4 u5 u6 u7 u8 u9 (fun i hi => p3 i (by omega))
      exact ⟨fun _ => ⟨u1', p1, g1⟩, g2⟩
/-- the table, by hour and where the key is -/
def TB (c : Cl) (nx wk rk at' : Nat → Int32) : Prop := ∀ h k, h < 10 → Vk k → (∀ a, a < 6 → nx ((h * 11 + sp k) * 6 + a) = sI (st c h a k) ∧ (ps c h k = true → wk ((h * 11 + sp k) * 6 + a) = nI (pz c h a k))) ∧ (ps c h k = true → rk (h * 11 + sp k) = nI (rz c h k)) ∧ at' (h * 11 + sp k) = bI (aq c h k)
theorem prep_X (R : RX c pe se pl ow pr mi ri oF oL ho be en co nc) {fi la : Nat → Int32} (hf : ∀ s, s < kS c → fi s = nI (kF c s) ∧ la s = nI (kT c s)) (nx wk rk at' : Nat → Int32) (w1 w2 w3 w4 w5 w6 w7 w8 w9 : Int32) :
    ok_X8_prepare nx wk rk at' w1 w2 w3 w4 w5 w6 w7 w8 w9 pe se pl ow pr fi la mi ri oF oL ho be en co nc ∧
    ∃ (nx' wk' rk' at'' : Nat → Int32) (v1 v2 v3 v4 v5 v6 v7 v8 v9 : Int32), F_X8_prepare nx wk rk at' w1 w2 w3 w4 w5 w6 w7 w8 w9 pe se pl ow pr fi la mi ri oF oL ho be en co nc = (nx', wk', rk', at'', v1, v2, v3, v4, v5, v6, v7, v8, v9) ∧ TB c nx' wk' rk' at'' := by
  obtain ⟨g1, nx', wk', rk', at'', v1, v2, v3, v4, v5, v6, v7, v8, v9, g2, g3⟩ := pr_loop R hf FU 0 (by decide) (by have := FU_ge; omega) nx wk rk at' w1 w2 w3 w4 w5 w6 w7 w8 w9 (fun i hi => by omega)
  rw [nI_0] at g1 g2
  unfold ok_X8_prepare F_X8_prepare
  rw [g2]
  refine ⟨g1, nx', wk', rk', at'', v1, v2, v3, v4, v5, v6, v7, v8, v9, rfl, fun h k hh hk => ?_⟩
  have hs := sp_le k
  have e := g3 (h * 11 + sp k) (by omega)
  unfold EN at e
  rw [show (h * 11 + sp k) / 11 = h by omega, show (h * 11 + sp k) % 11 = sp k by omega, kw_sp hk] at e
  exact e
end TB1

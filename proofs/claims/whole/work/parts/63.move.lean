/-! whose hours to move -/
def mo (f t : Nat) : Option Nat := if t = 0 then (if 1 ≤ f then some (f - 1) else none) else if t = 1 then (if f + 1 ≤ 9 then some (f + 1) else none) else if t = 2 then (if 2 ≤ f then some (f - 2) else none) else (if f + 2 ≤ 9 then some (f + 2) else none)
noncomputable def moP (f t : Nat) : Bool := match mo f t with
  | none => decide (F_X11_isHour (nI f + mv t) = 0)
  | some h => decide (h < 10) && decide (nI f + mv t = nI h)
theorem mo_all : ∀ f, f < 10 → ∀ t, t < 4 → moP f t = true := by decide +kernel
theorem mo_n {f t : Nat} (hf : f < 10) (ht : t < 4) (e : mo f t = none) : F_X11_isHour (nI f + mv t) = 0 := by
  have h := mo_all f hf t ht
  unfold moP at h
  rw [e] at h
  exact of_decide_eq_true h
theorem mo_s {f t h : Nat} (hf : f < 10) (ht : t < 4) (e : mo f t = some h) : h < 10 ∧ nI f + mv t = nI h := by
  have q := mo_all f hf t ht
  unfold moP at q
  rw [e] at q
  have q' : (decide (h < 10) && decide (nI f + mv t = nI h)) = true := q
  rw [Bool.and_eq_true, decide_eq_true_eq, decide_eq_true_eq] at q'
  exact q'
noncomputable def hlp (c : Cl) (A : Nat → Nat) (b t s : Nat) : Bool := match mo (kF c s) t with
  | none => false
  | some h => mb c s h && nev (mvc c s h) A b
noncomputable def mvr (c : Cl) (A : Nat → Nat) (b : Nat) : Nat → Nat → Option (Nat × Nat)
  | _, 0 => none
  | t, d + 1 => match lo (hlp c A b t) 0 (kS c) with
    | some s => some (t, s)
    | none => mvr c A b (t + 1) d
def mvI : Option (Nat × Nat) → Int32
  | none => -9
  | some (t, s) => (10 : Int32) * nI s + 2 + mv t
theorem mb_len {c : Cl} {s h : Nat} (q : mb c s h = true) : h + (kT c s - kF c s) ≤ 9 := by
  unfold mb at q
  rw [Bool.and_eq_true, decide_eq_true_eq] at q
  exact q.1
theorem Bg_mvc {c : Cl} {s h k : Nat} (q : Bg c k) : Bg (mvc c s h) k := q
section MV1
variable {c : Cl} {pe se pl ow : Int32} {pr mi ri oF oL ho be en co nc : Nat → Int32}
theorem hm_X (R : RX c pe se pl ow pr mi ri oF oL ho be en co nc) {fi la : Nat → Int32} (hf : Fx c fi la) {ac : Nat → Int32} {A : Nat → Nat} (hA : ∀ h, h < 10 → ac h = nI (A h) ∧ A h ≤ 5) {b s t : Nat} (hb : Bg c b) (hs : s < kS c) (ht : t < 4) (w1 w2 w3 w4 w5 w6 w7 w8 w9 : Int32) (kA sA : Nat → Int32) :
    ok_X11_helpsToMove pe se pl ow pr fi la mi ri oF oL ho be en co nc w1 w2 w3 w4 w5 w6 w7 w8 w9 kA sA ac (nI s) (mv t) (nI b) ∧
    ∃ (fi' la' be' en' co' nc' : Nat → Int32) (v1 v2 v3 v4 v5 v6 v7 v8 v9 : Int32) (kA' sA' : Nat → Int32), F_X11_helpsToMove pe se pl ow pr fi la mi ri oF oL ho be en co nc w1 w2 w3 w4 w5 w6 w7 w8 w9 kA sA ac (nI s) (mv t) (nI b) = (bI (hlp c A b t s), fi', la', be', en', co', nc', v1, v2, v3, v4, v5, v6, v7, v8, v9, kA', sA') ∧ RX c pe se pl ow pr mi ri oF oL ho be' en' co' nc' ∧ Fx c fi' la' := by
  have w := R.1
  have hS := w.s8
  have hws := w.ss hs
  have hv : vp_in (nI s) 8 := vp_in_nI (by omega) (by decide)
  unfold ok_X11_helpsToMove F_X11_helpsToMove hlp
  rw [nI_clamp (by omega), (hf s hs).1]
  cases eo : mo (kF c s) t with
  | none =>
    have hm := mo_n (show kF c s < 10 by omega) ht eo
    obtain ⟨m1, m2⟩ := mb_Xn (se := se) (pr := pr) (fi := fi) (la := la) (x1 := nI s) hm
    rw [m2, if_pos rfl]
    exact ⟨⟨hv, m1, fun q => absurd rfl q⟩, fi, la, be, en, co, nc, w1, w2, w3, w4, w5, w6, w7, w8, w9, kA, sA, rfl, R, hf⟩
  | some h =>
    obtain ⟨hh, he⟩ := mo_s (show kF c s < 10 by omega) ht eo
    rw [he]
    have hm1 := mb_X w (pr := pr) R.2.2.2.2.2.1 hf hs hh
    rw [← R.2.2.1] at hm1
    obtain ⟨m1, m2⟩ := hm1
    rw [m2]
    show _ ∧ ∃ (fi' la' be' en' co' nc' : Nat → Int32) (v1 v2 v3 v4 v5 v6 v7 v8 v9 : Int32) (kA' sA' : Nat → Int32), _ = (bI (mb c s h && nev (mvc c s h) A b), _) ∧ _
    cases hmb : mb c s h with
    | false =>
      rw [if_pos bI_f]
      exact ⟨⟨hv, m1, fun q => absurd rfl q⟩, fi, la, be, en, co, nc, w1, w2, w3, w4, w5, w6, w7, w8, w9, kA, sA, rfl, R, hf⟩
    | true =>
      have hlen := mb_len hmb
      obtain ⟨b1, fi1, la1, be1, en1, co1, nc1, b2, R1, hf1⟩ := beg_X R hf hs hlen
      rw [if_neg bI_tn, b2]
      dsimp only
      unfold ok_X11_helpsToMove_b40 F_X11_helpsToMove_b40
      have hr := rgp_spec R1.1 (A := A) (Bg_mvc (s := s) (h := h) hb)
      obtain ⟨n1, n2⟩ := never_X R1 hA (Bg_mvc hb) hr w1 w2 w3 w4 w5 w6 w7 w8 w9 kA sA
      have n2' : (F_X4_nobodyStands w1 w2 w3 w4 w5 w6 w7 w8 w9 kA sA pe se pl ow pr mi ri oF oL ho be1 en1 co1 nc1 ac (nI b)).1 = bI (nev (mvc c s h) A b) := n2
      dsimp only
      unfold ok_X11_helpsToMove_b54 F_X11_helpsToMove_b54
      have hlen2 : kF c s + (kT (mvc c s h) s - kF (mvc c s h) s) ≤ 9 := by
        rw [mvc_F, mvc_T, if_pos rfl, if_pos rfl]; omega
      obtain ⟨d1, fi2, la2, be2, en2, co2, nc2, d2, R2, hf2⟩ := beg_X R1 hf1 (s := s) (h := kF c s) hs hlen2
      rw [mvc_back w hs] at R2 hf2
      rw [d2, n2']
      dsimp only
      unfold ok_X11_helpsToMove_b66 F_X11_helpsToMove_b66
      exact ⟨⟨hv, m1, fun _ => ⟨b1, n1, d1, isB_bI _⟩⟩, fi2, la2, be2, en2, co2, nc2, _, _, _, _, _, _, _, _, _, _, _, rfl, R2, hf2⟩
theorem mi_loop {fi0 la0 : Nat → Int32} {ac : Nat → Int32} {A : Nat → Nat} (hA : ∀ h, h < 10 → ac h = nI (A h) ∧ A h ≤ 5) {b t : Nat} (hb : Bg c b) (ht : t < 4) (kx : (Nat → Int32) → (Nat → Int32) → (Nat → Int32) → (Nat → Int32) → (Nat → Int32) → (Nat → Int32) → Int32 → Int32 → Int32 → Int32 → Int32 → Int32 → Int32 → Int32 → Int32 → (Nat → Int32) → (Nat → Int32) → Int32 × (Nat → Int32) × (Nat → Int32) × (Nat → Int32) × (Nat → Int32) × (Nat → Int32) × (Nat → Int32) × Int32 × Int32 × Int32 × Int32 × Int32 × Int32 × Int32 × Int32 × Int32 × (Nat → Int32) × (Nat → Int32)) (okx : (Nat → Int32) → (Nat → Int32) → (Nat → Int32) → (Nat → Int32) → (Nat → Int32) → (Nat → Int32) → Int32 → Int32 → Int32 → Int32 → Int32 → Int32 → Int32 → Int32 → Int32 → (Nat → Int32) → (Nat → Int32) → Prop) (ru : Nat → Option Nat) (ar : Nat) (x1 : Int32) (hx1 : vp_in x1 3) (hru : ru x1.toNatClampNeg = some ar) : ∀ n s, s ≤ kS c → kS c < s + n → ∀ (fi la be en co nc : Nat → Int32) (w1 w2 w3 w4 w5 w6 w7 w8 w9 : Int32) (kA sA : Nat → Int32), RX c pe se pl ow pr mi ri oF oL ho be en co nc → Fx c fi la →
    (lo (hlp c A b t) s (kS c - s) = none → ∀ (fi la be en co nc : Nat → Int32) (w1 w2 w3 w4 w5 w6 w7 w8 w9 : Int32) (kA sA : Nat → Int32), RX c pe se pl ow pr mi ri oF oL ho be en co nc → Fx c fi la → okx fi la be en co nc w1 w2 w3 w4 w5 w6 w7 w8 w9 kA sA) →
    ok_X11_move_L37_48 ar pe se pl ow pr mi ri oF oL ho ru ac x1 (nI b) okx (nI t) n fi la be en co nc w1 w2 w3 w4 w5 w6 w7 w8 w9 kA sA (nI s) ∧
    ∃ (fi' la' be' en' co' nc' : Nat → Int32) (v1 v2 v3 v4 v5 v6 v7 v8 v9 : Int32) (kA' sA' : Nat → Int32), RX c pe se pl ow pr mi ri oF oL ho be' en' co' nc' ∧ Fx c fi' la' ∧
      (∀ s', lo (hlp c A b t) s (kS c - s) = some s' → F_X11_move_L37_48 pe se pl ow pr mi ri oF oL ho ac (nI b) kx (nI t) n fi la be en co nc w1 w2 w3 w4 w5 w6 w7 w8 w9 kA sA (nI s) = ((10 : Int32) * nI s' + 2 + mv t, fi', la', be', en', co', nc', v1, v2, v3, v4, v5, v6, v7, v8, v9, kA', sA')) ∧
      (lo (hlp c A b t) s (kS c - s) = none → F_X11_move_L37_48 pe se pl ow pr mi ri oF oL ho ac (nI b) kx (nI t) n fi la be en co nc w1 w2 w3 w4 w5 w6 w7 w8 w9 kA sA (nI s) = kx fi' la' be' en' co' nc' v1 v2 v3 v4 v5 v6 v7 v8 v9 kA' sA') := by
  intro n
  induction n with
  | zero => intro s h1 h2; omega
  | succ n ih =>
    intro s h1 h2 fi la be en co nc w1 w2 w3 w4 w5 w6 w7 w8 w9 kA sA R hf hok
    have w := R.1
    have hS := w.s8
    rw [ok_X11_move_L37_48_s, F_X11_move_L37_48_s]
    have hse : se = nI (kS c) := R.2.2.1
    by_cases e : s = kS c
    · have el : lo (hlp c A b t) s (kS c - s) = none := by rw [e]; exact lo_end
      have hle : se ≤ nI s := by rw [hse, e]; exact Int32.le_refl _
      rw [if_pos hle]
      refine ⟨⟨fun _ => hok el fi la be en co nc w1 w2 w3 w4 w5 w6 w7 w8 w9 kA sA R hf, fun q => absurd hle q⟩, fi, la, be, en, co, nc, w1, w2, w3, w4, w5, w6, w7, w8, w9, kA, sA, R, hf, fun s' q => ?_, fun _ => rfl⟩
      rw [el] at q; cases q
    · have hs : s < kS c := by omega
      have hv4 : vp_in (nI t) 4 := vp_in_nI ht (by decide)
      have hnl : ¬ se ≤ nI s := by rw [hse]; exact nI_ge hs (by omega)
      have hm := hm_X R hf hA hb hs ht w1 w2 w3 w4 w5 w6 w7 w8 w9 kA sA
      obtain ⟨m1, fi1, la1, be1, en1, co1, nc1, u1, u2, u3, u4, u5, u6, u7, u8, u9, kA1, sA1, m2, R1, hf1⟩ := hm
      rw [lo_at hs] at hok ⊢
      rw [if_neg hnl, nI_clamp (by omega), m2]
      dsimp only
      unfold ok_X11_move_37_48_b78 F_X11_move_37_48_b78
      rw [nI_clamp (by omega), nI_1]
      cases hh : hlp c A b t s with
      | true =>
        rw [if_neg bI_tn, if_pos rfl]
        refine ⟨⟨fun q => absurd q hnl, fun _ => ⟨hv4, hx1, hru, m1, fun q => absurd q bI_tn, fun _ => hv4⟩⟩, fi1, la1, be1, en1, co1, nc1, u1, u2, u3, u4, u5, u6, u7, u8, u9, kA1, sA1, R1, hf1, fun s' q => ?_, fun q => ?_⟩
        · have := Option.some.inj q
          rw [← this]
        · cases q
      | false =>
        rw [hh, if_neg nft] at hok
        rw [if_pos bI_f, if_neg nft]
        obtain ⟨g1, fi2, la2, be2, en2, co2, nc2, v1, v2, v3, v4, v5, v6, v7, v8, v9, kA2, sA2, R2, hf2, g2, g3⟩ := ih (s + 1) (by omega) (by omega) fi1 la1 be1 en1 co1 nc1 u1 u2 u3 u4 u5 u6 u7 u8 u9 kA1 sA1 R1 hf1 hok
        exact ⟨⟨fun q => absurd q hnl, fun _ => ⟨hv4, hx1, hru, m1, fun _ => g1, fun q => absurd rfl q⟩⟩, fi2, la2, be2, en2, co2, nc2, v1, v2, v3, v4, v5, v6, v7, v8, v9, kA2, sA2, R2, hf2, g2, g3⟩
theorem mt_loop {ac : Nat → Int32} {A : Nat → Nat} (hA : ∀ h, h < 10 → ac h = nI (A h) ∧ A h ≤ 5) {b : Nat} (hb : Bg c b) (ru : Nat → Option Nat) (ar : Nat) (x1 : Int32) (hx1 : vp_in x1 3) (hru : ru x1.toNatClampNeg = some ar) : ∀ n t, t ≤ 4 → 4 < t + n → ∀ (fi la be en co nc : Nat → Int32) (w1 w2 w3 w4 w5 w6 w7 w8 w9 : Int32) (kA sA : Nat → Int32), RX c pe se pl ow pr mi ri oF oL ho be en co nc → Fx c fi la →
    ok_X11_move_L37 ar pe se pl ow pr mi ri oF oL ho ru ac x1 (nI b) n fi la be en co nc w1 w2 w3 w4 w5 w6 w7 w8 w9 kA sA (nI t) ∧
    ∃ (fi' la' be' en' co' nc' : Nat → Int32) (v1 v2 v3 v4 v5 v6 v7 v8 v9 : Int32) (kA' sA' : Nat → Int32), RX c pe se pl ow pr mi ri oF oL ho be' en' co' nc' ∧ Fx c fi' la' ∧ F_X11_move_L37 pe se pl ow pr mi ri oF oL ho ac (nI b) (fun e37_0 e37_1 e37_2 e37_3 e37_4 e37_5 e37_6 e37_7 e37_8 e37_9 e37_10 e37_11 e37_12 e37_13 e37_14 e37_15 e37_16 => (F_X11_move_b107 e37_0 e37_1 e37_2 e37_3 e37_4 e37_5 e37_6 e37_7 e37_8 e37_9 e37_10 e37_11 e37_12 e37_13 e37_14 e37_15 e37_16)) n fi la be en co nc w1 w2 w3 w4 w5 w6 w7 w8 w9 kA sA (nI t) = (mvI (mvr c A b t (4 - t)), fi', la', be', en', co', nc', v1, v2, v3, v4, v5, v6, v7, v8, v9, kA', sA') := by
  intro n
  induction n with
  | zero => intro t h1 h2; omega
  | succ n ih =>
    intro t h1 h2 fi la be en co nc w1 w2 w3 w4 w5 w6 w7 w8 w9 kA sA R hf
    have w := R.1
    rw [ok_X11_move_L37_s, F_X11_move_L37_s]
    by_cases e : t = 4
    · subst e
      rw [if_pos (show (4 : Int32) ≤ nI 4 by decide)]
      exact ⟨fun q => absurd (by decide) q, fi, la, be, en, co, nc, w1, w2, w3, w4, w5, w6, w7, w8, w9, kA, sA, R, hf, rfl⟩
    · rw [if_neg (le_lit (K := 4) 4 rfl (by omega) (by decide)), show 4 - t = (4 - (t + 1)) + 1 by omega, mvr]
      obtain ⟨g1, fi2, la2, be2, en2, co2, nc2, v1, v2, v3, v4, v5, v6, v7, v8, v9, kA2, sA2, R2, hf2, g2, g3⟩ := mi_loop (fi0 := fi) (la0 := la) hA hb (t := t) (by omega) (fun e37_48_0 e37_48_1 e37_48_2 e37_48_3 e37_48_4 e37_48_5 e37_48_6 e37_48_7 e37_48_8 e37_48_9 e37_48_10 e37_48_11 e37_48_12 e37_48_13 e37_48_14 e37_48_15 e37_48_16 => (F_X11_move_37_b101 (F_X11_move_L37 pe se pl ow pr mi ri oF oL ho ac (nI b) (fun e37_0 e37_1 e37_2 e37_3 e37_4 e37_5 e37_6 e37_7 e37_8 e37_9 e37_10 e37_11 e37_12 e37_13 e37_14 e37_15 e37_16 => (F_X11_move_b107 e37_0 e37_1 e37_2 e37_3 e37_4 e37_5 e37_6 e37_7 e37_8 e37_9 e37_10 e37_11 e37_12 e37_13 e37_14 e37_15 e37_16)) n) e37_48_0 e37_48_1 e37_48_2 e37_48_3 e37_48_4 e37_48_5 e37_48_6 e37_48_7 e37_48_8 e37_48_9 e37_48_10 e37_48_11 e37_48_12 e37_48_13 e37_48_14 e37_48_15 e37_48_16 (nI t))) (fun e37_48_0 e37_48_1 e37_48_2 e37_48_3 e37_48_4 e37_48_5 e37_48_6 e37_48_7 e37_48_8 e37_48_9 e37_48_10 e37_48_11 e37_48_12 e37_48_13 e37_48_14 e37_48_15 e37_48_16 => (ok_X11_move_37_b101 (ok_X11_move_L37 ar pe se pl ow pr mi ri oF oL ho ru ac x1 (nI b) n) e37_48_0 e37_48_1 e37_48_2 e37_48_3 e37_48_4 e37_48_5 e37_48_6 e37_48_7 e37_48_8 e37_48_9 e37_48_10 e37_48_11 e37_48_12 e37_48_13 e37_48_14 e37_48_15 e37_48_16 (nI t))) ru ar x1 hx1 hru FU 0 (Nat.zero_le _) (by have := FU_ge; have := w.s8; omega) fi la be en co nc w1 w2 w3 w4 w5 w6 w7 w8 w9 kA sA R hf (fun _ fi3 la3 be3 en3 co3 nc3 y1 y2 y3 y4 y5 y6 y7 y8 y9 kA3 sA3 R3 hf3 => by
        unfold ok_X11_move_37_b101
        rw [nI_1]
        exact (ih (t + 1) (by omega) (by omega) fi3 la3 be3 en3 co3 nc3 y1 y2 y3 y4 y5 y6 y7 y8 y9 kA3 sA3 R3 hf3).1)
      rw [nI_0, Nat.sub_zero] at g2 g3
      rw [nI_0] at g1
      refine ⟨fun _ => g1, ?_⟩
      cases el : lo (hlp c A b t) 0 (kS c) with
      | some s' =>
        rw [g2 s' el]
        exact ⟨fi2, la2, be2, en2, co2, nc2, v1, v2, v3, v4, v5, v6, v7, v8, v9, kA2, sA2, R2, hf2, rfl⟩
      | none =>
        rw [g3 el]
        unfold F_X11_move_37_b101
        rw [nI_1]
        exact (ih (t + 1) (by omega) (by omega) fi2 la2 be2 en2 co2 nc2 v1 v2 v3 v4 v5 v6 v7 v8 v9 kA2 sA2 R2 hf2).2
end MV1
section MV2
variable {c : Cl} {se ow : Int32} {wh fr to th mi ri op sh ho : Nat → Int32}
theorem mj_loop {ac : Nat → Int32} {A : Nat → Nat} {r : Nat} (hr3 : r ≤ 3) (hA : ∀ h, h < 10 → ac (10 * r + h) = nI (A h) ∧ A h ≤ 5) {b t : Nat} (hb : Bg c b) (ht : t < 4) (th0 : Int32) (kx : Int32 → Int32 → Int32 → Int32 → Int32 → Int32 → Int32 → Int32 → Int32 → Int32 → Int32 → (Nat → Int32) → (Nat → Int32) → (Nat → Int32) → (Nat → Int32) → (Nat → Int32) → (Nat → Int32) → Int32 × Int32 × Int32 × Int32 × Int32 × Int32 × Int32 × Int32 × Int32 × Int32 × Int32 × Int32 × Int32 × (Nat → Int32) × (Nat → Int32) × (Nat → Int32) × (Nat → Int32) × (Nat → Int32) × (Nat → Int32)) (okx : Int32 → Int32 → Int32 → Int32 → Int32 → Int32 → Int32 → Int32 → Int32 → Int32 → Int32 → (Nat → Int32) → (Nat → Int32) → (Nat → Int32) → (Nat → Int32) → (Nat → Int32) → (Nat → Int32) → Prop) : ∀ n s, s ≤ kS c → kS c < s + n → ∀ (w1 w2 w3 w4 w5 w6 w7 w8 w9 ld rg : Int32) (fr to N f1 f2 f3 : Nat → Int32), RY c se ow wh fr to th mi ri op sh ho →
    (lo (hlp c A b t) s (kS c - s) = none → ∀ (w1 w2 w3 w4 w5 w6 w7 w8 w9 ld rg : Int32) (fr to N f1 f2 f3 : Nat → Int32), RY c se ow wh fr to th mi ri op sh ho → okx w1 w2 w3 w4 w5 w6 w7 w8 w9 ld rg fr to N f1 f2 f3) →
    ok_X12_move_L36_74 se ow wh th mi ri op sh ho ac (nI r) (nI b) okx (mv t) n w1 w2 w3 w4 w5 w6 w7 w8 w9 ld rg fr to N f1 f2 f3 (nI s) ∧
    ∃ (v1 v2 v3 v4 v5 v6 v7 v8 v9 ld' rg' : Int32) (fr' to' N' f1' f2' f3' : Nat → Int32), RY c se ow wh fr' to' th mi ri op sh ho ∧
      (∀ s', lo (hlp c A b t) s (kS c - s) = some s' → F_X12_move_L36_74 se ow wh th mi ri op sh ho ac (nI r) (nI b) kx th0 (mv t) n w1 w2 w3 w4 w5 w6 w7 w8 w9 ld rg fr to N f1 f2 f3 (nI s) = ((10 : Int32) * nI s' + 2 + mv t, th0, v1, v2, v3, v4, v5, v6, v7, v8, v9, ld', rg', fr', to', N', f1', f2', f3')) ∧
      (lo (hlp c A b t) s (kS c - s) = none → F_X12_move_L36_74 se ow wh th mi ri op sh ho ac (nI r) (nI b) kx th0 (mv t) n w1 w2 w3 w4 w5 w6 w7 w8 w9 ld rg fr to N f1 f2 f3 (nI s) = kx v1 v2 v3 v4 v5 v6 v7 v8 v9 ld' rg' fr' to' N' f1' f2' f3') := by
  intro n
  induction n with
  | zero => intro s h1 h2; omega
  | succ n ih =>
    intro s h1 h2 w1 w2 w3 w4 w5 w6 w7 w8 w9 ld rg fr to N f1 f2 f3 R hok
    have w := R.1
    have hS := w.s8
    have hse : se = nI (kS c) := R.2.1
    rw [ok_X12_move_L36_74_s, F_X12_move_L36_74_s]
    by_cases e : s = kS c
    · have el : lo (hlp c A b t) s (kS c - s) = none := by rw [e]; exact lo_end
      have hle : se ≤ nI s := by rw [hse, e]; exact Int32.le_refl _
      rw [if_pos hle]
      refine ⟨⟨fun _ => hok el w1 w2 w3 w4 w5 w6 w7 w8 w9 ld rg fr to N f1 f2 f3 R, fun q => absurd hle q⟩, w1, w2, w3, w4, w5, w6, w7, w8, w9, ld, rg, fr, to, N, f1, f2, f3, R, fun s' q => ?_, fun _ => rfl⟩
      rw [el] at q; cases q
    · have hs : s < kS c := by omega
      have hws := w.ss hs
      have hnl : ¬ se ≤ nI s := by rw [hse]; exact nI_ge hs (by omega)
      have hv : vp_in (nI s) 8 := vp_in_nI (by omega) (by decide)
      rw [lo_at hs] at hok ⊢
      rw [if_neg hnl, nI_clamp (by omega), (R.2.2.2.1 s hs).2.1, nI_1]
      have hskip : ∀ (w1 w2 w3 w4 w5 w6 w7 w8 w9 ld rg : Int32) (fr to N f1 f2 f3 : Nat → Int32), RY c se ow wh fr to th mi ri op sh ho → hlp c A b t s = false →
          ok_X12_move_L36_74 se ow wh th mi ri op sh ho ac (nI r) (nI b) okx (mv t) n w1 w2 w3 w4 w5 w6 w7 w8 w9 ld rg fr to N f1 f2 f3 (nI (s + 1)) ∧
          ∃ (v1 v2 v3 v4 v5 v6 v7 v8 v9 ld' rg' : Int32) (fr' to' N' f1' f2' f3' : Nat → Int32), RY c se ow wh fr' to' th mi ri op sh ho ∧
            (∀ s', (if hlp c A b t s = true then some s else lo (hlp c A b t) (s + 1) (kS c - (s + 1))) = some s' → F_X12_move_L36_74 se ow wh th mi ri op sh ho ac (nI r) (nI b) kx th0 (mv t) n w1 w2 w3 w4 w5 w6 w7 w8 w9 ld rg fr to N f1 f2 f3 (nI (s + 1)) = ((10 : Int32) * nI s' + 2 + mv t, th0, v1, v2, v3, v4, v5, v6, v7, v8, v9, ld', rg', fr', to', N', f1', f2', f3')) ∧
            ((if hlp c A b t s = true then some s else lo (hlp c A b t) (s + 1) (kS c - (s + 1))) = none → F_X12_move_L36_74 se ow wh th mi ri op sh ho ac (nI r) (nI b) kx th0 (mv t) n w1 w2 w3 w4 w5 w6 w7 w8 w9 ld rg fr to N f1 f2 f3 (nI (s + 1)) = kx v1 v2 v3 v4 v5 v6 v7 v8 v9 ld' rg' fr' to' N' f1' f2' f3') := by
        intro y1 y2 y3 y4 y5 y6 y7 y8 y9 ld rg fr to N f1 f2 f3 R' hh
        rw [hh, if_neg nft] at hok
        rw [hh, if_neg nft]
        exact ih (s + 1) (by omega) (by omega) y1 y2 y3 y4 y5 y6 y7 y8 y9 ld rg fr to N f1 f2 f3 R' hok
      have hlu : hlp c A b t s = (match mo (kF c s) t with | none => false | some h => mb c s h && nev (mvc c s h) A b) := rfl
      cases eo : mo (kF c s) t with
      | none =>
        have hm := mo_n (show kF c s < 10 by omega) ht eo
        rw [eo] at hlu
        obtain ⟨m1, m2⟩ := mb_Yn (se := se) (wh := wh) (fr := fr) (to := to) (s := s) (by omega) hm
        rw [m2, if_pos rfl]
        obtain ⟨g1, g2⟩ := hskip w1 w2 w3 w4 w5 w6 w7 w8 w9 ld rg fr to N f1 f2 f3 R hlu
        exact ⟨⟨fun q => absurd q hnl, fun _ => ⟨hv, m1, fun _ => g1, fun q => absurd rfl q⟩⟩, g2⟩
      | some h =>
        obtain ⟨hh, he⟩ := mo_s (show kF c s < 10 by omega) ht eo
        rw [eo] at hlu
        have hlu' : hlp c A b t s = (mb c s h && nev (mvc c s h) A b) := hlu
        rw [he]
        obtain ⟨m1, m2⟩ := mb_Y R hs hh
        rw [m2]
        cases hmb : mb c s h with
        | false =>
          rw [hmb, Bool.false_and] at hlu'
          rw [if_pos bI_f]
          obtain ⟨g1, g2⟩ := hskip w1 w2 w3 w4 w5 w6 w7 w8 w9 ld rg fr to N f1 f2 f3 R hlu'
          exact ⟨⟨fun q => absurd q hnl, fun _ => ⟨hv, m1, fun _ => g1, fun q => absurd rfl q⟩⟩, g2⟩
        | true =>
          rw [hmb, Bool.true_and] at hlu'
          have hlen := mb_len hmb
          obtain ⟨b1, fr1, to1, b2, R1⟩ := put_Y R hs hlen
          rw [if_neg bI_tn, b2]
          dsimp only
          unfold ok_X12_move_36_74_b122 F_X12_move_36_74_b122
          have hr := rgp_spec R1.1 (A := A) (Bg_mvc (s := s) (h := h) hb)
          obtain ⟨y1, u1, u2, u3, u4, u5, u6, u7, u8, u9, N1, g1, g2, g3, y2, -⟩ := never_Y R1 hr3 hA (Bg_mvc hb) hr w1 w2 w3 w4 w5 w6 w7 w8 w9 N f1 f2 f3
          have y2' : F_X12_isNever se ow w1 w2 w3 w4 w5 w6 w7 w8 w9 wh fr1 to1 th mi ri op sh ho ac N f1 f2 f3 (nI r) (nI b) = (bI (nev (mvc c s h) A b), u1, u2, u3, u4, u5, u6, u7, u8, u9, nI (rgp (mvc c s h) A b).1, nI ((rgp (mvc c s h) A b).2 - (rgp (mvc c s h) A b).1), N1, g1, g2, g3) := y2
          rw [y2']
          dsimp only
          unfold ok_X12_move_36_74_b128 F_X12_move_36_74_b128
          have hlen2 : kF c s + (kT (mvc c s h) s - kF (mvc c s h) s) ≤ 9 := by
            rw [mvc_F, mvc_T, if_pos rfl, if_pos rfl]; omega
          obtain ⟨d1, fr2, to2, d2, R2⟩ := put_Y R1 (s := s) (h := kF c s) hs hlen2
          rw [mvc_back w hs] at R2
          rw [d2]
          dsimp only
          unfold ok_X12_move_36_74_b138 F_X12_move_36_74_b138
          rw [nI_1]
          cases hn : nev (mvc c s h) A b with
          | true =>
            rw [hn] at hlu'
            rw [if_neg bI_tn, hlu', if_pos rfl]
            refine ⟨⟨fun q => absurd q hnl, fun _ => ⟨hv, m1, fun q => absurd q bI_tn, fun _ => ⟨hv, b1, y1, d1, fun q => absurd q bI_tn⟩⟩⟩, u1, u2, u3, u4, u5, u6, u7, u8, u9, nI (rgp (mvc c s h) A b).1, nI ((rgp (mvc c s h) A b).2 - (rgp (mvc c s h) A b).1), fr2, to2, N1, g1, g2, g3, R2, fun s' q => ?_, fun q => ?_⟩
            · have := Option.some.inj q
              rw [← this]
            · cases q
          | false =>
            rw [hn] at hlu'
            rw [if_pos bI_f]
            obtain ⟨k1, k2⟩ := hskip u1 u2 u3 u4 u5 u6 u7 u8 u9 (nI (rgp (mvc c s h) A b).1) (nI ((rgp (mvc c s h) A b).2 - (rgp (mvc c s h) A b).1)) fr2 to2 N1 g1 g2 g3 R2 hlu'
            exact ⟨⟨fun q => absurd q hnl, fun _ => ⟨hv, m1, fun q => absurd q bI_tn, fun _ => ⟨hv, b1, y1, d1, fun _ => k1⟩⟩⟩, k2⟩
theorem mv_if {t : Nat} (ht : t < 4) : (if nI t = (0 : Int32) then (-1 : Int32) else (if nI t = 1 then 1 else (if nI t = 2 then -2 else 2))) = mv t := by
  have key : ∀ t, t < 4 → (if nI t = (0 : Int32) then (-1 : Int32) else (if nI t = 1 then 1 else (if nI t = 2 then -2 else 2))) = mv t := by decide
  exact key t ht
theorem mu_loop {ac : Nat → Int32} {A : Nat → Nat} {r : Nat} (hr3 : r ≤ 3) (hA : ∀ h, h < 10 → ac (10 * r + h) = nI (A h) ∧ A h ≤ 5) {b : Nat} (hb : Bg c b) (th0 : Int32) : ∀ n t, t ≤ 4 → 4 < t + n → ∀ (w1 w2 w3 w4 w5 w6 w7 w8 w9 ld rg : Int32) (fr to N f1 f2 f3 : Nat → Int32), RY c se ow wh fr to th mi ri op sh ho →
    ok_X12_move_L36 se ow wh th mi ri op sh ho ac (nI r) (nI b) n w1 w2 w3 w4 w5 w6 w7 w8 w9 ld rg fr to N f1 f2 f3 (nI t) ∧
    ∃ (v1 v2 v3 v4 v5 v6 v7 v8 v9 ld' rg' : Int32) (fr' to' N' f1' f2' f3' : Nat → Int32), RY c se ow wh fr' to' th mi ri op sh ho ∧ F_X12_move_L36 se ow wh th mi ri op sh ho ac (nI r) (nI b) (fun e36_0 e36_1 e36_2 e36_3 e36_4 e36_5 e36_6 e36_7 e36_8 e36_9 e36_10 e36_11 e36_12 e36_13 e36_14 e36_15 e36_16 => (F_X12_move_b166 th0 e36_0 e36_1 e36_2 e36_3 e36_4 e36_5 e36_6 e36_7 e36_8 e36_9 e36_10 e36_11 e36_12 e36_13 e36_14 e36_15 e36_16)) th0 n w1 w2 w3 w4 w5 w6 w7 w8 w9 ld rg fr to N f1 f2 f3 (nI t) = (mvI (mvr c A b t (4 - t)), th0, v1, v2, v3, v4, v5, v6, v7, v8, v9, ld', rg', fr', to', N', f1', f2', f3') := by
  intro n
  induction n with
  | zero => intro t h1 h2; omega
  | succ n ih =>
    intro t h1 h2 w1 w2 w3 w4 w5 w6 w7 w8 w9 ld rg fr to N f1 f2 f3 R
    have w := R.1
    rw [ok_X12_move_L36_s, F_X12_move_L36_s]
    by_cases e : t = 4
    · subst e
      rw [if_pos (show (4 : Int32) ≤ nI 4 by decide)]
      exact ⟨fun q => absurd (by decide) q, w1, w2, w3, w4, w5, w6, w7, w8, w9, ld, rg, fr, to, N, f1, f2, f3, R, rfl⟩
    · rw [if_neg (le_lit (K := 4) 4 rfl (by omega) (by decide)), mv_if (show t < 4 by omega), show 4 - t = (4 - (t + 1)) + 1 by omega, mvr]
      obtain ⟨g1, v1, v2, v3, v4, v5, v6, v7, v8, v9, ld2, rg2, fr2, to2, N2, f12, f22, f32, R2, g2, g3⟩ := mj_loop hr3 hA hb (t := t) (by omega) th0 (fun e36_74_0 e36_74_1 e36_74_2 e36_74_3 e36_74_4 e36_74_5 e36_74_6 e36_74_7 e36_74_8 e36_74_9 e36_74_10 e36_74_11 e36_74_12 e36_74_13 e36_74_14 e36_74_15 e36_74_16 => (F_X12_move_36_b160 (F_X12_move_L36 se ow wh th mi ri op sh ho ac (nI r) (nI b) (fun e36_0 e36_1 e36_2 e36_3 e36_4 e36_5 e36_6 e36_7 e36_8 e36_9 e36_10 e36_11 e36_12 e36_13 e36_14 e36_15 e36_16 => (F_X12_move_b166 th0 e36_0 e36_1 e36_2 e36_3 e36_4 e36_5 e36_6 e36_7 e36_8 e36_9 e36_10 e36_11 e36_12 e36_13 e36_14 e36_15 e36_16)) th0 n) e36_74_0 e36_74_1 e36_74_2 e36_74_3 e36_74_4 e36_74_5 e36_74_6 e36_74_7 e36_74_8 e36_74_9 e36_74_10 e36_74_11 e36_74_12 e36_74_13 e36_74_14 e36_74_15 e36_74_16 (nI t))) (fun e36_74_0 e36_74_1 e36_74_2 e36_74_3 e36_74_4 e36_74_5 e36_74_6 e36_74_7 e36_74_8 e36_74_9 e36_74_10 e36_74_11 e36_74_12 e36_74_13 e36_74_14 e36_74_15 e36_74_16 => (ok_X12_move_36_b160 (ok_X12_move_L36 se ow wh th mi ri op sh ho ac (nI r) (nI b) n) e36_74_0 e36_74_1 e36_74_2 e36_74_3 e36_74_4 e36_74_5 e36_74_6 e36_74_7 e36_74_8 e36_74_9 e36_74_10 e36_74_11 e36_74_12 e36_74_13 e36_74_14 e36_74_15 e36_74_16 (nI t))) FU 0 (Nat.zero_le _) (by have := FU_ge; have := w.s8; omega) w1 w2 w3 w4 w5 w6 w7 w8 w9 ld rg fr to N f1 f2 f3 R (fun _ y1 y2 y3 y4 y5 y6 y7 y8 y9 ld3 rg3 fr3 to3 N3 f13 f23 f33 R3 => by
        unfold ok_X12_move_36_b160
        rw [nI_1]
        exact (ih (t + 1) (by omega) (by omega) y1 y2 y3 y4 y5 y6 y7 y8 y9 ld3 rg3 fr3 to3 N3 f13 f23 f33 R3).1)
      rw [nI_0, Nat.sub_zero] at g2 g3
      rw [nI_0] at g1
      refine ⟨fun _ => g1, ?_⟩
      cases el : lo (hlp c A b t) 0 (kS c) with
      | some s' =>
        rw [g2 s' el]
        exact ⟨v1, v2, v3, v4, v5, v6, v7, v8, v9, ld2, rg2, fr2, to2, N2, f12, f22, f32, R2, rfl⟩
      | none =>
        rw [g3 el]
        unfold F_X12_move_36_b160
        rw [nI_1]
        exact (ih (t + 1) (by omega) (by omega) v1 v2 v3 v4 v5 v6 v7 v8 v9 ld2 rg2 fr2 to2 N2 f12 f22 f32 R2).2
end MV2

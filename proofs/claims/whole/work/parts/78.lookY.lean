/-! where to look first: the reference -/
section LY
variable {c : Cl} {se ow : Int32} {wh fr to th mi ri op sh ho : Nat → Int32}
theorem ml_Y (R : RY c se ow wh fr to th mi ri op sh ho) {h : Nat} (hh : h < 10) {K : Nat → Int64} {E : Nat → Nat} (hK : ∀ p, p < 4 → K p = lN (E p) ∧ E p ≤ 1000000000) {p : Nat} (hp : p < 4) : ok_X12_mayLie th op sh (nI p) (nI h) ∧ F_X12_mayLie th op sh K (nI p) (nI h) = bI (mL c h E p) := by
  obtain ⟨k1, k2⟩ := hK p hp
  unfold ok_X12_mayLie F_X12_mayLie mL
  rw [isOpen_Y R hh hp, nI_clamp (by omega), k1]
  refine ⟨⟨ok_isOpen_Y hp, fun _ => vp_in_nI (by omega) (by decide)⟩, ?_⟩
  cases opn c h p with
  | false => rw [if_pos bI_f, Bool.false_and]; rfl
  | true =>
    rw [if_neg bI_tn, Bool.true_and]
    have z : lg_cmp (lN (E p)) 0 ≤ 0 ↔ E p ≤ 0 := by rw [lg_cmp_le]; exact lN_leB (b := 0) (by omega) (by decide)
    by_cases q : E p = 0
    · rw [if_pos (z.mpr (by omega)), decide_eq_false (by omega)]; rfl
    · rw [if_neg (fun y => q (by have := z.mp y; omega)), decide_eq_true (by omega)]; rfl
theorem ia_ok {mi : Nat → Int32} {j p : Nat} (hj : j < 4) (hp : p < 4) : ok_X12_isAhead mi (nI j) (nI p) := by
  have v4 : vp_in (nI j) 4 := vp_in_nI hj (by decide)
  have v32 : vp_in (nI j) 32 := vp_in_nI (by omega) (by decide)
  have u4 : vp_in (nI p) 4 := vp_in_nI hp (by decide)
  have u32 : vp_in (nI p) 32 := vp_in_nI (by omega) (by decide)
  unfold ok_X12_isAhead ok_X12_isAhead_b18
  exact ⟨v4, fun _ => ⟨u4, fun _ => v4⟩, fun _ => ⟨u4, fun _ => ⟨u4, fun _ => v4⟩, fun _ => ⟨v32, u4, u32, v4⟩⟩⟩
theorem mL_e {h : Nat} {E : Nat → Nat} {p : Nat} (hm : mL c h E p = true) : 0 < E p := by
  unfold mL at hm
  rw [Bool.and_eq_true, decide_eq_true_eq] at hm
  exact hm.2
theorem ia_Y (R : RY c se ow wh fr to th mi ri op sh ho) {h : Nat} {K : Nat → Int64} {E : Nat → Nat} (hK : ∀ p, p < 4 → K p = lN (E p) ∧ E p ≤ 1000000000) {j p : Nat} (hj : mL c h E j = true) (hp : mL c h E p = true) : F_X12_isAhead mi K (nI j) (nI p) = bI (aH c E j p) := by
  obtain ⟨j4, jP⟩ := mL_p hj
  obtain ⟨p4, pP⟩ := mL_p hp
  have w := R.1
  have r5 := R.2.2.2.2.1
  have ej : mi j = nI (kM c j) := ((r5 j j4).2 jP).1
  have ep : mi p = nI (kM c p) := ((r5 p p4).2 pP).1
  have mj := (w.pp j4).1
  have mp := (w.pp p4).1
  have pj := mL_e hj
  have pp := mL_e hp
  obtain ⟨k1, k2⟩ := hK j j4
  obtain ⟨k3, k4⟩ := hK p p4
  unfold F_X12_isAhead F_X12_isAhead_b18 aH
  rw [nI_clamp (by omega), nI_clamp (by omega), ej, ep, k1, k3]
  have zj : nI (kM c j) = (0 : Int32) ↔ kM c j = 0 := eq_lit (K := 0) 0 rfl (by omega) (by decide)
  have zp : nI (kM c p) = (0 : Int32) ↔ kM c p = 0 := eq_lit (K := 0) 0 rfl (by omega) (by decide)
  have ix : (if nI p ≤ nI j then (0 : Int32) else 1) = bI (decide (j < p)) := by
    by_cases q : j < p
    · rw [if_neg (nI_ge q (by omega)), decide_eq_true q]; rfl
    · rw [if_pos (nI_le (by omega) (by omega)), decide_eq_false q]; rfl
  by_cases qj : kM c j = 0
  · rw [if_pos (zj.mpr qj)]
    by_cases qp : kM c p = 0
    · rw [if_pos (zp.mpr qp), if_pos (zj.mpr qj), ix, qj, qp, Nat.mul_zero, Nat.mul_zero]; simp
    · rw [if_neg (fun y => qp (zp.mp y)), qj, Nat.mul_zero, decide_eq_true (Nat.mul_pos pj (Nat.pos_of_ne_zero qp)), Bool.true_or]; rfl
  · rw [if_neg (fun y => qj (zj.mp y))]
    by_cases qp : kM c p = 0
    · have h1 : 0 < E p * kM c j := Nat.mul_pos pp (Nat.pos_of_ne_zero qj)
      rw [if_pos (zp.mpr qp), if_pos (zp.mpr qp), if_neg (fun y => qj (zj.mp y)), qp, Nat.mul_zero, decide_eq_false (Nat.not_lt_zero _), decide_eq_false (by omega)]; rfl
    · have b1 : E j * kM c p ≤ 1000000000 * 9 := Nat.mul_le_mul k2 mp
      have b2 : E p * kM c j ≤ 1000000000 * 9 := Nat.mul_le_mul k4 mj
      rw [if_neg (fun y => qp (zp.mp y)), nI_l (by omega), nI_l (by omega), lN_mul, lN_mul]
      have c1 := lg_difp (a := E j * kM c p) (b := E p * kM c j) (by omega) (by omega)
      have c2 := lg_dif0 (a := E j * kM c p) (b := E p * kM c j) (by omega) (by omega)
      by_cases q1 : E p * kM c j < E j * kM c p
      · rw [if_pos (c1.mpr q1), decide_eq_true q1, Bool.true_or]; rfl
      · rw [if_neg (fun y => q1 (c1.mp y)), decide_eq_false q1, Bool.false_or]
        by_cases q2 : E j * kM c p = E p * kM c j
        · rw [if_pos (c2.mpr q2), decide_eq_true q2, Bool.true_and, ix]
        · rw [if_neg (fun y => q2 (c2.mp y)), decide_eq_false q2, Bool.false_and]; rfl
theorem aH_irr {E : Nat → Nat} {p : Nat} : aH c E p p = false := by
  unfold aH
  rw [decide_eq_false (Nat.lt_irrefl _), decide_eq_false (Nat.lt_irrefl _), Bool.and_false]; rfl
theorem lk_in (R : RY c se ow wh fr to th mi ri op sh ho) {h : Nat} (hh : h < 10) {K : Nat → Int64} {E : Nat → Nat} (hK : ∀ p, p < 4 → K p = lN (E p) ∧ E p ≤ 1000000000) {p : Nat} (p4 : p < 4) : ∀ n j (v : Int32), j ≤ 4 → 4 < j + n →
    ok_X12_look_L39_51 th mi op sh (nI h) K (nI p) n v (nI j) ∧ (mL c h E p = true → v = nI (rk c h E p j) → F_X12_look_L39_51 th mi op sh (nI h) K (nI p) n v (nI j) = nI (rk c h E p 4)) := by
  intro n
  induction n with
  | zero => intro j v h1 h2; omega
  | succ n ih =>
    intro j v h1 h2
    rw [ok_X12_look_L39_51_s, F_X12_look_L39_51_s]
    by_cases q : j = 4
    · subst q
      rw [if_pos (le_self (K := 4) 4 rfl)]
      exact ⟨fun y => absurd (le_self (K := 4) 4 rfl) y, fun _ y => y⟩
    · have hj : j < 4 := by omega
      obtain ⟨m1, m2⟩ := ml_Y R hh hK hj
      rw [if_neg (le_lit (K := 4) 4 rfl hj (by decide))]
      dsimp only
      unfold ok_X12_look_39_51_b95 F_X12_look_39_51_b95
      rw [nI_1]
      obtain ⟨g1, g2⟩ := ih (j + 1) (v + (if nI j = nI p then 0 else (if F_X12_mayLie th op sh K (nI j) (nI h) = 0 then 0 else (if F_X12_isAhead mi K (nI j) (nI p) = 0 then 0 else 1)))) (by omega) (by omega)
      refine ⟨fun _ => ⟨fun _ => ⟨m1, fun _ => ia_ok hj p4⟩, g1⟩, fun hm hv => g2 hm ?_⟩
      have er : rk c h E p (j + 1) = rk c h E p j + (if (mL c h E j && aH c E j p) = true then 1 else 0) := rfl
      have e0 : nI (rk c h E p j) + (0 : Int32) = nI (rk c h E p j + 0) := by rw [Int32.add_zero]; rfl
      rw [hv, m2, er]
      by_cases ej : j = p
      · rw [if_pos (by rw [ej]), ej, aH_irr, Bool.and_false, if_neg nft]
        rw [ej] at e0
        exact e0
      · rw [if_neg (fun y => ej ((nI_eq (by omega) (by omega)).mp y))]
        cases em : mL c h E j with
        | false => rw [if_pos bI_f, Bool.false_and, if_neg nft]; exact e0
        | true =>
          rw [if_neg bI_tn, ia_Y R hK em hm, Bool.true_and]
          cases aH c E j p with
          | false => rw [if_pos bI_f, if_neg nft]; exact e0
          | true => rw [if_neg bI_tn, if_pos rfl, nI_1]
theorem lk_out (R : RY c se ow wh fr to th mi ri op sh ho) {h : Nat} (hh : h < 10) {K : Nat → Int64} {E : Nat → Nat} (hK : ∀ p, p < 4 → K p = lN (E p) ∧ E p ≤ 1000000000) (x t0 : Int32) (v1 v2 v3 v4 v5 v6 v7 v8 v9 : Int32) : ∀ n p, p ≤ 4 → 4 < p + n →
    ok_X12_look_L39 th mi op sh (nI h) x K n (nI p) ∧ F_X12_look_L39 th mi op sh (nI h) x (F_X12_look_b127 t0 v1 v2 v3 v4 v5 v6 v7 v8 v9 K) t0 v1 v2 v3 v4 v5 v6 v7 v8 v9 K n (nI p) = (aI (lo (fun p => mL c h E p && decide (nI (rk c h E p 4) = x)) p (4 - p)), t0, v1, v2, v3, v4, v5, v6, v7, v8, v9, K) := by
  intro n
  induction n with
  | zero => intro p h1 h2; omega
  | succ n ih =>
    intro p h1 h2
    rw [ok_X12_look_L39_s, F_X12_look_L39_s]
    by_cases q : p = 4
    · subst q
      rw [if_pos (le_self (K := 4) 4 rfl), lo_end]
      exact ⟨fun y => absurd (le_self (K := 4) 4 rfl) y, rfl⟩
    · have hp : p < 4 := by omega
      obtain ⟨m1, m2⟩ := ml_Y R hh hK hp
      obtain ⟨g1, g2⟩ := ih (p + 1) (by omega) (by omega)
      obtain ⟨a1, a2⟩ := lk_in R hh hK hp FU 0 0 (Nat.zero_le _) (by have := FU_ge; omega)
      have a1' : ok_X12_look_L39_51 th mi op sh (nI h) K (nI p) FU 0 0 := a1
      have a2' : mL c h E p = true → F_X12_look_L39_51 th mi op sh (nI h) K (nI p) FU 0 0 = nI (rk c h E p 4) := fun y => a2 y rfl
      rw [if_neg (le_lit (K := 4) 4 rfl hp (by decide))]
      dsimp only
      unfold ok_X12_look_39_b101 F_X12_look_39_b101
      rw [m2, nI_1, lo_at hp, g2]
      cases em : mL c h E p with
      | false =>
        rw [if_pos bI_f, Bool.false_and, if_neg nft]
        exact ⟨fun _ => ⟨a1', m1, fun _ => g1, fun y => absurd bI_f y⟩, rfl⟩
      | true =>
        rw [if_neg bI_tn, a2' em, Bool.true_and]
        refine ⟨fun _ => ⟨a1', m1, fun y => absurd y bI_tn, fun _ _ => g1⟩, ?_⟩
        by_cases qx : nI (rk c h E p 4) = x
        · rw [if_pos qx, decide_eq_true qx, if_pos rfl]; rfl
        · rw [if_neg qx, decide_eq_false qx, if_neg nft]
theorem look_Y (R : RY c se ow wh fr to th mi ri op sh ho) {h : Nat} (hh : h < 10) {K : Nat → Int64} {E : Nat → Nat} (hK : ∀ p, p < 4 → K p = lN (E p) ∧ E p ≤ 1000000000) (x t0 : Int32) (v1 v2 v3 v4 v5 v6 v7 v8 v9 : Int32) : ok_X12_look_b36 th mi op sh (nI h) x K ∧ F_X12_look_b36 th mi op sh (nI h) x t0 v1 v2 v3 v4 v5 v6 v7 v8 v9 K = (aI (lkA c h E x), t0, v1, v2, v3, v4, v5, v6, v7, v8, v9, K) := lk_out R hh hK x t0 v1 v2 v3 v4 v5 v6 v7 v8 v9 FU 0 (Nat.zero_le _) (by have := FU_ge; omega)
end LY
/-- the chances of the keys, both ways -/
theorem phK_le {c : Cl} {A : Nat → Nat} {k u : Nat} (κ : Nat) (G : Nat → Bool) : phK κ (wz c A G k u) (wT c A G k u) ≤ 1 := by
  unfold phK
  split <;> decide
theorem SC_K {c : Cl} (w : WF c) {A : Nat → Nat} {k u : Nat} (κ : Nat) : SC c A k (phK κ) u 32 ≤ 100000 := by
  have := SC_le w (A := A) (k := k) (u := u) (M := 1) (φ := phK κ) (phK_le κ)
  omega
theorem SR_K {c : Cl} (w : WF c) {A : Nat → Nat} {k u : Nat} (hk : Bg c k) (hu : u < 10) (κ : Nat) : SR c A k (phK κ) u (2 ^ u) ≤ 1000000000 := by
  have e := SC_SR w (A := A) hk (by omega : u ≤ 10) (phK κ)
  have b := SC_K w (A := A) (k := k) (u := u) κ
  have b1 : 10 ^ u * SC c A k (phK κ) u 32 ≤ 10 ^ 9 * 100000 := Nat.mul_le_mul (Nat.pow_le_pow_right (by decide) (by omega)) b
  have e9 : 10 ^ 9 = 1000000000 := by decide
  omega
theorem lk_eq {c : Cl} (w : WF c) {A : Nat → Nat} {k u : Nat} (hk : Bg c k) (hu : u < 10) (h : Nat) (x : Int32) : lkA c h (fun κ => SC c A k (phK κ) u 32) x = lkA c h (fun κ => SR c A k (phK κ) u (2 ^ u)) x := lkA_sc (a := 10 ^ u) (b := 100000) (Nat.pow_pos (by decide)) (by decide) (fun κ _ => SC_SR w hk (by omega) (phK κ)) x

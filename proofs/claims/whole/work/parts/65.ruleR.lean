/-! rules as texts: the class's reader, the reference's -/
theorem stp_exc {s s' : Rs} {b : Nat} (h : stp s b = some s') : s'.2.2.2.1 ≤ s.2.2.2.1 + 1 := by
  have hen : ∀ v, (ena s v).2.2.2.1 ≤ s.2.2.2.1 + 1 := fun v => by
    unfold ena
    cases s.2.2.1 with
    | none => exact Nat.le_succ _
    | some h => exact Nat.le_refl _
  unfold stp at h
  by_cases h1 : s.1 = true
  · rw [if_pos h1] at h; cases h
  · rw [if_neg h1] at h
    by_cases h2 : s.2.1 = true
    · rw [if_pos h2] at h
      by_cases h3 : 48 ≤ b ∧ b ≤ 51
      · rw [if_pos h3] at h; rw [← Option.some.inj h]; exact hen _
      · rw [if_neg h3] at h; cases h
    · rw [if_neg h2] at h
      by_cases h3 : b = 72
      · rw [if_pos h3] at h; rw [← Option.some.inj h]; exact hen _
      · rw [if_neg h3] at h
        by_cases h4 : b = 78
        · rw [if_pos h4] at h; rw [← Option.some.inj h]; exact hen _
        · rw [if_neg h4] at h
          by_cases h5 : b = 80
          · rw [if_pos h5] at h; rw [← Option.some.inj h]; exact Nat.le_succ _
          · rw [if_neg h5] at h
            cases h6 : s.2.2.1 with
            | some x => rw [h6] at h; cases h
            | none =>
              rw [h6] at h
              have h' : (if dig b = true then (match s.2.2.2.2 (b - 48) with | none => some (false, false, some (b - 48), s.2.2.2) | some _ => none) else none) = some s' := h
              by_cases h7 : dig b = true
              · rw [if_pos h7] at h'
                cases h8 : s.2.2.2.2 (b - 48) with
                | none => rw [h8] at h'; rw [← Option.some.inj h']; exact Nat.le_succ _
                | some x => rw [h8] at h'; cases h'
              · rw [if_neg h7] at h'; cases h'
/-- a result of reading a rule -/
def RV (o : Option Nat × Rs) (f m : Int32) (ac : Nat → Int32) : Prop := (∀ pos, o.1 = some pos → f = nI pos) ∧ (o.1 = none → f = -9 ∧ m = nI o.2.2.2.2.1 ∧ Ra o.2.2.2.2.2 ac)
theorem rf_loop {tx : Nat → Nat} {L : Nat} {xs ys : Nat → Int32} (T : TX tx L xs ys) : ∀ n d, d ≤ L → d < n → ∀ (s : Rs) (ac : Nat → Int32), Rk s → s.2.2.2.1 ≤ L - d → Ra s.2.2.2.2 ac →
    ok_X6_faultIn_L23 64 xs (nI L) n (bI s.1) (bI s.2.1) (oI s.2.2.1) (nI s.2.2.2.1) ac (nI (L - d)) ∧
    ∃ f e w h m ac', F_X6_faultIn_L23 64 xs (nI L) (fun e23_0 e23_1 e23_2 e23_3 e23_4 => (F_X6_faultIn_b57 (nI L) e23_0 e23_1 e23_2 e23_3 e23_4)) n (bI s.1) (bI s.2.1) (oI s.2.2.1) (nI s.2.2.2.1) ac (nI (L - d)) = (f, e, w, h, m, ac') ∧ RV (rr tx L d s) f m ac' := by
  obtain ⟨hL, hT⟩ := T
  intro n
  induction n with
  | zero => intro d h1 h2; omega
  | succ n ih =>
    intro d h1 h2 s ac hk hm hr
    rw [ok_X6_faultIn_L23_s, F_X6_faultIn_L23_s]
    cases d with
    | zero =>
      have hle : nI L ≤ nI (L - 0) := Int32.le_refl _
      rw [if_pos hle]
      refine ⟨fun q => absurd hle q, _, _, _, _, _, _, rfl, ?_⟩
      unfold RV rr
      cases he : s.1 with
      | true =>
        rw [if_neg bI_tn, if_pos rfl]
        exact ⟨fun pos q => (by cases q), fun _ => ⟨rfl, rfl, hr⟩⟩
      | false =>
        rw [if_pos bI_f, if_neg nft]
        exact ⟨fun pos q => by rw [Option.some.inj q], fun q => (by cases q)⟩
    | succ d =>
      obtain ⟨b1, b2, -⟩ := hT (L - (d + 1)) (by omega)
      have hn1 : ¬ nI L ≤ nI (L - (d + 1)) := nI_ge (by omega) (by omega)
      have hn2 : ¬ Int32.ofNat 64 ≤ nI (L - (d + 1)) := nI_ge (b := 64) (by omega) (by decide)
      obtain ⟨t1, t2, t3⟩ := tk_X hk (show s.2.2.2.1 < 64 by omega) hr b1
      rw [if_neg hn1, if_neg hn2, nI_clamp (by omega), b2]
      dsimp only
      unfold ok_X6_faultIn_23_b45 F_X6_faultIn_23_b45
      have hv : vp_in (nI (L - (d + 1))) 64 := vp_in_nI (by omega) (by decide)
      cases hs : stp s (tx (L - (d + 1))) with
      | none =>
        have t2' := t2 hs
        have er : rr tx L (d + 1) s = (some (L - (d + 1)), s) := by rw [rr, hs]
        rw [t2', if_pos rfl, er]
        exact ⟨fun _ _ => ⟨hv, t1, fun q => absurd rfl q⟩, _, _, _, _, _, _, rfl, fun pos q => by rw [Option.some.inj q], fun q => (by cases q)⟩
      | some s' =>
        obtain ⟨ac', t4, t5, t6⟩ := t3 s' hs
        have er : rr tx L (d + 1) s = rr tx L d s' := by rw [rr, hs]
        have he := stp_exc hs
        rw [t4, er]
        dsimp only
        rw [if_neg i10, nI_1, show L - (d + 1) + 1 = L - d by omega]
        obtain ⟨g1, g2⟩ := ih d (by omega) (by omega) s' ac' t6 (by omega) t5
        exact ⟨fun _ _ => ⟨hv, t1, fun _ => g1⟩, g2⟩
theorem r0_k : Rk r0 := ⟨fun j v q => (by cases q), fun h q => (by cases q), Nat.zero_le _⟩
/-- a rule, read by the class -/
theorem rule_X {tx : Nat → Nat} {L : Nat} {xs ys : Nat → Int32} (T : TX tx L xs ys) (ac : Nat → Int32) :
    ok_X6_faultIn 64 xs ac (nI L) ∧ ∃ f e w h m ac', F_X6_faultIn 64 xs ac (nI L) = (f, e, w, h, m, ac') ∧ RV (rr tx L L r0) f m ac' := by
  obtain ⟨g1, f, e, w, h, m, ac', g2, g3⟩ := rf_loop T FU L (Nat.le_refl _) (by have := FU_ge; have := T.1; omega) r0 (fun j => if j < 10 then -9 else ac j) r0_k (Nat.zero_le _) (fun j hj => if_pos hj)
  rw [Nat.sub_self] at g1 g2
  unfold ok_X6_faultIn F_X6_faultIn ok_X5_clear F_X5_clear
  rw [fill_eq 10 (by decide)]
  dsimp only
  unfold F_X5_clear_b9
  exact ⟨⟨fill_ok 10 (by decide) _ _, g1⟩, f, e, w, h, m, ac', g2, g3⟩
/-- an act, where it ends -/
def ra (tx : Nat → Nat) (L p : Nat) : Option Nat × Nat := if p < L ∧ tx p = 80 then (if p + 1 < L ∧ 48 ≤ tx (p + 1) ∧ tx (p + 1) ≤ 51 then (some (tx (p + 1) - 48), p + 2) else (none, p + 1))
  else if p < L ∧ tx p = 72 then (some 4, p + 1) else if p < L ∧ tx p = 78 then (some 5, p + 1) else (none, p)
theorem sign_Y {tx : Nat → Nat} {L : Nat} {xs ys : Nat → Int32} (T : TX tx L xs ys) {p k : Nat} (hp : p ≤ L) (hk : k < 2 ^ 31) (x : Int32) (hx : x = nI k) : ok_X12_sign (nI L) (nI p) ∧ F_X12_sign (nI L) (nI p) ys x = (bI (decide (p < L) && (tx p == k)), nI (p + (if (decide (p < L) && (tx p == k)) = true then 1 else 0))) := by
  subst hx
  obtain ⟨hL, hT⟩ := T
  unfold ok_X12_sign F_X12_sign
  have e : (if nI L ≤ nI p then (0 : Int32) else (if ys (nI p).toNatClampNeg = nI k then 1 else 0)) = bI (decide (p < L) && (tx p == k)) := by
    by_cases q : p < L
    · obtain ⟨b1, -, b3⟩ := hT p q
      rw [if_neg (nI_ge q (by omega)), nI_clamp (by omega), b3, decide_eq_true q, Bool.true_and]
      by_cases q2 : tx p = k
      · rw [if_pos (by rw [q2]), q2]; simp [bI]
      · rw [if_neg (fun z => q2 ((nI_eq (by omega) hk).mp z))]
        have : (tx p == k) = false := by simp [q2]
        rw [this]; rfl
    · rw [if_pos (nI_le (by omega) (by omega)), decide_eq_false q]; rfl
  rw [e]
  refine ⟨fun q => vp_in_nI (Nat.lt_of_lt_of_le (Nat.lt_of_not_le (fun z => q (nI_le z (by omega)))) hL) (by decide), ?_⟩
  cases (decide (p < L) && (tx p == k)) with
  | true => show (_, nI p + 1) = (_, nI (p + 1)); rw [nI_1]
  | false => show (_, nI p + 0) = (_, nI (p + 0)); rw [Int32.add_zero]; rfl
theorem act_Y {tx : Nat → Nat} {L : Nat} {xs ys : Nat → Int32} (T : TX tx L xs ys) {p : Nat} (hp : p ≤ L) : ok_X12_readAct (nI L) (nI p) ys ∧ F_X12_readAct (nI L) (nI p) ys = (aI (ra tx L p).1, nI (ra tx L p).2) := by
  obtain ⟨s1, s2⟩ := sign_Y T hp (k := 80) (by decide) 80 rfl
  obtain ⟨h1, h2⟩ := sign_Y T hp (k := 72) (by decide) 72 rfl
  obtain ⟨n1, n2⟩ := sign_Y T hp (k := 78) (by decide) 78 rfl
  have hL := T.1
  unfold ok_X12_readAct F_X12_readAct ra
  rw [s2]
  dsimp only
  unfold ok_X12_readAct_b6 F_X12_readAct_b6
  by_cases q80 : p < L ∧ tx p = 80
  · have e80 : (decide (p < L) && (tx p == 80)) = true := by simp [q80.1, q80.2]
    rw [e80, if_neg bI_tn, if_pos rfl, if_pos q80]
    unfold ok_X12_figure F_X12_figure
    by_cases q1 : p + 1 < L
    · obtain ⟨b1, -, b3⟩ := T.2 (p + 1) q1
      have hne : ¬ nI (p + 1) = nI L := fun z => by have := (nI_eq (by omega) (by omega)).mp z; omega
      rw [if_neg hne, nI_clamp (by omega), b3, nb_03 _ b1, nI_1, nI_pred, nI_clamp (by omega), b3]
      have hv : vp_in (nI (p + 1)) 64 := vp_in_nI (by omega) (by decide)
      cases hd : (decide (48 ≤ tx (p + 1)) && decide (tx (p + 1) ≤ 51)) with
      | true =>
        have hd' := hd
        rw [Bool.and_eq_true, decide_eq_true_eq, decide_eq_true_eq] at hd'
        rw [if_neg bI_tn, if_pos ⟨q1, hd'⟩, nb_val hd'.1]
        exact ⟨⟨s1, fun q => absurd q bI_tn, fun _ _ => ⟨hv, fun _ => hv⟩⟩, rfl⟩
      | false =>
        rw [if_pos bI_f, if_neg (fun z => by rw [decide_eq_true z.2.1, decide_eq_true z.2.2] at hd; cases hd)]
        exact ⟨⟨s1, fun q => absurd q bI_tn, fun _ _ => ⟨hv, fun q => absurd rfl q⟩⟩, rfl⟩
    · have heq : nI (p + 1) = nI L := by congr 1; have := q80.1; omega
      rw [if_pos heq, if_neg (fun z => q1 z.1)]
      exact ⟨⟨s1, fun q => absurd q bI_tn, fun _ q => absurd heq q⟩, rfl⟩
  · have e80 : (decide (p < L) && (tx p == 80)) = false := by
      cases h : (decide (p < L) && (tx p == 80)) with
      | false => rfl
      | true =>
        rw [Bool.and_eq_true, decide_eq_true_eq, beq_iff_eq] at h
        exact absurd h q80
    rw [e80, if_pos bI_f, if_neg nft, Nat.add_zero, if_neg q80, h2]
    dsimp only
    unfold ok_X12_readAct_b22 F_X12_readAct_b22
    by_cases q72 : p < L ∧ tx p = 72
    · have e72 : (decide (p < L) && (tx p == 72)) = true := by simp [q72.1, q72.2]
      rw [e72, if_neg bI_tn, if_pos rfl, if_pos q72]
      exact ⟨⟨s1, fun _ => ⟨h1, fun q => absurd q bI_tn⟩, fun q => absurd rfl q⟩, rfl⟩
    · have e72 : (decide (p < L) && (tx p == 72)) = false := by
        cases h : (decide (p < L) && (tx p == 72)) with
        | false => rfl
        | true =>
          rw [Bool.and_eq_true, decide_eq_true_eq, beq_iff_eq] at h
          exact absurd h q72
      rw [e72, if_pos bI_f, if_neg nft, Nat.add_zero, if_neg q72, n2]
      dsimp only
      unfold F_X12_readAct_b35
      refine ⟨⟨s1, fun _ => ⟨h1, fun _ => n1⟩, fun q => absurd rfl q⟩, ?_⟩
      by_cases q78 : p < L ∧ tx p = 78
      · have e78 : (decide (p < L) && (tx p == 78)) = true := by simp [q78.1, q78.2]
        rw [e78, if_pos q78]; rfl
      · have e78 : (decide (p < L) && (tx p == 78)) = false := by
          cases h : (decide (p < L) && (tx p == 78)) with
          | false => rfl
          | true =>
            rw [Bool.and_eq_true, decide_eq_true_eq, beq_iff_eq] at h
            exact absurd h q78
        rw [e78, if_neg q78]; rfl
/-- one of some figures -/
def on1 (tx : Nat → Nat) (L p : Nat) (x : Int32) : Option Nat := if (decide (p < L) && (dig (tx p) && bt x (tx p - 48))) = true then some (tx p - 48) else none
theorem one_Y {tx : Nat → Nat} {L : Nat} {xs ys : Nat → Int32} (T : TX tx L xs ys) {p : Nat} (hp : p ≤ L) (x : Int32) : ok_X12_oneOf (nI L) (nI p) ∧ F_X12_oneOf (nI L) (nI p) ys x = (aI (on1 tx L p x), nI (if (on1 tx L p x).isSome = true then p + 1 else p)) := by
  have hL := T.1
  unfold ok_X12_oneOf F_X12_oneOf on1
  rw [in_09]
  refine ⟨fun q => vp_in_nI (Nat.lt_of_lt_of_le (Nat.lt_of_not_le (fun z => q (nI_le z (by omega)))) hL) (by decide), ?_⟩
  by_cases q : p < L
  · obtain ⟨b1, -, b3⟩ := T.2 p q
    rw [if_neg (nI_ge q (by omega)), nI_clamp (by omega), b3, nb_dig _ b1, decide_eq_true q, Bool.true_and]
    cases hd : dig (tx p) with
    | false => rw [if_pos bI_f, Bool.false_and, if_neg nft]; rfl
    | true =>
      obtain ⟨d1, d2⟩ := dig_t.mp hd
      rw [if_neg bI_tn, nb_val d1, tst_if (by omega), Bool.true_and]
      cases bt x (tx p - 48) with
      | true => rw [if_pos rfl, if_pos rfl, nI_1]; rfl
      | false => rw [if_neg nft, if_neg nft]; rfl
  · rw [if_pos (nI_le (by omega) (by omega)), decide_eq_false q, Bool.false_and, if_neg nft, if_pos (show F_X11_isHour (-9) = 0 by decide)]; rfl
/-! the middle's run, piece by piece -/
theorem rr_at {tx : Nat → Nat} {L p : Nat} (hp : p < L) (s : Rs) : rr tx L (L - p) s = (match stp s (tx p) with | none => (some p, s) | some s' => rr tx L (L - (p + 1)) s') := by
  rw [show L - p = (L - (p + 1)) + 1 by omega, rr, show L - (L - (p + 1) + 1) = p by omega]
  cases stp s (tx p) <;> rfl
theorem rr_s {tx : Nat → Nat} {L p : Nat} (hp : p < L) {s s' : Rs} (h : stp s (tx p) = some s') : rr tx L (L - p) s = rr tx L (L - (p + 1)) s' := by rw [rr_at hp, h]
theorem rr_n {tx : Nat → Nat} {L p : Nat} (hp : p < L) {s : Rs} (h : stp s (tx p) = none) : rr tx L (L - p) s = (some p, s) := by rw [rr_at hp, h]
theorem rr_end {tx : Nat → Nat} {L : Nat} (s : Rs) : rr tx L (L - L) s = (if s.1 = true then none else some L, s) := by rw [Nat.sub_self]; rfl
theorem rr_ok {tx : Nat → Nat} {L p : Nat} {ho : Option Nat} {m : Nat} {a : Nat → Option Nat} {v p' : Nat} (h : ra tx L p = (some v, p')) : p < p' ∧ p' ≤ L ∧ v ≤ 5 ∧ rr tx L (L - p) (false, false, ho, m, a) = rr tx L (L - p') (ena (false, false, ho, m, a) v) := by
  unfold ra at h
  by_cases q80 : p < L ∧ tx p = 80
  · rw [if_pos q80] at h
    by_cases q1 : p + 1 < L ∧ 48 ≤ tx (p + 1) ∧ tx (p + 1) ≤ 51
    · rw [if_pos q1] at h
      have h1 := Option.some.inj (congrArg Prod.fst h)
      have h2 : p + 2 = p' := congrArg Prod.snd h
      have s1 : stp (false, false, ho, m, a) (tx p) = some (false, true, ho, m, a) := by rw [q80.2]; rfl
      have s2 : stp (false, true, ho, m, a) (tx (p + 1)) = some (ena (false, true, ho, m, a) (tx (p + 1) - 48)) := by
        unfold stp
        rw [if_neg nft, if_pos rfl, if_pos q1.2]
      rw [rr_s q80.1 s1, rr_s q1.1 s2, ← h1, ← h2]
      exact ⟨by omega, by omega, by omega, rfl⟩
    · rw [if_neg q1] at h; cases congrArg Prod.fst h
  · rw [if_neg q80] at h
    by_cases q72 : p < L ∧ tx p = 72
    · rw [if_pos q72] at h
      have h1 := Option.some.inj (congrArg Prod.fst h)
      have h2 : p + 1 = p' := congrArg Prod.snd h
      have s1 : stp (false, false, ho, m, a) (tx p) = some (ena (false, false, ho, m, a) 4) := by rw [q72.2]; rfl
      rw [rr_s q72.1 s1, ← h1, ← h2]
      exact ⟨by omega, by omega, by omega, rfl⟩
    · rw [if_neg q72] at h
      by_cases q78 : p < L ∧ tx p = 78
      · rw [if_pos q78] at h
        have h1 := Option.some.inj (congrArg Prod.fst h)
        have h2 : p + 1 = p' := congrArg Prod.snd h
        have s1 : stp (false, false, ho, m, a) (tx p) = some (ena (false, false, ho, m, a) 5) := by rw [q78.2]; rfl
        rw [rr_s q78.1 s1, ← h1, ← h2]
        exact ⟨by omega, by omega, by omega, rfl⟩
      · rw [if_neg q78] at h; cases congrArg Prod.fst h
theorem rr_no {tx : Nat → Nat} {L p : Nat} (hp : p ≤ L) {ho : Option Nat} {m : Nat} {a : Nat → Option Nat} {p' : Nat} (h : ra tx L p = (none, p')) (hc : (∃ x, ho = some x) ∨ p = L ∨ (dig (tx p) = true → ∃ x, a (tx p - 48) = some x)) : (rr tx L (L - p) (false, false, ho, m, a)).1 = some p' := by
  unfold ra at h
  by_cases q80 : p < L ∧ tx p = 80
  · rw [if_pos q80] at h
    have s1 : stp (false, false, ho, m, a) (tx p) = some (false, true, ho, m, a) := by rw [q80.2]; rfl
    rw [rr_s q80.1 s1]
    by_cases q1 : p + 1 < L ∧ 48 ≤ tx (p + 1) ∧ tx (p + 1) ≤ 51
    · rw [if_pos q1] at h; cases congrArg Prod.fst h
    · rw [if_neg q1] at h
      have h2 : p + 1 = p' := congrArg Prod.snd h
      rw [← h2]
      by_cases q2 : p + 1 < L
      · have s2 : stp (false, true, ho, m, a) (tx (p + 1)) = none := by
          unfold stp
          rw [if_neg nft, if_pos rfl, if_neg (fun z => q1 ⟨q2, z⟩)]
        rw [rr_n q2 s2]
      · have e : p + 1 = L := by omega
        rw [e, rr_end]; rfl
  · rw [if_neg q80] at h
    by_cases q72 : p < L ∧ tx p = 72
    · rw [if_pos q72] at h; cases congrArg Prod.fst h
    · rw [if_neg q72] at h
      by_cases q78 : p < L ∧ tx p = 78
      · rw [if_pos q78] at h; cases congrArg Prod.fst h
      · rw [if_neg q78] at h
        have h2 : p = p' := congrArg Prod.snd h
        rw [← h2]
        by_cases q : p < L
        · have s1 : stp (false, false, ho, m, a) (tx p) = none := by
            unfold stp
            rw [if_neg nft, if_neg nft, if_neg (fun z => q72 ⟨q, z⟩), if_neg (fun z => q78 ⟨q, z⟩), if_neg (fun z => q80 ⟨q, z⟩)]
            cases ho with
            | some x => rfl
            | none =>
              show (if dig (tx p) = true then (match a (tx p - 48) with | none => some (false, false, some (tx p - 48), m, a) | some _ => none) else none) = none
              cases hd : dig (tx p) with
              | false => rw [if_neg nft]
              | true =>
                rcases hc with ⟨x, hx⟩ | hx | hx
                · cases hx
                · omega
                · obtain ⟨x, hx⟩ := hx hd
                  rw [if_pos rfl, hx]
          rw [rr_n q s1]
        · have e : p = L := by omega
          rw [e, rr_end]; rfl
theorem rr_dig {tx : Nat → Nat} {L p : Nat} (hp : p < L) {m : Nat} {a : Nat → Option Nat} (hd : dig (tx p) = true) (ha : a (tx p - 48) = none) : rr tx L (L - p) (false, false, none, m, a) = rr tx L (L - (p + 1)) (false, false, some (tx p - 48), m, a) := by
  obtain ⟨d1, d2⟩ := dig_t.mp hd
  apply rr_s hp
  unfold stp
  rw [if_neg nft, if_neg nft, if_neg (by omega), if_neg (by omega), if_neg (by omega)]
  show (if dig (tx p) = true then (match a (tx p - 48) with | none => some (false, false, some (tx p - 48), m, a) | some _ => none) else none) = _
  rw [hd, if_pos rfl, ha]

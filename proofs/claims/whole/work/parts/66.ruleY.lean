/-! a rule, read by the reference -/
theorem b_1023 (i : Nat) : bt 1023 i = decide (i < 10) := by
  rcases Nat.lt_or_ge i 32 with h | h
  · exact (by decide +kernel : ∀ i, i < 32 → bt 1023 i = decide (i < 10)) i h
  · rw [b_big h, decide_eq_false (by omega)]
theorem ft_loop (x : Int32) : ∀ n h ac, h ≤ 10 → 10 < h + n → ok_X12_readRule_L132 x n ac (nI h) ∧ (∀ j, F_X12_readRule_L132 x n ac (nI h) j = if h ≤ j ∧ j < 10 ∧ ac j = -9 then x else ac j) := by
  intro n
  induction n with
  | zero => intro h ac h1 h2; omega
  | succ n ih =>
    intro h ac h1 h2
    rw [ok_X12_readRule_L132_s, F_X12_readRule_L132_s]
    by_cases h10 : h = 10
    · subst h10
      rw [if_pos (show (10 : Int32) ≤ nI 10 by decide)]
      exact ⟨fun q => absurd (by decide) q, fun j => by rw [if_neg (fun q => by omega)]⟩
    · have hv : vp_in (nI h) 10 := vp_in_nI (by omega) (by decide)
      rw [if_neg (le_lit (K := 10) 10 rfl (by omega) (by decide)), nI_clamp (by omega), nI_1]
      obtain ⟨g1, g2⟩ := ih (h + 1) (upd ac h (if ac h = -9 then x else ac h)) (by omega) (by omega)
      refine ⟨fun _ => ⟨hv, fun _ => hv, hv, g1⟩, fun j => ?_⟩
      rw [g2 j]
      by_cases e : j = h
      · subst e
        rw [if_neg (fun q => by omega), pk_us]
        by_cases q : ac j = -9
        · rw [if_pos q, if_pos ⟨Nat.le_refl _, by omega, q⟩]
        · rw [if_neg q, if_neg (fun z => q z.2.2)]
      · rw [pk_un e]
        by_cases q3 : h ≤ j ∧ j < 10 ∧ ac j = -9
        · rw [if_pos ⟨by omega, q3.2⟩, if_pos q3]
        · rw [if_neg (fun q4 => q3 ⟨by omega, q4.2⟩), if_neg q3]
def RVY (o : Option Nat × Rs) (F : Int32 × Int32 × Int32 × (Nat → Int32)) : Prop := RV o F.1 F.2.2.1 F.2.2.2
/-- behind the exceptions -/
theorem rl_last {tx : Nat → Nat} {L : Nat} {xs ys : Nat → Int32} (T : TX tx L xs ys) {p m : Nat} (hp : p ≤ L) {a : Nat → Option Nat} {ac : Nat → Int32} (hr : Ra a ac) (hk : Rk (false, false, none, m, a)) (hc : p = L ∨ (dig (tx p) = true → ∃ x, a (tx p - 48) = some x)) :
    ok_X12_readRule_b102 (nI L) ys (nI p) ac ∧ RVY (rr tx L (L - p) (false, false, none, m, a)) (F_X12_readRule_b102 (nI L) ys (nI p) (nI m) ac) := by
  have hL := T.1
  obtain ⟨a1, a2⟩ := act_Y T hp
  unfold ok_X12_readRule_b102 F_X12_readRule_b102
  rw [a2]
  dsimp only
  unfold ok_X12_readRule_b106 F_X12_readRule_b106
  generalize hra : ra tx L p = z at *
  obtain ⟨o, p'⟩ := z
  cases o with
  | none =>
    have e9 : aI none = -9 := rfl
    have hrr := rr_no (ho := none) (m := m) hp hra (Or.inr hc)
    dsimp only
    rw [if_pos e9]
    refine ⟨⟨a1, fun q => absurd e9 q⟩, fun pos q => ?_, fun q => ?_⟩
    · rw [hrr] at q; rw [← Option.some.inj q]
    · rw [hrr] at q; cases q
  | some v =>
    obtain ⟨r1, r2, r3, r4⟩ := rr_ok (ho := none) (m := m) (a := a) hra
    have e9 : ¬ aI (some v) = -9 := nI_ne9 (by omega)
    dsimp only
    rw [if_neg e9, r4]
    obtain ⟨f1, f2⟩ := ft_loop (aI (some v)) FU 0 ac (Nat.zero_le _) (by have := FU_ge; omega)
    rw [nI_0] at f1 f2
    have een : ena (false, false, none, m, a) v = (true, false, none, m, fun j => match a j with | none => some v | some x => some x) := rfl
    by_cases q : p' = L
    · subst q
      rw [if_pos (Int32.le_refl _), rr_end, een]
      refine ⟨⟨a1, fun _ _ => f1⟩, fun pos q => (by cases q), fun _ => ⟨rfl, rfl, fun j hj => ?_⟩⟩
      show F_X12_readRule_L132 (aI (some v)) FU ac 0 j = aI (match a j with | none => some v | some x => some x)
      rw [f2 j, hr j hj]
      cases ha : a j with
      | none => rw [if_pos ⟨Nat.zero_le _, hj, rfl⟩]
      | some x => rw [if_neg (fun z => by have := (aI_n (o := some x) (fun v hv' => hk.1 j v (by rw [← hv']; exact ha))).mp z.2.2; cases this)]
    · have hlt : p' < L := by omega
      have hs : stp (ena (false, false, none, m, a) v) (tx p') = none := rfl
      rw [if_neg (nI_ge hlt (by omega)), rr_n hlt hs]
      exact ⟨⟨a1, fun _ q => absurd q (nI_ge hlt (by omega))⟩, fun pos q => by rw [← Option.some.inj q], fun q => (by cases q)⟩
theorem rl_loop {tx : Nat → Nat} {L : Nat} {xs ys : Nat → Int32} (T : TX tx L xs ys) : ∀ n p, p ≤ L → L - p < n → ∀ (m : Nat) (a : Nat → Option Nat) (ac : Nat → Int32) (v1 : Int32) (ho : Option Nat), Ra a ac → Rk (false, false, ho, m, a) → m + (L - p) ≤ 64 → (∀ j, j < 10 → bt v1 j = (a j).isSome) → (ho = none → p = L ∨ (dig (tx p) = true → ∃ x, a (tx p - 48) = some x)) →
    ok_X12_readRule_L42 (nI L) ys (fun e42_0 e42_1 e42_2 => (ok_X12_readRule_b102 (nI L) ys e42_0 e42_2)) n (nI p) (nI m) ac v1 (aI ho) ∧
    RVY (rr tx L (L - p) (false, false, ho, m, a)) (F_X12_readRule_L42 (nI L) ys (fun e42_0 e42_1 e42_2 => (F_X12_readRule_b102 (nI L) ys e42_0 e42_1 e42_2)) n (nI p) (nI m) ac v1 (aI ho)) := by
  have hL := T.1
  intro n
  induction n with
  | zero => intro p h1 h2; omega
  | succ n ih =>
    intro p h1 h2 m a ac v1 ho hr hk hm hb hc
    rw [ok_X12_readRule_L42_s, F_X12_readRule_L42_s]
    cases ho with
    | none =>
      have e9 : aI none = -9 := rfl
      rw [if_pos e9]
      obtain ⟨l1, l2⟩ := rl_last T h1 hr hk (hc rfl)
      exact ⟨⟨fun _ => l1, fun q => absurd e9 q⟩, l2⟩
    | some x =>
      obtain ⟨hx10, hxn⟩ := hk.2.1 x rfl
      have e9 : ¬ aI (some x) = -9 := nI_ne9 (by omega)
      have ex : aI (some x) = nI x := rfl
      obtain ⟨a1, a2⟩ := act_Y T h1
      rw [if_neg e9, a2]
      dsimp only
      unfold ok_X12_readRule_42_b52 F_X12_readRule_42_b52
      generalize hra : ra tx L p = z at *
      obtain ⟨o, p'⟩ := z
      cases o with
      | none =>
        have e9' : aI none = -9 := rfl
        have hrr := rr_no (ho := some x) (m := m) (a := a) h1 hra (Or.inl ⟨x, rfl⟩)
        dsimp only
        rw [if_pos e9']
        refine ⟨⟨fun q => absurd q e9, fun _ => ⟨a1, fun q => absurd e9' q⟩⟩, fun pos q => ?_, fun q => ?_⟩
        · rw [hrr] at q; rw [← Option.some.inj q]
        · rw [hrr] at q; cases q
      | some v =>
        obtain ⟨r1, r2, r3, r4⟩ := rr_ok (ho := some x) (m := m) (a := a) hra
        have e9' : ¬ aI (some v) = -9 := nI_ne9 (by omega)
        have een : ena (false, false, some x, m, a) v = (false, false, none, m + 1, fun j => if j = x then some v else a j) := rfl
        dsimp only
        rw [if_neg e9', r4, een, ex, nI_clamp (by omega), nI_1]
        obtain ⟨o1, o2⟩ := one_Y T r2 (1023 &&& ((v1 ||| ((1 : Int32) <<< (nI x &&& 31))) ^^^ (-1)))
        rw [o2]
        dsimp only
        unfold ok_X12_readRule_42_b98 F_X12_readRule_42_b98
        have hr' : Ra (fun j => if j = x then some v else a j) (upd ac x (aI (some v))) := by
          intro j hj
          by_cases q : j = x
          · rw [q, pk_us]; show _ = aI (if x = x then some v else a x); rw [if_pos rfl]
          · rw [pk_un q]; show _ = aI (if j = x then some v else a j); rw [if_neg q]; exact hr j hj
        have hb' : ∀ j, j < 10 → bt (v1 ||| ((1 : Int32) <<< (nI x &&& 31))) j = (if j = x then some v else a j).isSome := by
          intro j hj
          rw [b_or, bt_bit (by omega) (by omega), hb j hj]
          by_cases q : j = x
          · rw [if_pos q]; simp [q]
          · rw [if_neg q]; simp [q]
        have hk1 : ∀ j u, (if j = x then some v else a j) = some u → u ≤ 5 := by
          intro j u hu
          by_cases q : j = x
          · rw [if_pos q] at hu; have := Option.some.inj hu; omega
          · rw [if_neg q] at hu; exact hk.1 j u hu
        have hm1 : m + 1 ≤ 64 := by omega
        have hset : ∀ j, j < 10 → bt (1023 &&& ((v1 ||| ((1 : Int32) <<< (nI x &&& 31))) ^^^ (-1))) j = !(if j = x then some v else a j).isSome := by
          intro j hj
          rw [bt_andn, b_1023, hb' j hj, decide_eq_true hj, Bool.true_and]
        have hv10 : vp_in (nI x) 10 := vp_in_nI hx10 (by decide)
        cases hon : on1 tx L p' (1023 &&& ((v1 ||| ((1 : Int32) <<< (nI x &&& 31))) ^^^ (-1))) with
        | none =>
          have hnone : p' = L ∨ (dig (tx p') = true → ∃ y, (if tx p' - 48 = x then some v else a (tx p' - 48)) = some y) := by
            by_cases q : p' = L
            · exact Or.inl q
            · right
              intro hd
              obtain ⟨d1, d2⟩ := dig_t.mp hd
              unfold on1 at hon
              rw [decide_eq_true (show p' < L by omega), hd, hset _ (show tx p' - 48 < 10 by omega)] at hon
              cases ha : (if tx p' - 48 = x then some v else a (tx p' - 48)) with
              | none => rw [ha, if_pos (by rfl)] at hon; cases hon
              | some y => exact ⟨y, rfl⟩
          obtain ⟨g1, g2⟩ := ih p' r2 (by omega) (m + 1) (fun j => if j = x then some v else a j) (upd ac x (aI (some v))) (v1 ||| ((1 : Int32) <<< (nI x &&& 31))) none hr' ⟨hk1, fun h q => (by cases q), hm1⟩ (by omega) hb' (fun _ => hnone)
          have en : nI (if (none : Option Nat).isSome = true then p' + 1 else p') = nI p' := rfl
          rw [en]
          exact ⟨⟨fun q => absurd q e9, fun _ => ⟨a1, fun _ => ⟨hv10, o1, g1⟩⟩⟩, g2⟩
        | some y =>
          have hon' := hon
          unfold on1 at hon'
          by_cases q : (decide (p' < L) && (dig (tx p') && bt (1023 &&& ((v1 ||| ((1 : Int32) <<< (nI x &&& 31))) ^^^ (-1))) (tx p' - 48))) = true
          · rw [if_pos q] at hon'
            have hy := Option.some.inj hon'
            rw [Bool.and_eq_true, Bool.and_eq_true, decide_eq_true_eq] at q
            obtain ⟨q1, q2, q3⟩ := q
            obtain ⟨d1, d2⟩ := dig_t.mp q2
            rw [hset _ (show tx p' - 48 < 10 by omega)] at q3
            have ha : (if tx p' - 48 = x then some v else a (tx p' - 48)) = none := by
              cases ha : (if tx p' - 48 = x then some v else a (tx p' - 48)) with
              | none => rfl
              | some y => rw [ha] at q3; cases q3
            rw [rr_dig q1 q2 (a := fun j => if j = x then some v else a j) ha]
            obtain ⟨g1, g2⟩ := ih (p' + 1) (by omega) (by omega) (m + 1) (fun j => if j = x then some v else a j) (upd ac x (aI (some v))) (v1 ||| ((1 : Int32) <<< (nI x &&& 31))) (some (tx p' - 48)) hr' ⟨hk1, fun h q => by
              have := Option.some.inj q
              rw [← this]
              exact ⟨by omega, ha⟩, hm1⟩ (by omega) hb' (fun q => (by cases q))
            have en : nI (if (some y : Option Nat).isSome = true then p' + 1 else p') = nI (p' + 1) := rfl
            rw [en, ← hy]
            exact ⟨⟨fun q => absurd q e9, fun _ => ⟨a1, fun _ => ⟨hv10, o1, g1⟩⟩⟩, g2⟩
          · rw [if_neg q] at hon'; cases hon'
theorem rule_Y {tx : Nat → Nat} {L : Nat} {xs ys : Nat → Int32} (T : TX tx L xs ys) (ac : Nat → Int32) :
    ok_X12_readRule (nI L) ys ac ∧ RVY (rr tx L L r0) (F_X12_readRule (nI L) ys ac) := by
  have hL := T.1
  have hfill := fl_all (fun n f v => F_X12_readRule_L14 n f v) 10 (fun _ => -9) (by decide)
    (fun n f i hi => by rw [F_X12_readRule_L14_s, if_neg (le_lit (K := 10) 10 rfl hi (by decide)), nI_1, nI_clamp (by omega)])
    (fun n f => by rw [F_X12_readRule_L14_s, if_pos (le_self (K := 10) 10 rfl)]) ac
  have hfok : ok_X12_readRule_L14 FU ac 0 := ok_all (fun n f v => ok_X12_readRule_L14 n f v) 10 (by decide) (fun _ _ => True) (fun n s i hi _ h => by rw [ok_X12_readRule_L14_s]; intro _; refine ⟨vp_in_nI hi (by decide), ?_⟩; rw [nI_1]; exact h _ trivial) (fun n s _ => by rw [ok_X12_readRule_L14_s]; intro h; exact absurd (le_self (K := 10) 10 rfl) h) ac trivial
  obtain ⟨o1, o2⟩ := one_Y T (p := 0) (Nat.zero_le _) 1023
  have o2' : F_X12_oneOf (nI L) 0 ys 1023 = (aI (on1 tx L 0 1023), nI (if (on1 tx L 0 1023).isSome = true then 0 + 1 else 0)) := o2
  have hra : Ra (fun _ => none) (fun j => if j < 10 then -9 else ac j) := fun j hj => if_pos hj
  unfold ok_X12_readRule F_X12_readRule
  rw [hfill]
  dsimp only
  unfold ok_X12_readRule_b34 F_X12_readRule_b34
  rw [o2']
  dsimp only
  unfold ok_X12_readRule_b41 F_X12_readRule_b41
  cases hon : on1 tx L 0 1023 with
  | none =>
    have hnone : 0 = L ∨ (dig (tx 0) = true → ∃ y, (fun _ => none : Nat → Option Nat) (tx 0 - 48) = some y) := by
      by_cases q : 0 = L
      · exact Or.inl q
      · right
        intro hd
        obtain ⟨d1, d2⟩ := dig_t.mp hd
        unfold on1 at hon
        rw [decide_eq_true (show 0 < L by omega), hd, b_1023, decide_eq_true (show tx 0 - 48 < 10 by omega), if_pos (by rfl)] at hon
        cases hon
    obtain ⟨g1, g2⟩ := rl_loop T FU 0 (Nat.zero_le _) (by have := FU_ge; omega) 0 (fun _ => none) (fun j => if j < 10 then -9 else ac j) 0 none hra ⟨fun j v q => (by cases q), fun h q => (by cases q), Nat.zero_le _⟩ (by omega) (fun j _ => by rw [b_0]; rfl) (fun _ => hnone)
    exact ⟨⟨hfok, o1, g1⟩, g2⟩
  | some y =>
    have hon' := hon
    unfold on1 at hon'
    by_cases q : (decide (0 < L) && (dig (tx 0) && bt 1023 (tx 0 - 48))) = true
    · rw [if_pos q] at hon'
      have hy := Option.some.inj hon'
      rw [Bool.and_eq_true, Bool.and_eq_true, decide_eq_true_eq] at q
      obtain ⟨q1, q2, -⟩ := q
      obtain ⟨d1, d2⟩ := dig_t.mp q2
      have er : rr tx L L r0 = rr tx L (L - (0 + 1)) (false, false, some (tx 0 - 48), 0, fun _ => none) := rr_dig (p := 0) q1 (m := 0) (a := fun _ => none) q2 rfl
      obtain ⟨g1, g2⟩ := rl_loop T FU (0 + 1) (by omega) (by have := FU_ge; omega) 0 (fun _ => none) (fun j => if j < 10 then -9 else ac j) 0 (some (tx 0 - 48)) hra ⟨fun j v q => (by cases q), fun h q => by
        have := Option.some.inj q
        rw [← this]
        exact ⟨by omega, rfl⟩, Nat.zero_le _⟩ (by omega) (fun j _ => by rw [b_0]; rfl) (fun q => (by cases q))
      have en : nI (if (some y : Option Nat).isSome = true then 0 + 1 else 0) = nI (0 + 1) := rfl
      rw [en, ← hy, er]
      exact ⟨⟨hfok, o1, g1⟩, g2⟩
    · rw [if_neg q] at hon'; cases hon'

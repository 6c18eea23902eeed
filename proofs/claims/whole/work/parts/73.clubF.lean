/-! a club as a text: figures, and where the middle goes -/
def fg1 (tx : Nat → Nat) (L p : Nat) (P : Nat → Bool) : Option Nat := if (decide (p < L) && (dig (tx p) && P (tx p - 48))) = true then some (tx p - 48) else none
theorem one_F {tx : Nat → Nat} {L : Nat} {xs ys : Nat → Int32} (T : TX tx L xs ys) {p : Nat} (hp : p ≤ L) {x : Int32} {P : Nat → Bool} (hx : ∀ k, k < 10 → bt x k = P k) : ok_X12_oneOf (nI L) (nI p) ∧ F_X12_oneOf (nI L) (nI p) ys x = (aI (fg1 tx L p P), nI (if (fg1 tx L p P).isSome = true then p + 1 else p)) := by
  have h := one_Y T hp x
  have e : on1 tx L p x = fg1 tx L p P := by
    unfold on1 fg1
    cases hd : dig (tx p) with
    | false => rfl
    | true =>
      obtain ⟨d1, d2⟩ := dig_t.mp hd
      rw [hx (tx p - 48) (by omega)]
  rw [← e]
  exact h
theorem fig_G {tx : Nat → Nat} {L : Nat} {xs ys : Nat → Int32} (T : TX tx L xs ys) {p : Nat} (hp : p ≤ L) {x1 x2 : Int32} {P : Nat → Bool} (hin : ∀ b, b < 256 → F_X12_in (nI b - 48).toInt64 x1.toInt64 x2.toInt64 = bI (dig b && P (b - 48))) : ok_X12_figure (nI L) (nI p) ys x1 x2 ∧ F_X12_figure (nI L) (nI p) ys x1 x2 = (aI (fg1 tx L p P), nI (if (fg1 tx L p P).isSome = true then p + 1 else p)) := by
  have hL := T.1
  unfold ok_X12_figure F_X12_figure fg1
  by_cases q : p < L
  · obtain ⟨b1, -, b3⟩ := T.2 p q
    have hne : ¬ nI p = nI L := fun z => by have := (nI_eq (by omega) (by omega)).mp z; omega
    have hv : vp_in (nI p) 64 := vp_in_nI (by omega) (by decide)
    rw [if_neg hne, nI_clamp (by omega), b3, hin _ b1, nI_1, nI_pred, nI_clamp (by omega), b3, decide_eq_true q, Bool.true_and]
    refine ⟨fun _ => ⟨hv, fun _ => hv⟩, ?_⟩
    cases hd : (dig (tx p) && P (tx p - 48)) with
    | false => rw [if_pos bI_f, if_neg nft]; rfl
    | true =>
      have hd' := hd
      rw [Bool.and_eq_true] at hd'
      obtain ⟨d1, d2⟩ := dig_t.mp hd'.1
      rw [if_neg bI_tn, if_pos rfl, nb_val d1]; rfl
  · have heq : nI p = nI L := by congr 1; omega
    rw [if_pos heq, decide_eq_false q, Bool.false_and, if_neg nft]
    exact ⟨fun q => absurd heq q, rfl⟩
theorem nb_a9 : ∀ a, a < 10 → ∀ b, b < 256 → F_X12_in (nI b - 48).toInt64 (nI a).toInt64 (9 : Int32).toInt64 = bI (dig b && decide (a ≤ b - 48)) := by decide +kernel
theorem nb_16 : ∀ b, b < 256 → F_X12_in (nI b - 48).toInt64 (1 : Int32).toInt64 (6 : Int32).toInt64 = bI (dig b && (decide (1 ≤ b - 48) && decide (b - 48 ≤ 6))) := by decide +kernel
def nxt (l g o t : Nat) (c : Cl) (f : Nat) : Cs := if g + 1 = nFg l then (0, g + 1, o, t, enp l o t c f) else if g = 0 then (l, 1, f, t, c) else (l, g + 1, o, f, c)
theorem cr_at {tx : Nat → Nat} {L p : Nat} (hp : p < L) (s : Cs) : cr tx L (L - p) s = (match stc s (tx p) with | none => (some p, s.2.2.2.2) | some s' => cr tx L (L - (p + 1)) s') := by
  rw [show L - p = (L - (p + 1)) + 1 by omega, cr, show L - (L - (p + 1) + 1) = p by omega]
  cases stc s (tx p) <;> rfl
theorem cr_s {tx : Nat → Nat} {L p : Nat} (hp : p < L) {s s' : Cs} (h : stc s (tx p) = some s') : cr tx L (L - p) s = cr tx L (L - (p + 1)) s' := by rw [cr_at hp, h]
theorem cr_n {tx : Nat → Nat} {L p : Nat} (hp : p < L) {s : Cs} (h : stc s (tx p) = none) : cr tx L (L - p) s = (some p, s.2.2.2.2) := by rw [cr_at hp, h]
theorem cr_end {tx : Nat → Nat} {L : Nat} (s : Cs) : cr tx L (L - L) s = (if s.1 = 0 ∧ ¬ kN s.2.2.2.2 = 0 then none else some L, s.2.2.2.2) := by rw [Nat.sub_self]; rfl
theorem cr_f {tx : Nat → Nat} {L p l g o t : Nat} {c : Cl} (hl : ¬ l = 0) {f : Nat} (h : fg1 tx L p (rgt l g o t c) = some f) : p < L ∧ f ≤ 9 ∧ rgt l g o t c f = true ∧ stc (l, g, o, t, c) (tx p) = some (nxt l g o t c f) ∧ cr tx L (L - p) (l, g, o, t, c) = cr tx L (L - (p + 1)) (nxt l g o t c f) := by
  unfold fg1 at h
  by_cases q : (decide (p < L) && (dig (tx p) && rgt l g o t c (tx p - 48))) = true
  · rw [if_pos q] at h
    have hf := Option.some.inj h
    rw [Bool.and_eq_true, decide_eq_true_eq] at q
    obtain ⟨q1, q2⟩ := q
    have q2' := q2
    rw [Bool.and_eq_true] at q2'
    obtain ⟨d1, d2⟩ := dig_t.mp q2'.1
    have hs : stc (l, g, o, t, c) (tx p) = some (nxt l g o t c f) := by
      unfold stc nxt
      dsimp only
      rw [if_neg hl, if_pos q2, hf]
    exact ⟨q1, by omega, by rw [← hf]; exact q2'.2, hs, cr_s q1 hs⟩
  · rw [if_neg q] at h; cases h
theorem cr_g {tx : Nat → Nat} {L p l g o t : Nat} {c : Cl} (hp : p ≤ L) (hl : ¬ l = 0) (h : fg1 tx L p (rgt l g o t c) = none) : (cr tx L (L - p) (l, g, o, t, c)).1 = some p := by
  by_cases q : p < L
  · have hs : stc (l, g, o, t, c) (tx p) = none := by
      unfold fg1 at h
      unfold stc
      dsimp only
      rw [decide_eq_true q, Bool.true_and] at h
      rw [if_neg hl]
      cases e : (dig (tx p) && rgt l g o t c (tx p - 48)) with
      | true => rw [e, if_pos rfl] at h; cases h
      | false => rw [if_neg nft]
    rw [cr_n q hs]
  · have : p = L := by omega
    subst this
    rw [cr_end]
    show (if l = 0 ∧ ¬ kN c = 0 then none else some p) = some p
    rw [if_neg (fun z => hl z.1)]
theorem sp1 {i p : Nat} : nI (if (some i : Option Nat).isSome = true then p + 1 else p) = nI (p + 1) := rfl
/-- what reading a part comes to -/
def PR (tx : Nat → Nat) (L p : Nat) (s : Cs) (q1 q2 : Int32) (K : Cl → Prop) : Prop := (q1 = 0 ∧ ∃ p', q2 = nI p' ∧ (cr tx L (L - p) s).1 = some p') ∨ (q1 = 1 ∧ ∃ p' g' o' t' c', p ≤ p' ∧ p' ≤ L ∧ q2 = nI p' ∧ cr tx L (L - p) s = cr tx L (L - p') (0, g', o', t', c') ∧ K c')
theorem PR_isB {tx : Nat → Nat} {L p : Nat} {s : Cs} {q1 q2 : Int32} {K : Cl → Prop} (h : PR tx L p s q1 q2 K) : isB q1 := by
  rcases h with h | h
  · rw [h.1]; exact isB_bI false
  · rw [h.1]; exact isB_bI true
theorem PR_step {tx : Nat → Nat} {L p : Nat} {s s' : Cs} {q1 q2 : Int32} {K : Cl → Prop} (hc : cr tx L (L - p) s = cr tx L (L - (p + 1)) s') (h : PR tx L (p + 1) s' q1 q2 K) : PR tx L p s q1 q2 K := by
  rcases h with ⟨h1, p', h2, h3⟩ | ⟨h1, p', g', o', t', c', h2, h3, h4, h5, h6⟩
  · exact Or.inl ⟨h1, p', h2, by rw [hc]; exact h3⟩
  · exact Or.inr ⟨h1, p', g', o', t', c', by omega, h3, h4, by rw [hc]; exact h5, h6⟩
theorem PR_no {tx : Nat → Nat} {L p l g o t : Nat} {c : Cl} {K : Cl → Prop} (hp : p ≤ L) (hl : ¬ l = 0) (h : fg1 tx L p (rgt l g o t c) = none) : PR tx L p (l, g, o, t, c) 0 (nI p) K := Or.inl ⟨rfl, p, rfl, cr_g hp hl h⟩
section CYu
variable {c : Cl} {rp rf rs : Int32} {rw rr' rt rth rmi rri rop ros rsh rho : Nat → Int32}
theorem CY_H (R : CY c rp rf rs rw rr' rt rth rmi rri rop ros rsh rho) (o f : Nat) : CY (sC (sC c 10 o f) 14 o 1) rp rf rs rw rr' rt rth rmi rri rop ros rsh (upd rho o (nI f)) := by
  obtain ⟨r1, r2, r3, r4, r5, r6⟩ := R
  refine ⟨r1, r2, r3, r4, r5, fun i hi => ?_⟩
  rw [upd_if, eH_t, eH_H]
  by_cases q : i = o
  · rw [if_pos q, if_pos q, show (i == o) = true by simp [q], Bool.or_true, if_pos rfl]
  · rw [if_neg q, if_neg q, show (i == o) = false by simp [q], Bool.or_false]; exact r6 i hi
theorem CY_O (R : CY c rp rf rs rw rr' rt rth rmi rri rop ros rsh rho) (o t f : Nat) : CY (sC (sC (sC c 8 o t) 9 o f) 13 o 1) rp rf rs rw rr' rt rth rmi rri (upd rop o 1) (upd ros o (nI t)) (upd rsh o (nI f)) rho := by
  obtain ⟨r1, r2, r3, r4, r5, r6⟩ := R
  refine ⟨r1, r2, r3, r4, fun p hp => ?_, r6⟩
  obtain ⟨a1, a2, a3, a4, a5, a6⟩ := r5 p hp
  refine ⟨a1, a2, a3, ?_, ?_, ?_⟩
  · rw [upd_if, eO_t]
    by_cases q : p = o
    · rw [if_pos q, show (p == o) = true by simp [q], Bool.or_true]; rfl
    · rw [if_neg q, show (p == o) = false by simp [q], Bool.or_false]; exact a4
  · rw [upd_if, eO_O]
    by_cases q : p = o
    · rw [if_pos q, if_pos q]
    · rw [if_neg q, if_neg q]; exact a5
  · rw [upd_if, eO_U]
    by_cases q : p = o
    · rw [if_pos q, if_pos q]
    · rw [if_neg q, if_neg q]; exact a6
theorem CY_P (hP : PW c) (R : CY c rp rf rs rw rr' rt rth rmi rri rop ros rsh rho) {o : Nat} (ho : kP c o = false) (t f : Nat) : CY (addP c o t f) rp rf rs rw rr' rt (upd rth o 1) (upd rmi o (nI t)) (upd rri o (nI f)) rop ros rsh rho := by
  obtain ⟨r1, r2, r3, r4, r5, r6⟩ := R
  refine ⟨r1, r2, r3, r4, fun p hp => ?_, r6⟩
  obtain ⟨a1, a2, a3, a4, a5, a6⟩ := r5 p hp
  obtain ⟨z1, z2⟩ := hP.2.2.2.2.2.2.2.2.2.1 o ho
  rw [eP_P, eP_M, eP_R, eP_O, eP_U, upd_if, upd_if, upd_if]
  by_cases q : p = o
  · rw [if_pos q, if_pos q, if_pos q, if_pos q, if_pos q, if_pos q, if_pos q, show (p == o) = true by simp [q], Bool.or_true]
    refine ⟨rfl, rfl, rfl, a4, ?_, ?_⟩
    · rw [a5, q, z1]
    · rw [a6, q, z2]
  · rw [if_neg q, if_neg q, if_neg q, if_neg q, if_neg q, if_neg q, if_neg q, show (p == o) = false by simp [q], Bool.or_false]
    exact ⟨a1, a2, a3, a4, a5, a6⟩
theorem CY_S (R : CY c rp rf rs rw rr' rt rth rmi rri rop ros rsh rho) (o t f : Nat) : CY (addS c o t f) rp rf (nI (kS c + 1)) (upd rw (kS c) (nI o)) (upd rr' (kS c) (nI t)) (upd rt (kS c) (nI f)) rth rmi rri rop ros rsh rho := by
  obtain ⟨r1, r2, r3, r4, r5, r6⟩ := R
  refine ⟨r1, r2, rfl, fun s hs => ?_, r5, r6⟩
  rw [addS_S] at hs
  rw [addS_W, addS_F, addS_T, upd_if, upd_if, upd_if]
  by_cases q : s = kS c
  · rw [if_pos q, if_pos q, if_pos q, if_pos q, if_pos q, if_pos q]; exact ⟨rfl, rfl, rfl⟩
  · rw [if_neg q, if_neg q, if_neg q, if_neg q, if_neg q, if_neg q]; exact r4 s (by omega)
theorem CY_F (R : CY c rp rf rs rw rr' rt rth rmi rri rop ros rsh rho) (f : Nat) : CY (sC c 11 0 f) rp (nI f) rs rw rr' rt rth rmi rri rop ros rsh rho := by
  obtain ⟨r1, r2, r3, r4, r5, r6⟩ := R
  exact ⟨r1, rfl, r3, r4, r5, r6⟩
/-- a home -/
theorem rh_Y {tx : Nat → Nat} {L : Nat} {xs ys : Nat → Int32} (T : TX tx L xs ys) {p o t : Nat} (hp : p ≤ L) (hI : CI (72, 0, o, t, c)) (R : CY c rp rf rs rw rr' rt rth rmi rri rop ros rsh rho) :
    ok_X12_readHome (nI L) (nI p) rp ys rho ∧ PR tx L p (72, 0, o, t, c) (F_X12_readHome (nI L) (nI p) rp ys rho).1 (F_X12_readHome (nI L) (nI p) rp ys rho).2.1 (fun c' => PW c' ∧ CY c' rp rf rs rw rr' rt rth rmi rri rop ros rsh (F_X12_readHome (nI L) (nI p) rp ys rho).2.2) := by
  have hP : PW c := hI.1
  obtain ⟨h1, h2⟩ := hm_Y hP R
  obtain ⟨o1, o2⟩ := one_F T hp (P := rgt 72 0 o t c) (x := F_X12_homeless rp rho) (fun k _ => by rw [h2]; rfl)
  unfold ok_X12_readHome F_X12_readHome
  rw [o2]
  dsimp only
  unfold ok_X12_readHome_b8 F_X12_readHome_b8
  cases e1 : fg1 tx L p (rgt 72 0 o t c) with
  | none =>
    have e9 : aI none = -9 := rfl
    rw [if_pos e9]
    unfold ok_X12_readHome_b27 F_X12_readHome_b27
    rw [if_pos rfl]
    exact ⟨⟨h1, o1, fun _ q => absurd rfl q, fun q => absurd e9 q⟩, PR_no hp (by decide) e1⟩
  | some i =>
    obtain ⟨p1, i9, ri, hs, hc⟩ := cr_f (by decide) e1
    have hI2 := CI_stc hI hs
    have hn : nxt 72 0 o t c i = (72, 1, i, t, c) := rfl
    rw [hn] at hI2 hc
    have hik : i < kN c := (hI2.2.resolve_left (show ¬ 72 = 0 by decide)).2.2.2.2.1 rfl (Nat.le_refl _) |>.1
    have h6 := hP.1
    have e9 : ¬ aI (some i) = -9 := nI_ne9 (by omega)
    obtain ⟨f1, f2⟩ := fig_G T (p := p + 1) (by omega) (x1 := 0) (x2 := 9) (P := rgt 72 1 i t c) (nb_a9 0 (by decide))
    rw [if_neg e9, sp1, f2]
    dsimp only
    unfold ok_X12_readHome_b27 F_X12_readHome_b27
    cases e2 : fg1 tx L (p + 1) (rgt 72 1 i t c) with
    | none =>
      have e9' : aI none = -9 := rfl
      rw [if_pos e9']
      exact ⟨⟨h1, o1, fun q => absurd q e9, fun _ => ⟨f1, fun q => absurd e9' q⟩⟩, PR_step hc (PR_no (by omega) (by decide) e2)⟩
    | some f =>
      obtain ⟨p2, f9, rf2, hs2, hc2⟩ := cr_f (by decide) e2
      have hI3 := CI_stc hI2 hs2
      have hn2 : nxt 72 1 i t c f = (0, 2, i, t, sC (sC c 10 i f) 14 i 1) := rfl
      rw [hn2] at hI3 hc2
      have e9' : ¬ aI (some f) = -9 := nI_ne9 (by omega)
      rw [if_neg e9']
      refine ⟨⟨h1, o1, fun q => absurd q e9, fun _ => ⟨f1, fun _ => vp_in_nI (by omega) (by decide)⟩⟩, PR_step hc (PR_step hc2 (Or.inr ⟨rfl, p + 2, 2, i, t, _, Nat.le_refl _, by omega, rfl, rfl, hI3.1, ?_⟩))⟩
      show CY _ rp rf rs rw rr' rt rth rmi rri rop ros rsh (upd rho (nI i).toNatClampNeg (nI f))
      rw [nI_clamp (by omega)]
      exact CY_H R i f
end CYu

/-! a club, read by the reference -/
def FW (o : Option Nat × Cl) (q : E15) : Prop := (∀ pos, o.1 = some pos → q.1 = nI pos) ∧ (o.1 = none → q.1 = -9 ∧ PW o.2 ∧ 1 ≤ kN o.2 ∧ CY o.2 q.2.2.1 q.2.2.2.1 q.2.2.2.2.1 q.2.2.2.2.2.1 q.2.2.2.2.2.2.1 q.2.2.2.2.2.2.2.1 q.2.2.2.2.2.2.2.2.1 q.2.2.2.2.2.2.2.2.2.1 q.2.2.2.2.2.2.2.2.2.2.1 q.2.2.2.2.2.2.2.2.2.2.2.1 q.2.2.2.2.2.2.2.2.2.2.2.2.1 q.2.2.2.2.2.2.2.2.2.2.2.2.2.1 q.2.2.2.2.2.2.2.2.2.2.2.2.2.2)
theorem FW_no {o : Option Nat × Cl} {q : E15} {p : Nat} (h : o.1 = some p) (hq : q.1 = nI p) : FW o q := ⟨fun pos y => by rw [h] at y; rw [← Option.some.inj y]; exact hq, fun y => by rw [h] at y; cases y⟩
theorem cl_loop {tx : Nat → Nat} {L : Nat} {xs ys : Nat → Int32} (T : TX tx L xs ys) (rp : Int32) : ∀ n p, p ≤ L → L - p < n → ∀ (g o t : Nat) (c : Cl) (rf rs : Int32) (rw rr' rt rth rmi rri rop ros rsh rho : Nat → Int32), CI (0, g, o, t, c) → ¬ kN c = 0 → CY c rp rf rs rw rr' rt rth rmi rri rop ros rsh rho →
    ok_X12_readClub_L131 (nI L) ys rp n (nI p) rf rs rw rr' rt rth rmi rri rop ros rsh rho ∧ FW (cr tx L (L - p) (0, g, o, t, c)) (F_X12_readClub_L131 (nI L) ys (fun e131_0 e131_1 e131_2 e131_3 e131_4 e131_5 e131_6 e131_7 e131_8 e131_9 e131_10 e131_11 e131_12 => (F_X12_readClub_b149 e131_0 rp e131_1 e131_2 e131_3 e131_4 e131_5 e131_6 e131_7 e131_8 e131_9 e131_10 e131_11 e131_12)) rp n (nI p) rf rs rw rr' rt rth rmi rri rop ros rsh rho) := by
  have hL := T.1
  intro n
  induction n with
  | zero => intro p h1 h2; omega
  | succ n ih =>
    intro p h1 h2 g o t c rf rs rw rr' rt rth rmi rri rop ros rsh rho hI h0 R
    rw [ok_X12_readClub_L131_s, F_X12_readClub_L131_s]
    by_cases q : p = L
    · subst q
      rw [if_pos (Int32.le_refl _), cr_end]
      refine ⟨fun y => absurd (Int32.le_refl _) y, ?_⟩
      show FW (if 0 = 0 ∧ ¬ kN c = 0 then none else some p, c) _
      rw [if_pos ⟨rfl, h0⟩]
      exact ⟨fun pos y => (by cases y), fun _ => ⟨rfl, hI.1, Nat.pos_of_ne_zero h0, R⟩⟩
    · have hp : p < L := by omega
      obtain ⟨a1, a2⟩ := pt_Y T hp hI h0 R
      rw [if_neg (nI_ge hp (by omega))]
      unfold PQ at a2
      generalize F_X12_readPart (nI L) (nI p) rp rf rs ys rw rr' rt rth rmi rri rop ros rsh rho = X at a2 ⊢
      dsimp only
      unfold ok_X12_readClub_131_b146 F_X12_readClub_131_b146
      rcases a2 with ⟨b1, p', b2, b3⟩ | ⟨b1, p', g', o', t', c', b2, b3, b4, b5, b6, b7⟩
      · rw [if_pos b1]
        refine ⟨fun _ => ⟨a1, fun y => absurd b1 y⟩, FW_no b3 ?_⟩
        exact b2
      · have hne : ¬ X.1 = 0 := by rw [b1]; exact i10
        rw [if_neg hne, b4, b5]
        have hk : ¬ kN c' = 0 := by
          intro y
          have y1 := b7.1
          rw [R.1, y] at y1
          have h6 := hI.1.1
          have h6 : kN c ≤ 6 := h6
          exact h0 ((nI_eq (by omega) (by decide)).mp y1)
        obtain ⟨g1, g2⟩ := ih p' b3 (by omega) g' o' t' c' _ _ _ _ _ _ _ _ _ _ _ _ ⟨b6, Or.inl rfl⟩ hk b7
        exact ⟨fun _ => ⟨a1, fun _ => g1⟩, g2⟩
theorem l55 : ∀ n i (a b c d e f : Nat → Int32), i ≤ 4 → 4 < i + n → (∀ j, j < i → a j = 0 ∧ b j = 0 ∧ c j = 0 ∧ d j = 0 ∧ e j = 0 ∧ f j = 9) → ok_X12_readClub_L55 n a b c d e f (nI i) ∧ (∀ j, j < 4 → (F_X12_readClub_L55 n a b c d e f (nI i)).1 j = 0 ∧ (F_X12_readClub_L55 n a b c d e f (nI i)).2.1 j = 0 ∧ (F_X12_readClub_L55 n a b c d e f (nI i)).2.2.1 j = 0 ∧ (F_X12_readClub_L55 n a b c d e f (nI i)).2.2.2.1 j = 0 ∧ (F_X12_readClub_L55 n a b c d e f (nI i)).2.2.2.2.1 j = 0 ∧ (F_X12_readClub_L55 n a b c d e f (nI i)).2.2.2.2.2 j = 9) := by
  intro n
  induction n with
  | zero => intro i a b c d e f h1 h2; omega
  | succ n ih =>
    intro i a b c d e f h1 h2 h
    rw [ok_X12_readClub_L55_s, F_X12_readClub_L55_s]
    by_cases q : i = 4
    · subst q
      rw [if_pos (le_self (K := 4) 4 rfl)]
      exact ⟨fun y => absurd (le_self (K := 4) 4 rfl) y, h⟩
    · have hi : i < 4 := by omega
      rw [if_neg (le_lit (K := 4) 4 rfl hi (by decide)), nI_clamp (by omega), nI_1]
      have hv : vp_in (nI i) 4 := vp_in_nI hi (by decide)
      obtain ⟨g1, g2⟩ := ih (i + 1) (upd a i (vp_nar .boolean 0)) (upd b i 0) (upd c i 0) (upd d i (vp_nar .boolean 0)) (upd e i 0) (upd f i 9) (by omega) (by omega) (fun j hj => by
        rw [upd_if, upd_if, upd_if, upd_if, upd_if, upd_if]
        by_cases y : j = i
        · rw [if_pos y, if_pos y, if_pos y, if_pos y, if_pos y, if_pos y]; exact ⟨rfl, rfl, rfl, rfl, rfl, rfl⟩
        · rw [if_neg y, if_neg y, if_neg y, if_neg y, if_neg y, if_neg y]; exact h j (by omega))
      exact ⟨fun _ => ⟨hv, hv, hv, hv, hv, hv, g1⟩, g2⟩
theorem club_Y {tx : Nat → Nat} {L : Nat} {xs ys : Nat → Int32} (T : TX tx L xs ys) (rp rf rs : Int32) (rw rr' rt rth rmi rri rop ros rsh rho : Nat → Int32) :
    ok_X12_readClub (nI L) ys rw rr' rt rth rmi rri rop ros rsh rho ∧ FW (cr tx L L (0, 0, 0, 0, c0)) (F_X12_readClub (nI L) rp rf rs ys rw rr' rt rth rmi rri rop ros rsh rho) := by
  have hL := T.1
  obtain ⟨s1, s2⟩ := sign_Y T (p := 0) (Nat.zero_le _) (k := 78) (by decide) 78 rfl
  have s2' : F_X12_sign (nI L) 0 ys 78 = _ := s2
  unfold ok_X12_readClub F_X12_readClub
  rw [s2']
  dsimp only
  unfold ok_X12_readClub_b11 F_X12_readClub_b11
  have ho : ∀ b, okL c0 b = (b == 78) := fun b => by unfold okL; rw [if_pos (show kN c0 = 0 from rfl)]
  by_cases q : 0 < L ∧ tx 0 = 78
  · have e : (decide (0 < L) && (tx 0 == 78)) = true := by simp [q.1, q.2]
    rw [e, if_neg bI_tn, if_pos rfl]
    have hs : stc (0, 0, 0, 0, c0) (tx 0) = some (tx 0, 0, 0, 0, c0) := stc_y (by rw [ho, q.2]; rfl)
    have hI2 := CI_stc CI_0 hs
    have hc : cr tx L L (0, 0, 0, 0, c0) = _ := cr_s q.1 hs
    rw [q.2] at hI2 hc
    obtain ⟨f1, f2⟩ := fig_G T (p := 0 + 1) (by omega) (x1 := 1) (x2 := 6) (P := rgt 78 0 0 0 c0) nb_16
    rw [f2]
    dsimp only
    unfold ok_X12_readClub_b26 F_X12_readClub_b26
    rw [hc]
    cases e1 : fg1 tx L (0 + 1) (rgt 78 0 0 0 c0) with
    | none =>
      have e9 : aI none = -9 := rfl
      rw [if_pos e9]
      exact ⟨⟨s1, fun _ => ⟨f1, fun y => absurd e9 y⟩⟩, FW_no (cr_g (by omega) (by decide) e1) rfl⟩
    | some f =>
      obtain ⟨p1, f9, rg, hs2, hc2⟩ := cr_f (by decide) e1
      have hI3 := CI_stc hI2 hs2
      have hn : nxt 78 0 0 0 c0 f = (0, 1, 0, 0, sC c0 0 0 f) := rfl
      rw [hn] at hI3 hc2
      have hf : 1 ≤ f ∧ f ≤ 6 := by
        have : (decide (1 ≤ f) && decide (f ≤ 6)) = true := rg
        rw [Bool.and_eq_true, decide_eq_true_eq, decide_eq_true_eq] at this
        exact this
      have e9 : ¬ aI (some f) = -9 := nI_ne9 (by omega)
      obtain ⟨l1, l2⟩ := l55 FU 0 rth rmi rri rop ros rsh (Nat.zero_le _) (by have := FU_ge; omega) (fun j hj => absurd hj (Nat.not_lt_zero _))
      rw [nI_0] at l1 l2
      rw [if_neg e9, hc2, sp1]
      generalize F_X12_readClub_L55 FU rth rmi rri rop ros rsh 0 = X at l2 ⊢
      dsimp only
      unfold ok_X12_readClub_b109 F_X12_readClub_b109
      have hfill := fl_all (fun n f v => F_X12_readClub_L111 n f v) 6 (fun _ => -9) (by decide)
        (fun n f i hi => by rw [F_X12_readClub_L111_s, if_neg (le_lit (K := 6) 6 rfl hi (by decide)), nI_1, nI_clamp (by omega)])
        (fun n f => by rw [F_X12_readClub_L111_s, if_pos (le_self (K := 6) 6 rfl)]) rho
      have hfok : ok_X12_readClub_L111 FU rho 0 := ok_all (fun n f v => ok_X12_readClub_L111 n f v) 6 (by decide) (fun _ _ => True) (fun n s i hi _ h => by rw [ok_X12_readClub_L111_s]; intro _; refine ⟨vp_in_nI hi (by decide), ?_⟩; rw [nI_1]; exact h _ trivial) (fun n s _ => by rw [ok_X12_readClub_L111_s]; intro h; exact absurd (le_self (K := 6) 6 rfl) h) rho trivial
      have hfill' : F_X12_readClub_L111 FU rho 0 = _ := hfill
      rw [hfill']
      dsimp only
      unfold ok_X12_readClub_b131 F_X12_readClub_b131
      have hR : CY (sC c0 0 0 f) (aI (some f)) 0 0 rw rr' rt X.1 X.2.1 X.2.2.1 X.2.2.2.1 X.2.2.2.2.1 X.2.2.2.2.2 (fun j => if j < 6 then -9 else rho j) := by
        refine ⟨rfl, rfl, rfl, fun s hs => absurd hs (Nat.not_lt_zero _), fun p hp => ?_, fun i hi => ?_⟩
        · obtain ⟨b1, b2, b3, b4, b5, b6⟩ := l2 p hp
          exact ⟨b1, b2, b3, b4, b5, b6⟩
        · show (if i < 6 then (-9 : Int32) else rho i) = _
          rw [if_pos hi]; rfl
      obtain ⟨g1, g2⟩ := cl_loop T (aI (some f)) FU (0 + 1 + 1) (by omega) (by have := FU_ge; omega) 1 0 0 (sC c0 0 0 f) 0 0 rw rr' rt X.1 X.2.1 X.2.2.1 X.2.2.2.1 X.2.2.2.2.1 X.2.2.2.2.2 (fun j => if j < 6 then -9 else rho j) hI3 (show ¬ f = 0 by omega) hR
      exact ⟨⟨s1, fun _ => ⟨f1, fun _ => ⟨l1, hfok, g1⟩⟩⟩, g2⟩
  · have e : (decide (0 < L) && (tx 0 == 78)) = false := by
      cases h : (decide (0 < L) && (tx 0 == 78)) with
      | false => rfl
      | true =>
        rw [Bool.and_eq_true, decide_eq_true_eq, beq_iff_eq] at h
        exact absurd h q
    rw [e, if_pos bI_f, if_neg nft]
    refine ⟨⟨s1, fun y => absurd bI_f y⟩, FW_no (p := 0) ?_ rfl⟩
    by_cases q0 : 0 < L
    · have hk : okL c0 (tx 0) = false := by rw [ho]; simp; exact fun y => q ⟨q0, y⟩
      have : cr tx L L (0, 0, 0, 0, c0) = _ := cr_n q0 (stc_n hk)
      rw [this]
    · have : L = 0 := by omega
      subst this
      rfl

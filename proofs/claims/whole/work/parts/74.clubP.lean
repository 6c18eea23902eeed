/-! a club as a text: the reference's parts -/
section CYp
variable {c : Cl} {rp rf rs : Int32} {rw rr' rt rth rmi rri rop ros rsh rho : Nat → Int32}
theorem rp_Y {tx : Nat → Nat} {L : Nat} {xs ys : Nat → Int32} (T : TX tx L xs ys) {p o t : Nat} (hp : p ≤ L) (hI : CI (80, 0, o, t, c)) (R : CY c rp rf rs rw rr' rt rth rmi rri rop ros rsh rho) :
    ok_X12_readPlace (nI L) (nI p) ys rth rop ∧ PR tx L p (80, 0, o, t, c) (F_X12_readPlace (nI L) (nI p) ys rth rmi rri rop).1 (F_X12_readPlace (nI L) (nI p) ys rth rmi rri rop).2.1 (fun c' => PW c' ∧ CY c' rp rf rs rw rr' rt (F_X12_readPlace (nI L) (nI p) ys rth rmi rri rop).2.2.1 (F_X12_readPlace (nI L) (nI p) ys rth rmi rri rop).2.2.2.1 (F_X12_readPlace (nI L) (nI p) ys rth rmi rri rop).2.2.2.2 rop ros rsh rho) := by
  have hP : PW c := hI.1
  obtain ⟨h1, h2⟩ := pl_Y R false
  obtain ⟨o1, o2⟩ := one_F T hp (P := rgt 80 0 o t c) (x := F_X12_places rth rop 0) (fun k _ => (h2 k).trans rfl)
  unfold ok_X12_readPlace F_X12_readPlace
  rw [o2]
  dsimp only
  unfold ok_X12_readPlace_b9 F_X12_readPlace_b9
  cases e1 : fg1 tx L p (rgt 80 0 o t c) with
  | none =>
    have e9 : aI none = -9 := rfl
    rw [if_pos e9]
    unfold ok_X12_readPlace_b28 F_X12_readPlace_b28
    rw [if_pos rfl]
    unfold ok_X12_readPlace_b47 F_X12_readPlace_b47
    rw [if_pos rfl]
    exact ⟨⟨h1, o1, fun _ => ⟨fun _ q => absurd rfl q, fun q => absurd rfl q⟩, fun q => absurd e9 q⟩, PR_no hp (by decide) e1⟩
  | some i =>
    obtain ⟨p1, i9, ri, hs, hc⟩ := cr_f (by decide) e1
    have hI2 := CI_stc hI hs
    have hn : nxt 80 0 o t c i = (80, 1, i, t, c) := rfl
    rw [hn] at hI2 hc
    have hik := (hI2.2.resolve_left (show ¬ 80 = 0 by decide)).2.2.2.2.2.2.2.1 rfl (Nat.le_refl _)
    have e9 : ¬ aI (some i) = -9 := nI_ne9 (by omega)
    obtain ⟨f1, f2⟩ := fig_G T (p := p + 1) (by omega) (x1 := 0) (x2 := 9) (P := rgt 80 1 i t c) (nb_a9 0 (by decide))
    rw [if_neg e9, sp1, f2]
    dsimp only
    unfold ok_X12_readPlace_b28 F_X12_readPlace_b28
    cases e2 : fg1 tx L (p + 1) (rgt 80 1 i t c) with
    | none =>
      have e9' : aI none = -9 := rfl
      rw [if_pos e9']
      unfold ok_X12_readPlace_b47 F_X12_readPlace_b47
      rw [if_pos rfl]
      exact ⟨⟨h1, o1, fun q => absurd q e9, fun _ => ⟨f1, fun _ q => absurd rfl q, fun q => absurd e9' q⟩⟩, PR_step hc (PR_no (by omega) (by decide) e2)⟩
    | some u =>
      obtain ⟨p2, u9, ru, hs2, hc2⟩ := cr_f (by decide) e2
      have hI3 := CI_stc hI2 hs2
      have hn2 : nxt 80 1 i t c u = (80, 2, i, u, c) := rfl
      rw [hn2] at hI3 hc2
      have e9' : ¬ aI (some u) = -9 := nI_ne9 (by omega)
      obtain ⟨j1, j2⟩ := fig_G T (p := p + 1 + 1) (by omega) (x1 := 0) (x2 := 9) (P := rgt 80 2 i u c) (nb_a9 0 (by omega))
      rw [if_neg e9', sp1, j2]
      dsimp only
      unfold ok_X12_readPlace_b47 F_X12_readPlace_b47
      cases e3 : fg1 tx L (p + 1 + 1) (rgt 80 2 i u c) with
      | none =>
        have e9'' : aI none = -9 := rfl
        rw [if_pos e9'']
        exact ⟨⟨h1, o1, fun q => absurd q e9, fun _ => ⟨f1, fun q => absurd q e9', fun _ => ⟨j1, fun q => absurd e9'' q⟩⟩⟩, PR_step hc (PR_step hc2 (PR_no (by omega) (by decide) e3))⟩
      | some f =>
        obtain ⟨p3, f9, rf3, hs3, hc3⟩ := cr_f (by decide) e3
        have hI4 := CI_stc hI3 hs3
        have hn3 : nxt 80 2 i u c f = (0, 3, i, u, addP c i u f) := rfl
        rw [hn3] at hI4 hc3
        have e9'' : ¬ aI (some f) = -9 := nI_ne9 (by omega)
        have hv : vp_in (nI i) 4 := vp_in_nI hik.1 (by decide)
        rw [if_neg e9'']
        refine ⟨⟨h1, o1, fun q => absurd q e9, fun _ => ⟨f1, fun q => absurd q e9', fun _ => ⟨j1, fun _ => ⟨hv, hv, hv⟩⟩⟩⟩, PR_step hc (PR_step hc2 (PR_step hc3 (Or.inr ⟨rfl, p + 1 + 1 + 1, 3, i, u, _, Nat.le_refl _, by omega, rfl, rfl, hI4.1, ?_⟩)))⟩
        show CY _ rp rf rs rw rr' rt (upd rth (nI i).toNatClampNeg (vp_nar .boolean 1)) (upd rmi (nI i).toNatClampNeg (nI u)) (upd rri (nI i).toNatClampNeg (nI f)) rop ros rsh rho
        rw [nI_clamp (by omega)]
        exact CY_P hP R hik.2 u f
theorem ro_Y {tx : Nat → Nat} {L : Nat} {xs ys : Nat → Int32} (T : TX tx L xs ys) {p o t : Nat} (hp : p ≤ L) (hI : CI (79, 0, o, t, c)) (R : CY c rp rf rs rw rr' rt rth rmi rri rop ros rsh rho) :
    ok_X12_readHours (nI L) (nI p) ys rth rop ∧ PR tx L p (79, 0, o, t, c) (F_X12_readHours (nI L) (nI p) ys rth rop ros rsh).1 (F_X12_readHours (nI L) (nI p) ys rth rop ros rsh).2.1 (fun c' => PW c' ∧ CY c' rp rf rs rw rr' rt rth rmi rri (F_X12_readHours (nI L) (nI p) ys rth rop ros rsh).2.2.1 (F_X12_readHours (nI L) (nI p) ys rth rop ros rsh).2.2.2.1 (F_X12_readHours (nI L) (nI p) ys rth rop ros rsh).2.2.2.2 rho) := by
  have hP : PW c := hI.1
  obtain ⟨h1, h2⟩ := pl_Y R true
  obtain ⟨o1, o2⟩ := one_F T hp (P := rgt 79 0 o t c) (x := F_X12_places rth rop 1) (fun k _ => (h2 k).trans rfl)
  unfold ok_X12_readHours F_X12_readHours
  rw [o2]
  dsimp only
  unfold ok_X12_readHours_b9 F_X12_readHours_b9
  cases e1 : fg1 tx L p (rgt 79 0 o t c) with
  | none =>
    have e9 : aI none = -9 := rfl
    rw [if_pos e9]
    unfold ok_X12_readHours_b28 F_X12_readHours_b28
    rw [if_pos rfl]
    unfold ok_X12_readHours_b47 F_X12_readHours_b47
    rw [if_pos rfl]
    exact ⟨⟨h1, o1, fun _ => ⟨fun _ q => absurd rfl q, fun q => absurd rfl q⟩, fun q => absurd e9 q⟩, PR_no hp (by decide) e1⟩
  | some i =>
    obtain ⟨p1, i9, ri, hs, hc⟩ := cr_f (by decide) e1
    have hI2 := CI_stc hI hs
    have hn : nxt 79 0 o t c i = (79, 1, i, t, c) := rfl
    rw [hn] at hI2 hc
    have hik := (hI2.2.resolve_left (show ¬ 79 = 0 by decide)).2.2.2.2.2.1 rfl (Nat.le_refl _)
    have e9 : ¬ aI (some i) = -9 := nI_ne9 (by omega)
    obtain ⟨f1, f2⟩ := fig_G T (p := p + 1) (by omega) (x1 := 0) (x2 := 9) (P := rgt 79 1 i t c) (nb_a9 0 (by decide))
    rw [if_neg e9, sp1, f2]
    dsimp only
    unfold ok_X12_readHours_b28 F_X12_readHours_b28
    cases e2 : fg1 tx L (p + 1) (rgt 79 1 i t c) with
    | none =>
      have e9' : aI none = -9 := rfl
      rw [if_pos e9']
      unfold ok_X12_readHours_b47 F_X12_readHours_b47
      rw [if_pos rfl]
      exact ⟨⟨h1, o1, fun q => absurd q e9, fun _ => ⟨f1, fun _ q => absurd rfl q, fun q => absurd e9' q⟩⟩, PR_step hc (PR_no (by omega) (by decide) e2)⟩
    | some u =>
      obtain ⟨p2, u9, ru, hs2, hc2⟩ := cr_f (by decide) e2
      have hI3 := CI_stc hI2 hs2
      have hn2 : nxt 79 1 i t c u = (79, 2, i, u, c) := rfl
      rw [hn2] at hI3 hc2
      have e9' : ¬ aI (some u) = -9 := nI_ne9 (by omega)
      obtain ⟨j1, j2⟩ := fig_G T (p := p + 1 + 1) (by omega) (x1 := aI (some u)) (x2 := 9) (P := rgt 79 2 i u c) (nb_a9 u (by omega))
      rw [if_neg e9', sp1, j2]
      dsimp only
      unfold ok_X12_readHours_b47 F_X12_readHours_b47
      cases e3 : fg1 tx L (p + 1 + 1) (rgt 79 2 i u c) with
      | none =>
        have e9'' : aI none = -9 := rfl
        rw [if_pos e9'']
        exact ⟨⟨h1, o1, fun q => absurd q e9, fun _ => ⟨f1, fun q => absurd q e9', fun _ => ⟨j1, fun q => absurd e9'' q⟩⟩⟩, PR_step hc (PR_step hc2 (PR_no (by omega) (by decide) e3))⟩
      | some f =>
        obtain ⟨p3, f9, rf3, hs3, hc3⟩ := cr_f (by decide) e3
        have hI4 := CI_stc hI3 hs3
        have hn3 : nxt 79 2 i u c f = (0, 3, i, u, sC (sC (sC c 8 i u) 9 i f) 13 i 1) := rfl
        rw [hn3] at hI4 hc3
        have e9'' : ¬ aI (some f) = -9 := nI_ne9 (by omega)
        have hv : vp_in (nI i) 4 := vp_in_nI hik.1 (by decide)
        rw [if_neg e9'']
        refine ⟨⟨h1, o1, fun q => absurd q e9, fun _ => ⟨f1, fun q => absurd q e9', fun _ => ⟨j1, fun _ => ⟨hv, hv, hv⟩⟩⟩⟩, PR_step hc (PR_step hc2 (PR_step hc3 (Or.inr ⟨rfl, p + 1 + 1 + 1, 3, i, u, _, Nat.le_refl _, by omega, rfl, rfl, hI4.1, ?_⟩)))⟩
        show CY _ rp rf rs rw rr' rt rth rmi rri (upd rop (nI i).toNatClampNeg (vp_nar .boolean 1)) (upd ros (nI i).toNatClampNeg (nI u)) (upd rsh (nI i).toNatClampNeg (nI f)) rho
        rw [nI_clamp (by omega)]
        exact CY_O R i u f
/-- a session -/
theorem rs_Y {tx : Nat → Nat} {L : Nat} {xs ys : Nat → Int32} (T : TX tx L xs ys) {p o t : Nat} (hp : p ≤ L) (hI : CI (82, 0, o, t, c)) (R : CY c rp rf rs rw rr' rt rth rmi rri rop ros rsh rho) :
    ok_X12_readSession (nI L) (nI p) rs ys rw rr' rt (F_X12_freePeople rp rs rw rr' rt) ∧ PR tx L p (82, 0, o, t, c) (F_X12_readSession (nI L) (nI p) rs ys rw rr' rt (F_X12_freePeople rp rs rw rr' rt)).1 (F_X12_readSession (nI L) (nI p) rs ys rw rr' rt (F_X12_freePeople rp rs rw rr' rt)).2.1 (fun c' => PW c' ∧ CY c' rp rf (F_X12_readSession (nI L) (nI p) rs ys rw rr' rt (F_X12_freePeople rp rs rw rr' rt)).2.2.1 (F_X12_readSession (nI L) (nI p) rs ys rw rr' rt (F_X12_freePeople rp rs rw rr' rt)).2.2.2.1 (F_X12_readSession (nI L) (nI p) rs ys rw rr' rt (F_X12_freePeople rp rs rw rr' rt)).2.2.2.2.1 (F_X12_readSession (nI L) (nI p) rs ys rw rr' rt (F_X12_freePeople rp rs rw rr' rt)).2.2.2.2.2 rth rmi rri rop ros rsh rho) := by
  have hP : PW c := hI.1
  have h6 := hP.1
  have r3 : rs = nI (kS c) := R.2.2.1
  have hS8 : kS c < 8 := ((hI.2.resolve_left (show ¬ 82 = 0 by decide)).2.2.2.2.2.2.2.2.2 rfl).1
  obtain ⟨h1, h2⟩ := fp_Y hP R
  obtain ⟨o1, o2⟩ := one_F T hp (P := rgt 82 0 o t c) (x := F_X12_freePeople rp rs rw rr' rt) (fun k _ => by rw [h2, decide_eq_true hS8]; rfl)
  unfold ok_X12_readSession F_X12_readSession
  rw [o2]
  dsimp only
  unfold ok_X12_readSession_b5 F_X12_readSession_b5
  cases e1 : fg1 tx L p (rgt 82 0 o t c) with
  | none =>
    have e9 : aI none = -9 := rfl
    rw [if_pos e9]
    exact ⟨⟨o1, fun q => absurd e9 q⟩, PR_no hp (by decide) e1⟩
  | some i =>
    obtain ⟨p1, i9, ri, hs, hc⟩ := cr_f (by decide) e1
    have hI2 := CI_stc hI hs
    have hn : nxt 82 0 o t c i = (82, 1, i, t, c) := rfl
    rw [hn] at hI2 hc
    have hik : i < kN c := ((hI2.2.resolve_left (show ¬ 82 = 0 by decide)).2.2.2.2.2.2.2.2.2 rfl).2.1 (Nat.le_refl _)
    have e9 : ¬ aI (some i) = -9 := nI_ne9 (by omega)
    have ei : aI (some i) = nI i := rfl
    obtain ⟨v1, v2⟩ := free_Y hP R (i := i) (by omega)
    obtain ⟨f1, f2⟩ := one_F T (p := p + 1) (by omega) (P := rgt 82 1 i t c) (x := F_X12_free rs rw rr' rt (nI i)) (fun k hk => by rw [v2, decide_eq_true hk]; rfl)
    rw [if_neg e9, sp1, ei, f2]
    dsimp only
    unfold ok_X12_readSession_b23 F_X12_readSession_b23
    cases e2 : fg1 tx L (p + 1) (rgt 82 1 i t c) with
    | none =>
      have e9' : aI none = -9 := rfl
      rw [if_pos e9']
      exact ⟨⟨o1, fun _ => ⟨v1, f1, fun q => absurd e9' q⟩⟩, PR_step hc (PR_no (by omega) (by decide) e2)⟩
    | some u =>
      obtain ⟨p2, u9, ru, hs2, hc2⟩ := cr_f (by decide) e2
      have hI3 := CI_stc hI2 hs2
      have hn2 : nxt 82 1 i t c u = (82, 2, i, u, c) := rfl
      rw [hn2] at hI3 hc2
      have e9' : ¬ aI (some u) = -9 := nI_ne9 (by omega)
      have eu : aI (some u) = nI u := rfl
      obtain ⟨w1, w2⟩ := sp_Y hP R (i := i) (by omega) FU u 0 (by omega) (by have := FU_ge; omega)
      obtain ⟨j1, j2⟩ := one_F T (p := p + 1 + 1) (by omega) (P := rgt 82 2 i u c) (x := F_X12_readSession_L38 rs rw rr' rt (nI i) FU 0 (nI u)) (fun k hk => by rw [w2, b_0, Bool.false_or, decide_eq_true hk, Bool.true_and]; rfl)
      rw [if_neg e9', sp1, eu]
      dsimp only
      unfold ok_X12_readSession_b74 F_X12_readSession_b74
      rw [j2]
      dsimp only
      unfold ok_X12_readSession_b80 F_X12_readSession_b80
      cases e3 : fg1 tx L (p + 1 + 1) (rgt 82 2 i u c) with
      | none =>
        have e9'' : aI none = -9 := rfl
        rw [if_pos e9'']
        exact ⟨⟨o1, fun _ => ⟨v1, f1, fun _ => ⟨w1, j1, fun q => absurd e9'' q⟩⟩⟩, PR_step hc (PR_step hc2 (PR_no (by omega) (by decide) e3))⟩
      | some f =>
        obtain ⟨p3, f9, rf3, hs3, hc3⟩ := cr_f (by decide) e3
        have hI4 := CI_stc hI3 hs3
        have hn3 : nxt 82 2 i u c f = (0, 3, i, u, addS c i u f) := rfl
        rw [hn3] at hI4 hc3
        have e9'' : ¬ aI (some f) = -9 := nI_ne9 (by omega)
        have hv : vp_in rs 8 := by rw [r3]; exact vp_in_nI hS8 (by decide)
        rw [if_neg e9'']
        refine ⟨⟨o1, fun _ => ⟨v1, f1, fun _ => ⟨w1, j1, fun _ => ⟨hv, hv, hv⟩⟩⟩⟩, PR_step hc (PR_step hc2 (PR_step hc3 (Or.inr ⟨rfl, p + 1 + 1 + 1, 3, i, u, _, Nat.le_refl _, by omega, rfl, rfl, hI4.1, ?_⟩)))⟩
        show CY _ rp rf (rs + 1) (upd rw rs.toNatClampNeg (nI i)) (upd rr' rs.toNatClampNeg (nI u)) (upd rt rs.toNatClampNeg (nI f)) rth rmi rri rop ros rsh rho
        rw [r3, nI_clamp (by omega), nI_1]
        exact CY_S R i u f
end CYp

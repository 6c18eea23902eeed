/-! a club as a text: the reference -/
abbrev D14 : Type := Int32 × Int32 × Int32 × Int32 × (Nat → Int32) × (Nat → Int32) × (Nat → Int32) × (Nat → Int32) × (Nat → Int32) × (Nat → Int32) × (Nat → Int32) × (Nat → Int32) × (Nat → Int32) × (Nat → Int32)
abbrev E15 : Type := Int32 × Int32 × Int32 × Int32 × Int32 × (Nat → Int32) × (Nat → Int32) × (Nat → Int32) × (Nat → Int32) × (Nat → Int32) × (Nat → Int32) × (Nat → Int32) × (Nat → Int32) × (Nat → Int32) × (Nat → Int32)
/-- and it goes on -/
def PR1 (tx : Nat → Nat) (L p : Nat) (s : Cs) (q1 q2 : Int32) (K : Cl → Prop) : Prop := (q1 = 0 ∧ ∃ p', q2 = nI p' ∧ (cr tx L (L - p) s).1 = some p') ∨ (q1 = 1 ∧ ∃ p' g' o' t' c', p < p' ∧ p' ≤ L ∧ q2 = nI p' ∧ cr tx L (L - p) s = cr tx L (L - p') (0, g', o', t', c') ∧ K c')
theorem PR1_step {tx : Nat → Nat} {L p : Nat} {s s' : Cs} {q1 q2 : Int32} {K : Cl → Prop} (hc : cr tx L (L - p) s = cr tx L (L - (p + 1)) s') (h : PR tx L (p + 1) s' q1 q2 K) : PR1 tx L p s q1 q2 K := by
  rcases h with ⟨h1, p', h2, h3⟩ | ⟨h1, p', g', o', t', c', h2, h3, h4, h5, h6⟩
  · exact Or.inl ⟨h1, p', h2, by rw [hc]; exact h3⟩
  · exact Or.inr ⟨h1, p', g', o', t', c', by omega, h3, h4, by rw [hc]; exact h5, h6⟩
def PQ (tx : Nat → Nat) (L p : Nat) (s : Cs) (rp : Int32) (q : D14) : Prop := PR1 tx L p s q.1 q.2.1 (fun c' => PW c' ∧ CY c' rp q.2.2.1 q.2.2.2.1 q.2.2.2.2.1 q.2.2.2.2.2.1 q.2.2.2.2.2.2.1 q.2.2.2.2.2.2.2.1 q.2.2.2.2.2.2.2.2.1 q.2.2.2.2.2.2.2.2.2.1 q.2.2.2.2.2.2.2.2.2.2.1 q.2.2.2.2.2.2.2.2.2.2.2.1 q.2.2.2.2.2.2.2.2.2.2.2.2.1 q.2.2.2.2.2.2.2.2.2.2.2.2.2)
theorem set0 {x : Int32} {N : Nat} {P : Nat → Bool} (h : ∀ k, bt x k = (decide (k < N) && P k)) : x = 0 ↔ (lo P 0 N).isSome = false := by
  rw [bt_eq0]
  constructor
  · intro q
    cases e : (lo P 0 N).isSome with
    | false => rfl
    | true =>
      obtain ⟨k, k1, k2⟩ := any_t.mp e
      have := q k
      rw [h, decide_eq_true k1, k2] at this; cases this
  · intro q k
    rw [h]
    by_cases k1 : k < N
    · rw [decide_eq_true k1, Bool.true_and]
      cases e : P k with
      | false => rfl
      | true =>
        have := (any_t (P := P) (n := N)).mpr ⟨k, k1, e⟩
        rw [q] at this; cases this
    · rw [decide_eq_false k1]; rfl
theorem stc_y {g o t b : Nat} {c : Cl} (h : okL c b = true) : stc (0, g, o, t, c) b = some (b, 0, o, t, c) := by
  unfold stc
  dsimp only
  rw [if_pos rfl, if_pos h]
theorem stc_n {g o t b : Nat} {c : Cl} (h : okL c b = false) : stc (0, g, o, t, c) b = none := by
  unfold stc
  dsimp only
  rw [if_pos rfl, if_neg (by rw [h]; exact nft)]
section CYq
variable {c : Cl} {rp rf rs : Int32} {rw rr' rt rth rmi rri rop ros rsh rho : Nat → Int32} {tx : Nat → Nat} {L : Nat} {xs ys : Nat → Int32} {p g o t : Nat}
theorem okL_70 (h0 : ¬ kN c = 0) : okL c 70 = (kG c == 0) := by unfold okL; rw [if_neg h0]; rfl
theorem okL_72 (h0 : ¬ kN c = 0) : okL c 72 = anyH c := by unfold okL; rw [if_neg h0]; rfl
theorem okL_79 (h0 : ¬ kN c = 0) : okL c 79 = anyO c := by unfold okL; rw [if_neg h0]; rfl
theorem okL_80 (h0 : ¬ kN c = 0) : okL c 80 = anyP c := by unfold okL; rw [if_neg h0]; rfl
theorem okL_82 (h0 : ¬ kN c = 0) : okL c 82 = (decide (kS c < 8) && anyR c) := by unfold okL; rw [if_neg h0]; rfl
theorem okL_all (h0 : ¬ kN c = 0) {b : Nat} (h : okL c b = true) : b = 70 ∨ b = 72 ∨ b = 79 ∨ b = 80 ∨ b = 82 := by
  unfold okL at h
  rw [if_neg h0] at h
  by_cases q1 : b = 70
  · omega
  · rw [if_neg q1] at h
    by_cases q2 : b = 72
    · omega
    · rw [if_neg q2] at h
      by_cases q3 : b = 79
      · omega
      · rw [if_neg q3] at h
        by_cases q4 : b = 80
        · omega
        · rw [if_neg q4] at h
          by_cases q5 : b = 82
          · omega
          · rw [if_neg q5] at h; cases h
theorem pt_F (T : TX tx L xs ys) (hp : p < L) (hI : CI (0, g, o, t, c)) (h0 : ¬ kN c = 0) (R : CY c rp rf rs rw rr' rt rth rmi rri rop ros rsh rho) (hok : okL c (tx p) = true → tx p = 70) :
    ok_X12_readPart_b89 (nI L) ys (nI p) rf ∧ PQ tx L p (0, g, o, t, c) rp (F_X12_readPart_b89 (nI L) ys (nI p) rf rs rw rr' rt rth rmi rri rop ros rsh rho) := by
  have hP : PW c := hI.1
  have r2 : rf = nI (kG c) := R.2.1
  have g9 := hP.2.2.2.2.2.1
  have k70 := okL_70 h0
  unfold ok_X12_readPart_b89 F_X12_readPart_b89
  by_cases q : kG c = 0
  · have z : rf = 0 := by rw [r2, q]; rfl
    obtain ⟨s1, s2⟩ := sign_Y T (p := p) (by omega) (k := 70) (by decide) 70 rfl
    rw [if_pos z, s2, decide_eq_true hp, Bool.true_and]
    dsimp only
    unfold ok_X12_readPart_b102 F_X12_readPart_b102
    by_cases qb : tx p = 70
    · have e : (tx p == 70) = true := by simp [qb]
      rw [e, if_neg bI_tn, if_pos rfl]
      have hk : okL c (tx p) = true := by rw [qb, k70]; simp [q]
      have hs := stc_y (g := g) (o := o) (t := t) hk
      have hI2 := CI_stc hI hs
      have hc := cr_s hp hs
      rw [qb] at hI2 hc
      obtain ⟨f1, f2⟩ := fig_G T (p := p + 1) (by omega) (x1 := 1) (x2 := 9) (P := rgt 70 0 o t c) (nb_a9 1 (by decide))
      rw [f2]
      dsimp only
      unfold F_X12_readPart_b112
      refine ⟨fun _ => ⟨s1, fun _ => f1⟩, ?_⟩
      cases e1 : fg1 tx L (p + 1) (rgt 70 0 o t c) with
      | none => exact PR1_step hc (PR_no (by omega) (by decide) e1)
      | some f =>
        obtain ⟨p1, f9, rg, hs2, hc2⟩ := cr_f (by decide) e1
        have hI3 := CI_stc hI2 hs2
        have hn : nxt 70 0 o t c f = (0, 1, o, t, sC c 11 0 f) := rfl
        rw [hn] at hI3 hc2
        have e9 : ¬ aI (some f) = -9 := nI_ne9 (by omega)
        rw [if_neg e9, if_neg e9]
        exact PR1_step hc (PR_step hc2 (Or.inr ⟨rfl, p + 1 + 1, 1, o, t, _, Nat.le_refl _, by omega, rfl, rfl, hI3.1, CY_F R f⟩))
    · have e : (tx p == 70) = false := by simp [qb]
      rw [e, if_pos bI_f, if_neg nft]
      refine ⟨fun _ => ⟨s1, fun y => absurd bI_f y⟩, Or.inl ⟨rfl, p, rfl, ?_⟩⟩
      have hk : okL c (tx p) = false := by
        cases h : okL c (tx p) with
        | false => rfl
        | true => exact absurd (hok h) qb
      rw [cr_n hp (stc_n hk)]
  · have z : ¬ rf = 0 := by rw [r2]; exact nI_ne0 (by omega) (by omega)
    rw [if_neg z]
    refine ⟨fun y => absurd y z, Or.inl ⟨rfl, p, rfl, ?_⟩⟩
    have hk : okL c (tx p) = false := by
      cases h : okL c (tx p) with
      | false => rfl
      | true =>
        have := hok h
        rw [this, k70, beq_iff_eq] at h
        exact absurd h q
    rw [cr_n hp (stc_n hk)]
theorem pt_H (T : TX tx L xs ys) (hp : p < L) (hI : CI (0, g, o, t, c)) (h0 : ¬ kN c = 0) (R : CY c rp rf rs rw rr' rt rth rmi rri rop ros rsh rho) (hok : okL c (tx p) = true → tx p = 72 ∨ tx p = 70) :
    ok_X12_readPart_b68 (nI L) rp ys (nI p) rf rho ∧ PQ tx L p (0, g, o, t, c) rp (F_X12_readPart_b68 (nI L) rp ys (nI p) rf rs rw rr' rt rth rmi rri rop ros rsh rho) := by
  have hP : PW c := hI.1
  have kk := okL_72 h0
  obtain ⟨h1, h2⟩ := hm_Y hP R
  have hset : F_X12_homeless rp rho = 0 ↔ okL c 72 = false := by
    rw [kk]
    exact set0 h2
  unfold ok_X12_readPart_b68 F_X12_readPart_b68
  by_cases q : F_X12_homeless rp rho = 0
  · obtain ⟨n1, n2⟩ := pt_F T hp hI h0 R (fun h => by
      rcases hok h with y | y
      · rw [y, hset.mp q] at h; cases h
      · exact y)
    rw [if_pos q]
    exact ⟨⟨h1, fun _ => n1, fun y => absurd q y⟩, n2⟩
  · have kt : okL c 72 = true := by
      cases h : okL c 72 with
      | true => rfl
      | false => exact absurd (hset.mpr h) q
    obtain ⟨s1, s2⟩ := sign_Y T (p := p) (by omega) (k := 72) (by decide) 72 rfl
    rw [if_neg q, s2, decide_eq_true hp, Bool.true_and]
    dsimp only
    unfold ok_X12_readPart_b81 F_X12_readPart_b81
    by_cases qb : tx p = 72
    · have e : (tx p == 72) = true := by simp [qb]
      rw [e, if_neg bI_tn, if_pos rfl]
      have hk : okL c (tx p) = true := by rw [qb]; exact kt
      have hs := stc_y (g := g) (o := o) (t := t) hk
      have hI2 := CI_stc hI hs
      have hc := cr_s hp hs
      rw [qb] at hI2 hc
      obtain ⟨a1, a2⟩ := rh_Y T (p := p + 1) (by omega) hI2 R
      generalize F_X12_readHome (nI L) (nI (p + 1)) rp ys rho = X at a2 ⊢
      exact ⟨⟨h1, fun y => absurd y q, fun _ => ⟨s1, fun y => absurd y bI_tn, fun _ => ⟨a1, PR_isB a2⟩⟩⟩, PR1_step hc a2⟩
    · have e : (tx p == 72) = false := by simp [qb]
      rw [e, if_pos bI_f, if_neg nft, Nat.add_zero]
      obtain ⟨n1, n2⟩ := pt_F T hp hI h0 R (fun h => (hok h).resolve_left qb)
      exact ⟨⟨h1, fun y => absurd y q, fun _ => ⟨s1, fun _ => n1, fun y => absurd bI_f y⟩⟩, n2⟩
theorem pt_O (T : TX tx L xs ys) (hp : p < L) (hI : CI (0, g, o, t, c)) (h0 : ¬ kN c = 0) (R : CY c rp rf rs rw rr' rt rth rmi rri rop ros rsh rho) (hok : okL c (tx p) = true → tx p = 79 ∨ tx p = 72 ∨ tx p = 70) :
    ok_X12_readPart_b46 (nI L) rp ys (nI p) rf rth rop ros rsh rho ∧ PQ tx L p (0, g, o, t, c) rp (F_X12_readPart_b46 (nI L) rp ys (nI p) rf rs rw rr' rt rth rmi rri rop ros rsh rho) := by
  have hP : PW c := hI.1
  have kk := okL_79 h0
  obtain ⟨h1, h2⟩ := pl_Y R true
  have hset : F_X12_places rth rop 1 = 0 ↔ okL c 79 = false := by
    rw [kk]
    exact set0 h2
  unfold ok_X12_readPart_b46 F_X12_readPart_b46
  by_cases q : F_X12_places rth rop 1 = 0
  · obtain ⟨n1, n2⟩ := pt_H T hp hI h0 R (fun h => by
      rcases hok h with y | y
      · rw [y, hset.mp q] at h; cases h
      · exact y)
    rw [if_pos q]
    exact ⟨⟨h1, fun _ => n1, fun y => absurd q y⟩, n2⟩
  · have kt : okL c 79 = true := by
      cases h : okL c 79 with
      | true => rfl
      | false => exact absurd (hset.mpr h) q
    obtain ⟨s1, s2⟩ := sign_Y T (p := p) (by omega) (k := 79) (by decide) 79 rfl
    rw [if_neg q, s2, decide_eq_true hp, Bool.true_and]
    dsimp only
    unfold ok_X12_readPart_b60 F_X12_readPart_b60
    by_cases qb : tx p = 79
    · have e : (tx p == 79) = true := by simp [qb]
      rw [e, if_neg bI_tn, if_pos rfl]
      have hk : okL c (tx p) = true := by rw [qb]; exact kt
      have hs := stc_y (g := g) (o := o) (t := t) hk
      have hI2 := CI_stc hI hs
      have hc := cr_s hp hs
      rw [qb] at hI2 hc
      obtain ⟨a1, a2⟩ := ro_Y T (p := p + 1) (by omega) hI2 R
      generalize F_X12_readHours (nI L) (nI (p + 1)) ys rth rop ros rsh = X at a2 ⊢
      exact ⟨⟨h1, fun y => absurd y q, fun _ => ⟨s1, fun y => absurd y bI_tn, fun _ => ⟨a1, PR_isB a2⟩⟩⟩, PR1_step hc a2⟩
    · have e : (tx p == 79) = false := by simp [qb]
      rw [e, if_pos bI_f, if_neg nft, Nat.add_zero]
      obtain ⟨n1, n2⟩ := pt_H T hp hI h0 R (fun h => (hok h).resolve_left qb)
      exact ⟨⟨h1, fun y => absurd y q, fun _ => ⟨s1, fun _ => n1, fun y => absurd bI_f y⟩⟩, n2⟩
theorem pt_P (T : TX tx L xs ys) (hp : p < L) (hI : CI (0, g, o, t, c)) (h0 : ¬ kN c = 0) (R : CY c rp rf rs rw rr' rt rth rmi rri rop ros rsh rho) (hok : okL c (tx p) = true → tx p = 80 ∨ tx p = 79 ∨ tx p = 72 ∨ tx p = 70) :
    ok_X12_readPart_b24 (nI L) rp ys (nI p) rf rth rmi rri rop ros rsh rho ∧ PQ tx L p (0, g, o, t, c) rp (F_X12_readPart_b24 (nI L) rp ys (nI p) rf rs rw rr' rt rth rmi rri rop ros rsh rho) := by
  have hP : PW c := hI.1
  have kk := okL_80 h0
  obtain ⟨h1, h2⟩ := pl_Y R false
  have hset : F_X12_places rth rop 0 = 0 ↔ okL c 80 = false := by
    rw [kk]
    exact set0 h2
  unfold ok_X12_readPart_b24 F_X12_readPart_b24
  by_cases q : F_X12_places rth rop 0 = 0
  · obtain ⟨n1, n2⟩ := pt_O T hp hI h0 R (fun h => by
      rcases hok h with y | y
      · rw [y, hset.mp q] at h; cases h
      · exact y)
    rw [if_pos q]
    exact ⟨⟨h1, fun _ => n1, fun y => absurd q y⟩, n2⟩
  · have kt : okL c 80 = true := by
      cases h : okL c 80 with
      | true => rfl
      | false => exact absurd (hset.mpr h) q
    obtain ⟨s1, s2⟩ := sign_Y T (p := p) (by omega) (k := 80) (by decide) 80 rfl
    rw [if_neg q, s2, decide_eq_true hp, Bool.true_and]
    dsimp only
    unfold ok_X12_readPart_b38 F_X12_readPart_b38
    by_cases qb : tx p = 80
    · have e : (tx p == 80) = true := by simp [qb]
      rw [e, if_neg bI_tn, if_pos rfl]
      have hk : okL c (tx p) = true := by rw [qb]; exact kt
      have hs := stc_y (g := g) (o := o) (t := t) hk
      have hI2 := CI_stc hI hs
      have hc := cr_s hp hs
      rw [qb] at hI2 hc
      obtain ⟨a1, a2⟩ := rp_Y T (p := p + 1) (by omega) hI2 R
      generalize F_X12_readPlace (nI L) (nI (p + 1)) ys rth rmi rri rop = X at a2 ⊢
      exact ⟨⟨h1, fun y => absurd y q, fun _ => ⟨s1, fun y => absurd y bI_tn, fun _ => ⟨a1, PR_isB a2⟩⟩⟩, PR1_step hc a2⟩
    · have e : (tx p == 80) = false := by simp [qb]
      rw [e, if_pos bI_f, if_neg nft, Nat.add_zero]
      obtain ⟨n1, n2⟩ := pt_O T hp hI h0 R (fun h => (hok h).resolve_left qb)
      exact ⟨⟨h1, fun y => absurd y q, fun _ => ⟨s1, fun _ => n1, fun y => absurd bI_f y⟩⟩, n2⟩
theorem pt_Y (T : TX tx L xs ys) (hp : p < L) (hI : CI (0, g, o, t, c)) (h0 : ¬ kN c = 0) (R : CY c rp rf rs rw rr' rt rth rmi rri rop ros rsh rho)  :
    ok_X12_readPart (nI L) (nI p) rp rf rs ys rw rr' rt rth rmi rri rop ros rsh rho ∧ PQ tx L p (0, g, o, t, c) rp (F_X12_readPart (nI L) (nI p) rp rf rs ys rw rr' rt rth rmi rri rop ros rsh rho) := by
  have hP : PW c := hI.1
  have kk := okL_82 h0
  obtain ⟨h1, h2⟩ := fp_Y hP R
  have hset : F_X12_freePeople rp rs rw rr' rt = 0 ↔ okL c 82 = false := by
    rw [kk]
    by_cases q8 : kS c < 8
    · rw [decide_eq_true q8, Bool.true_and]
      exact set0 (fun k => by rw [h2, decide_eq_true q8, Bool.true_and])
    · rw [decide_eq_false q8, Bool.false_and]
      exact ⟨fun _ => rfl, fun _ => bt_eq0.mpr (fun k => by rw [h2, decide_eq_false q8, Bool.false_and])⟩
  unfold ok_X12_readPart F_X12_readPart
  by_cases q : F_X12_freePeople rp rs rw rr' rt = 0
  · obtain ⟨n1, n2⟩ := pt_P T hp hI h0 R (fun h => by
      rcases (fun h => by have := okL_all h0 h; omega : okL c (tx p) = true → tx p = 82 ∨ tx p = 80 ∨ tx p = 79 ∨ tx p = 72 ∨ tx p = 70) h with y | y
      · rw [y, hset.mp q] at h; cases h
      · exact y)
    rw [if_pos q]
    exact ⟨⟨h1, fun _ => n1, fun y => absurd q y⟩, n2⟩
  · have kt : okL c 82 = true := by
      cases h : okL c 82 with
      | true => rfl
      | false => exact absurd (hset.mpr h) q
    obtain ⟨s1, s2⟩ := sign_Y T (p := p) (by omega) (k := 82) (by decide) 82 rfl
    rw [if_neg q, s2, decide_eq_true hp, Bool.true_and]
    dsimp only
    unfold ok_X12_readPart_b15 F_X12_readPart_b15
    by_cases qb : tx p = 82
    · have e : (tx p == 82) = true := by simp [qb]
      rw [e, if_neg bI_tn, if_pos rfl]
      have hk : okL c (tx p) = true := by rw [qb]; exact kt
      have hs := stc_y (g := g) (o := o) (t := t) hk
      have hI2 := CI_stc hI hs
      have hc := cr_s hp hs
      rw [qb] at hI2 hc
      obtain ⟨a1, a2⟩ := rs_Y T (p := p + 1) (by omega) hI2 R
      generalize F_X12_readSession (nI L) (nI (p + 1)) rs ys rw rr' rt (F_X12_freePeople rp rs rw rr' rt) = X at a2 ⊢
      exact ⟨⟨h1, fun y => absurd y q, fun _ => ⟨s1, fun y => absurd y bI_tn, fun _ => ⟨a1, PR_isB a2⟩⟩⟩, PR1_step hc a2⟩
    · have e : (tx p == 82) = false := by simp [qb]
      rw [e, if_pos bI_f, if_neg nft, Nat.add_zero]
      obtain ⟨n1, n2⟩ := pt_P T hp hI h0 R (fun h => ((fun h => by have := okL_all h0 h; omega : okL c (tx p) = true → tx p = 82 ∨ tx p = 80 ∨ tx p = 79 ∨ tx p = 72 ∨ tx p = 70) h).resolve_left qb)
      exact ⟨⟨h1, fun y => absurd y q, fun _ => ⟨s1, fun _ => n1, fun y => absurd bI_f y⟩⟩, n2⟩
end CYq

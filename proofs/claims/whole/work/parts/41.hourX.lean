/-! the class's hour -/
theorem ok_isOpen (f : Nat → Int32) (x y : Int32) : ok_X1_isOpen f x y := by
  unfold ok_X1_isOpen
  intro h1 h2
  rcases pk_ix x (n := 4) (by decide) with h3 | h3 | ⟨j, hj, rfl⟩
  · exact absurd h3 h1
  · exact absurd h3 h2
  · exact ⟨vp_in_nI hj (by decide), fun _ => vp_in_nI hj (by decide)⟩
theorem tst_if {α : Type} {x : Int32} {s : Nat} (hs : s < 32) (a b : α) : (if ((x >>> (nI s &&& 31)) &&& 1) = 0 then a else b) = if bt x s = true then b else a := by
  cases h : bt x s with
  | false => rw [if_pos ((bt_t0 hs).mpr h), if_neg (by decide)]
  | true => rw [if_neg (fun q => by rw [(bt_t0 hs).mp q] at h; cases h), if_pos rfl]
theorem hourAfter_nI {h : Nat} (hh : h < 10) : F_X11_hourAfter (nI h) = nI ((h + 1) % 10) := by
  unfold F_X11_hourAfter
  rw [nI_1]
  by_cases h9 : h = 9
  · subst h9; rfl
  · rw [if_neg (le_lit (K := 10) 10 rfl (by omega) (by decide)), Nat.mod_eq_of_lt (by omega)]
theorem isPerson_nI {n i : Nat} (hn : n ≤ 6) (hi : i < n) : F_X1_isPerson (nI n) (nI i) = 1 := by
  unfold F_X1_isPerson
  rw [if_neg (nI_pos (by omega)), if_neg (nI_ge hi (by omega)), if_neg (le_lit (K := 6) 6 rfl (by omega) (by decide))]
theorem Nx_nxs {c : Cl} {g : Nat → Int32} (hg : ∀ s, s < kS c → ¬ g s = -9) {h : Nat} : ∀ {d j t : Nat}, nxs c h j d = some t → h + j + d ≤ 20 → Nx (fun h => pv g (fa c h)) (h + j) = g t
  | 0, j, t, e, _ => by cases e
  | d + 1, j, t, e, hl => by
    rw [nxs] at e
    rw [Nx_step _ (by omega)]
    cases hf : fa c ((h + j) % 10) with
    | some s =>
      rw [hf] at e
      have e' : s = t := Option.some.inj e
      subst e'
      show (if g s = -9 then _ else g s) = g s
      rw [if_neg (hg s (fa_some hf).1)]
    | none =>
      rw [hf] at e
      show (if (-9 : Int32) = -9 then _ else _) = g t
      rw [if_pos rfl]
      exact Nx_nxs hg (d := d) (j := j + 1) e (by omega)
section HX
variable {c : Cl} {pe se pl ow : Int32} {pr mi ri oF oL ho be en co nc : Nat → Int32}
theorem isOpen_X (R : RX c pe se pl ow pr mi ri oF oL ho be en co nc) {h k : Nat} (hh : h < 10) (hk : k < 2 ^ 31) : F_X1_isOpen oF oL (nI k) (nI h) = bI (opn c h k) := by
  obtain ⟨w, -, -, -, -, -, hp, hq, -, -⟩ := R
  unfold F_X1_isOpen
  rw [if_neg (nI_pos hk)]
  by_cases h4 : k < 4
  · rw [if_neg (le_lit (K := 4) 4 rfl h4 (by decide)), nI_clamp hk]
    cases hP : kP c k with
    | true =>
      obtain ⟨-, -, e1, e2⟩ := hp k h4 hP
      have hb := w.pp h4
      rw [e1, e2, show opn c h k = (decide (kO c k ≤ h) && decide (h ≤ kU c k)) by unfold opn; simp [h4, hP]]
      by_cases h5 : h < kO c k
      · rw [if_pos (nI_lt h5 (by omega)), decide_eq_false (show ¬ kO c k ≤ h by omega)]; rfl
      · rw [if_neg (nI_nlt (by omega) (by omega)), decide_eq_true (show kO c k ≤ h by omega)]
        by_cases h6 : kU c k < h
        · rw [if_pos (nI_lt h6 (by omega)), decide_eq_false (show ¬ h ≤ kU c k by omega)]; rfl
        · rw [if_neg (nI_nlt (by omega) (by omega)), decide_eq_true (show h ≤ kU c k by omega)]; rfl
    | false =>
      rw [hq k h4 hP, show opn c h k = false by unfold opn; simp [hP]]
      by_cases h5 : nI h < oF k
      · rw [if_pos h5]; rfl
      · rw [if_neg h5, if_pos (show (-9 : Int32) < nI h from (by
          have : ∀ h, h < 10 → (-9 : Int32) < nI h := by decide
          exact this h hh))]
        rfl
  · rw [if_pos (show (4 : Int32) ≤ nI k from nI_le (a := 4) (by omega) hk), show opn c h k = false by unfold opn; simp [h4]]
    rfl
theorem isPlace_X (R : RX c pe se pl ow pr mi ri oF oL ho be en co nc) {k : Nat} (hk : k < 2 ^ 31) : F_X1_isPlace pl (nI k) = bI (decide (k < 4) && kP c k) := by
  obtain ⟨-, -, -, hpl, -⟩ := R
  unfold F_X1_isPlace
  rw [if_neg (nI_pos hk)]
  by_cases h4 : k < 4
  · rw [if_neg (le_lit (K := 4) 4 rfl h4 (by decide)), tst_if (by omega), hpl]
    rfl
  · rw [if_pos (show (4 : Int32) ≤ nI k from nI_le (a := 4) (by omega) hk)]
    simp [h4, bI]
theorem hasOwn_X (R : RX c pe se pl ow pr mi ri oF oL ho be en co nc) {i : Nat} (hi : i < 32) : F_X1_hasOwnKey ow (nI i) = bI (own c i) := by
  obtain ⟨-, -, -, -, rfl, -⟩ := R
  unfold F_X1_hasOwnKey
  rw [tst_if hi, bt_nI hi]
  rfl
theorem pol_loop {K : Nat} (hK : K ≤ 8) (pr : Nat → Int32) (x kx : Int32) : ∀ n j, j ≤ K → K < j + n → ok_X1_personOfLeast_L2 (nI K) x n (nI j) ∧ F_X1_personOfLeast_L2 (nI K) pr x kx n (nI j) = (match lo (bt x) j (K - j) with | none => kx | some s => pr s) := by
  intro n
  induction n with
  | zero => intro j h1 h2; omega
  | succ n ih =>
    intro j h1 h2
    rw [ok_X1_personOfLeast_L2_s, F_X1_personOfLeast_L2_s]
    by_cases hj : j = K
    · subst hj
      rw [if_pos (Int32.le_refl _), lo_end]
      exact ⟨fun q => absurd (Int32.le_refl _) q, rfl⟩
    · obtain ⟨g1, g2⟩ := ih (j + 1) (by omega) (by omega)
      rw [if_neg (nI_ge (by omega) (by omega)), tst_if (by omega), nI_1, lo_at (by omega), nI_clamp (by omega), g2]
      refine ⟨fun _ => ⟨fun _ => g1, fun _ => vp_in_nI (by omega) (by decide)⟩, ?_⟩
      cases bt x j <;> rfl
theorem pol_X {K : Nat} (hK : K ≤ 8) (pr : Nat → Int32) (x : Int32) : ok_X1_personOfLeast (nI K) x ∧ F_X1_personOfLeast (nI K) pr x = pv pr (lo (bt x) 0 K) := by
  have h := pol_loop hK pr x (-9) FU 0 (by omega) (by have := FU_ge; omega)
  rw [nI_0] at h
  refine ⟨h.1, ?_⟩
  unfold F_X1_personOfLeast F_X1_personOfLeast_b31
  rw [h.2, Nat.sub_zero]
  cases lo (bt x) 0 K <;> rfl
/-- somebody opens -/
def soR (c : Cl) (k : Nat) (w : Int32) (kx : Int32 → Int32 → Int32 × Int32 × Int32) : Option Nat → Int32 × Int32 × Int32
  | none => kx (nI k) w
  | some s => (1, nI (opd c k s).1, w + nI (opd c k s).2)
theorem so_loop (R : RX c pe se pl ow pr mi ri oF oL ho be en co nc) {h k : Nat} (hh : h < 10) (hk : k < 2 ^ 31) (o w : Int32) (kx : Int32 → Int32 → Int32 × Int32 × Int32) : ∀ n j, j ≤ kS c → kS c < j + n →
    ok_X3_somebodyOpens_L2 (nI h) o se ow pr oF oL n (nI k) w (nI j) ∧ F_X3_somebodyOpens_L2 (nI h) o se ow pr mi oF oL kx n (nI k) w (nI j) = soR c k w kx (lo (fun s => bt o s && lets c h k s) j (kS c - j)) := by
  have R' := R
  obtain ⟨wf, -, rfl, -, -, hpr, hp, -, -, -⟩ := R'
  have hS := wf.s8
  intro n
  induction n with
  | zero => intro j h1 h2; omega
  | succ n ih =>
    intro j h1 h2
    rw [ok_X3_somebodyOpens_L2_s, F_X3_somebodyOpens_L2_s]
    by_cases hj : j = kS c
    · subst hj
      rw [if_pos (Int32.le_refl _), lo_end]
      exact ⟨fun q => absurd (Int32.le_refl _) q, rfl⟩
    · obtain ⟨g1, g2⟩ := ih (j + 1) (by omega) (by omega)
      have hv : vp_in (nI j) 8 := vp_in_nI (by omega) (by decide)
      have hw := (wf.ss (s := j) (by omega)).1
      have h6 := wf.n6
      rw [if_neg (nI_ge (by omega) (by omega)), if_neg (le_lit (K := 8) 8 rfl (by omega) (by decide)), tst_if (by omega), nI_1, lo_at (by omega), nI_clamp (by omega), g2, hpr j (by omega), hasOwn_X R (by omega), isOpen_X R hh hk, show (10 : Int32) + nI (kW c j) = nI (10 + kW c j) from nI_add 10 _, nI_clamp hk]
      have hop : opn c h k = true → vp_in (nI k) 4 := fun q => vp_in_nI (opn_true.mp q).1 (by decide)
      constructor
      · intro _ _
        refine ⟨fun _ => g1, fun _ => ⟨hv, fun _ => ⟨hv, fun _ => ⟨ok_isOpen _ _ _, fun _ => g1, fun q => hop ?_⟩⟩⟩⟩
        cases ho' : opn c h k with
        | true => rfl
        | false => rw [ho'] at q; exact absurd rfl q
      · cases hb : bt o j with
        | false => rw [if_neg (by decide)]; simp
        | true =>
          rw [if_pos rfl]
          have hl : lets c h k j = (own c (kW c j) || ((k == 10 + kW c j) || opn c h k)) := rfl
          rw [Bool.true_and, hl]

          cases how : own c (kW c j) with
          | true =>
            rw [if_neg (by decide), Bool.true_or, if_pos rfl]
            show _ = (1, nI (opd c k j).1, w + nI (opd c k j).2)
            unfold opd
            rw [if_pos how, nI_0, Int32.add_zero]
          | false =>
            rw [if_pos bI_f, Bool.false_or]
            by_cases h10 : k = 10 + kW c j
            · have e1 : (k == 10 + kW c j) = true := by rw [h10]; simp
              rw [if_pos (by rw [h10]), e1, Bool.true_or, if_pos rfl]
              show _ = (1, nI (opd c k j).1, w + nI (opd c k j).2)
              unfold opd
              rw [if_neg (by rw [how]; decide), if_pos h10, nI_0, Int32.add_zero]
              rfl
            · have e1 : (k == 10 + kW c j) = false := by simp [h10]
              rw [if_neg (fun q => h10 ((nI_eq hk (by omega)).mp q)), e1, Bool.false_or]
              cases hop' : opn c h k with
              | false => rw [if_pos bI_f, if_neg (by decide)]
              | true =>
                rw [if_neg (by decide), if_pos rfl]
                show _ = (1, nI (opd c k j).1, w + nI (opd c k j).2)
                obtain ⟨q1, q2, -, -⟩ := opn_true.mp hop'
                unfold opd
                rw [if_neg (by rw [how]; decide), if_neg h10, (hp k q1 q2).1]
                rfl
theorem so_X (R : RX c pe se pl ow pr mi ri oF oL ho be en co nc) {h k : Nat} (hh : h < 10) (hk : k < 2 ^ 31) (o w : Int32) :
    ok_X3_somebodyOpens (nI h) (nI k) o w se ow pr oF oL ∧ F_X3_somebodyOpens (nI h) (nI k) o w se ow pr mi oF oL = (match opr c h k o with | none => (0, nI k, w) | some s => (1, nI (opd c k s).1, w + nI (opd c k s).2)) := by
  have h' := so_loop R hh hk o w (fun e2_0 e2_1 => F_X3_somebodyOpens_b116 e2_0 e2_1) FU 0 (by omega) (by have := FU_ge; have := R.1.s8; omega)
  rw [nI_0, Nat.sub_zero] at h'
  refine ⟨h'.1, ?_⟩
  unfold F_X3_somebodyOpens
  rw [h'.2]
  show soR c k w _ (opr c h k o) = _
  cases opr c h k o <;> rfl
theorem ho_X (R : RX c pe se pl ow pr mi ri oF oL ho be en co nc) {h a s : Nat} (hh : h < 10) (ha : a ≤ 5) (hs : s < kS c) (w f : Int32) (fg : Bool) (hf : fg = decide (¬ f = 0)) :
    ok_X3_handOn (nI h) pe oF oL co nc (nI a) f ∧ F_X3_handOn (nI h) w 0 pe mi oF oL ho co nc (nI (kW c s)) (nI a) f = (match fa c ((h + 1) % 10) with
      | some t => (nI (10 + kW c t), w, 0)
      | none => (nI (lv c h a fg s).1, w + nI (lv c h a fg s).2, 1)) := by
  have R' := R
  obtain ⟨wf, rfl, -, -, -, hpr, hp, -, hhm, hh4⟩ := R'
  have h10 : (h + 1) % 10 < 10 := Nat.mod_lt _ (by decide)
  have hN6 := wf.n6
  obtain ⟨t, et, ht⟩ := nx_some wf (h := h) hs
  have hnc : nc h = nI (kW c t) := by
    rw [(hh4 h hh).2.2.2]
    exact Nx_nxs (g := fun s => nI (kW c s)) (fun s hs' => by
      have := (wf.ss hs').1
      have key : ∀ n, n < 6 → ¬ nI n = (-9 : Int32) := by decide
      exact key _ (by omega)) (d := 10) (j := 1) et (by omega)
  have hwt := (wf.ss ht).1
  have key : ∀ n, n < 6 → ¬ nI n = (-9 : Int32) := by decide
  have hco := (hh4 _ h10).2.2.1
  unfold ok_X3_handOn F_X3_handOn
  rw [hourAfter_nI hh, nI_clamp (by omega), hco, nI_clamp (by omega), hnc, isPerson_nI hN6 hwt, nI_clamp (by omega), hhm _ hwt]
  have hv10 : vp_in (nI h) 10 := vp_in_nI hh (by decide)
  have hb : ∀ x, x = nI a → ok_X3_handOn_b103 (nI h) oF oL x := by
    intro x e
    subst e
    unfold ok_X3_handOn_b103
    refine ⟨ok_isOpen _ _ _, fun q => ?_⟩
    rw [isOpen_X R hh (by omega)] at q
    cases ho' : opn c h a with
    | true => exact vp_in_nI (opn_true.mp ho').1 (by decide)
    | false => rw [ho'] at q; exact absurd rfl q
  constructor
  · refine ⟨vp_in_nI h10 (by decide), fun _ _ => ⟨hv10, fun _ => ⟨fun _ => hb _ rfl, fun _ => vp_in_nI (by omega) (by decide)⟩, fun _ => hb _ rfl⟩⟩
  · cases e : fa c ((h + 1) % 10) with
    | some u =>
      have hu := (wf.ss (fa_some e).1).1
      show (if nI (kW c u) = -9 then _ else _) = _
      rw [if_neg (key _ (by omega))]
      show (10 + nI (kW c u), w, (0 : Int32)) = _
      rw [show (10 : Int32) + nI (kW c u) = nI (10 + kW c u) from nI_add 10 _]
    | none =>
      show (if (-9 : Int32) = -9 then _ else _) = (nI (lv c h a fg s).1, w + nI (lv c h a fg s).2, 1)
      rw [if_pos rfl, show (10 : Int32) + nI (kW c s) = nI (10 + kW c s) from nI_add 10 _, show (10 : Int32) + nI (kW c t) = nI (10 + kW c t) from nI_add 10 _]
      unfold lv
      by_cases h0 : f = 0
      · have hfg : fg = false := by rw [hf, h0]; rfl
        rw [if_pos h0, hfg, Bool.not_false, Bool.and_true]
        by_cases h5 : a = 5
        · subst h5
          rw [if_pos (show nI 5 = (5 : Int32) from rfl), if_neg (by decide), if_pos (show may c h 5 = true from by unfold may; simp), if_pos rfl, et]
        · rw [if_neg (show ¬ nI a = (5 : Int32) from fun q => h5 ((nI_eq (b := 5) (by omega) (by decide)).mp q)), if_neg h5]
          unfold F_X3_handOn_b103
          rw [isOpen_X R hh (by omega), show may c h a = opn c h a by unfold may; simp [h5]]
          cases ho' : opn c h a with
          | false => rw [if_pos (show bI false = 0 from rfl), if_neg (by decide), nI_0, Int32.add_zero]
          | true =>
            obtain ⟨q1, q2, -, -⟩ := opn_true.mp ho'
            rw [if_neg (show ¬ bI true = 0 by decide), if_pos rfl, nI_clamp (by omega), (hp a q1 q2).1]
      · have hfg : fg = true := by rw [hf]; simp [h0]
        rw [if_neg h0, hfg, Bool.not_true, Bool.and_false, if_neg (by decide), nI_0, Int32.add_zero]
theorem eq_lit {K k : Nat} (x : Int32) (hx : x = nI K) (hk : k < 2 ^ 31) (hK : K < 2 ^ 31) : nI k = x ↔ k = K := by rw [hx]; exact nI_eq hk hK
theorem lg_X (R : RX c pe se pl ow pr mi ri oF oL ho be en co nc) {h k : Nat} (hh : h < 10) (hk : k < 2 ^ 31) (i o : Int32) :
    ok_X3_letGo (nI h) (nI k) i se en ∧ F_X3_letGo (nI h) (nI k) i o se pr en = ((if k = 20 ∧ i &&& (fin c h ^^^ (-1)) = 0 then pv pr (lo (bt (i &&& fin c h)) 0 (kS c)) else -9), i &&& (fin c h ^^^ (-1)), o &&& (fin c h ^^^ (-1))) := by
  obtain ⟨wf, -, rfl, -, -, hpr, hp, -, -, hh4⟩ := R
  have hpol := pol_X wf.s8 pr (i &&& fin c h)
  unfold ok_X3_letGo F_X3_letGo
  rw [nI_clamp (by omega), (hh4 h hh).2.1]
  refine ⟨⟨vp_in_nI hh (by decide), fun _ _ => hpol.1⟩, ?_⟩
  by_cases h1 : k = 20
  · rw [if_pos ((eq_lit (K := 20) 20 rfl hk (by decide)).mpr h1)]
    by_cases h2 : i &&& (fin c h ^^^ (-1)) = 0
    · rw [if_pos h2, if_pos ⟨h1, h2⟩, hpol.2]
    · rw [if_neg h2, if_neg (fun q => h2 q.2)]
  · rw [if_neg (fun q => h1 ((eq_lit (K := 20) 20 rfl hk (by decide)).mp q)), if_neg (fun q => h1 q.1)]
/-- from those who came in to the end of the hour -/
theorem b120_X (R : RX c pe se pl ow pr mi ri oF oL ho be en co nc) {h a k : Nat} (hh : h < 10) (ha : a ≤ 5) {i o : Int32} (hk : Bg c k ∨ (k = 20 ∧ ¬ i = 0)) (hi : Sb c i) (w r st sn f : Int32) (fg : Bool) (hf : fg = decide (¬ f = 0)) :
    ok_X3_passHour_b120 pe se pr oF oL en co nc (nI a) f (nI h) (nI k) i o ∧ F_X3_passHour_b120 pe se pr mi oF oL ho en co nc (nI a) f (nI h) (nI k) i o w r st sn 0 =
      (nI ((h + 1) % 10), nI (hq c h a fg k i).1, i &&& (fin c h ^^^ (-1)), o &&& (fin c h ^^^ (-1)), w + nI (hq c h a fg k i).2.1, r, st, sn, bI (hq c h a fg k i).2.2.1) := by
  have wf := R.1
  have hN6 := wf.n6
  have hk31 : k < 2 ^ 31 := by
    rcases hk with (⟨q, -⟩ | ⟨-, q⟩) | ⟨q, -⟩ <;> omega
  obtain ⟨l1, l2⟩ := lg_X R hh hk31 i o
  unfold ok_X3_passHour_b120 F_X3_passHour_b120
  rw [l2]
  refine (fun (q : _ ∧ _) => ⟨⟨l1, q.1⟩, q.2⟩) ?_
  dsimp only
  unfold ok_X3_passHour_b125 F_X3_passHour_b125 F_X3_passHour_b143 hq
  by_cases hA : k = 20 ∧ i &&& (fin c h ^^^ (-1)) = 0
  · rw [if_pos hA, if_pos hA]
    have h0 : ¬ i = 0 := by
      rcases hk with hk | ⟨-, hk⟩
      · exfalso
        rcases hk with ⟨q, -⟩ | ⟨-, q⟩ <;> omega
      · exact hk
    obtain ⟨s, es, hs⟩ := went_some wf hi h0 hA.2
    have hws := (wf.ss hs).1
    have key : ∀ n, n < 6 → ¬ nI n = (-9 : Int32) := by decide
    have e0 : pv pr (lo (bt (i &&& fin c h)) 0 (kS c)) = nI (kW c s) := by
      rw [es]
      exact R.2.2.2.2.2.1 s hs
    obtain ⟨k1, k2⟩ := ho_X R hh ha hs w f fg hf
    rw [e0, if_neg (key _ (by omega)), k2, hourAfter_nI hh, es]
    refine ⟨fun _ => k1, ?_⟩
    cases fa c ((h + 1) % 10) with
    | some t =>
      show (_, _, _, _, w, _) = (_, _, _, _, w + nI 0, _)
      rw [nI_0, Int32.add_zero]
      rfl
    | none => rfl
  · rw [if_neg hA, if_neg hA, if_pos rfl, hourAfter_nI hh]
    refine ⟨fun q => absurd rfl q, ?_⟩
    show (_, _, _, _, w, _) = (_, _, _, _, w + nI 0, _)
    rw [nI_0, Int32.add_zero]
    rfl
theorem b67_X (R : RX c pe se pl ow pr mi ri oF oL ho be en co nc) {h a k : Nat} (hh : h < 10) (ha : a ≤ 5) {i o : Int32} (hk : Bg c k ∨ (k = 20 ∧ ¬ i = 0)) (hi : Sb c i) (hoo : Sb c o) (w r st f : Int32) (fg : Bool) (hf : fg = decide (¬ f = 0)) :
    ok_X3_passHour_b67 pe se pl pr oF oL en co nc (nI a) f (nI h) (nI k) i o ∧ F_X3_passHour_b67 pe se pl pr mi ri oF oL ho en co nc (nI a) f (nI h) (nI k) i o w r st 0 =
      (nI ((h + 1) % 10), nI (hq c h a fg k i).1, i &&& (fin c h ^^^ (-1)), o &&& (fin c h ^^^ (-1)), w + nI (hq c h a fg k i).2.1, r + nI (if k < 4 then kR c k else 0), st + nI (pcn o 8), o, bI (hq c h a fg k i).2.2.1) := by
  have wf := R.1
  have hN6 := wf.n6
  have hk31 : k < 2 ^ 31 := by
    rcases hk with (⟨q, -⟩ | ⟨-, q⟩) | ⟨q, -⟩ <;> omega
  have h1 := b120_X (o := o) R hh ha hk hi w r (st + F_J6_bitCount_0f7a4 o) o f fg hf
  have h2 := b120_X (o := o) R hh ha hk hi w (r + ri k) (st + F_J6_bitCount_0f7a4 o) o f fg hf
  unfold ok_X3_passHour_b67 F_X3_passHour_b67
  rw [isPlace_X R hk31, nI_clamp hk31, h1.2, h2.2, bc_8 (hoo.b8 wf)]
  by_cases h4 : k < 4
  · have hP : kP c k = true := by
      rcases hk with (⟨-, q⟩ | ⟨q, -⟩) | ⟨q, -⟩
      · exact q
      · omega
      · omega
    rw [hP, decide_eq_true h4, if_pos h4, Bool.and_true, if_neg (by decide), (R.2.2.2.2.2.2.1 k h4 hP).2.1]
    exact ⟨⟨fun _ => h1.1, fun _ => ⟨vp_in_nI h4 (by decide), h2.1⟩⟩, rfl⟩
  · rw [decide_eq_false h4, if_neg h4, Bool.false_and, if_pos (by rfl), nI_0, Int32.add_zero]
    exact ⟨⟨fun _ => h1.1, fun q => absurd rfl q⟩, rfl⟩
/-- an hour -/
theorem ph_X (R : RX c pe se pl ow pr mi ri oF oL ho be en co nc) {h a : Nat} (hh : h < 10) (ha : a ≤ 5) {z : Zt} (hz : ZI c z) (w r st sn f : Int32) (fg : Bool) (hf : fg = decide (¬ f = 0)) :
    ok_X3_passHour (nI h) (nI z.1) z.2.1 z.2.2 w pe se pl ow pr mi oF oL be en co nc (nI a) f ∧ F_X3_passHour (nI h) (nI z.1) z.2.1 z.2.2 w r st sn pe se pl ow pr mi ri oF oL ho be en co nc (nI a) f =
      (nI ((h + 1) % 10), nI (zN c h a fg z).1, (zN c h a fg z).2.1, (zN c h a fg z).2.2, w + nI (zw c h a fg z), r + nI (zr c h z), st + nI (zn c h z), zS c h z, bI (za c h a fg z)) := by
  have wf := R.1
  have hN6 := wf.n6
  have hk31 : z.1 < 2 ^ 31 := by
    obtain ⟨hk, -, -⟩ := hz
    rcases hk with (⟨q, -⟩ | ⟨-, q⟩) | ⟨q, -⟩ <;> omega
  have hbe : be h = beg c h := (R.2.2.2.2.2.2.2.2.2 h hh).1
  obtain ⟨gk, gi, go⟩ := cin_ZI wf (h := h) hz
  have h67 := b67_X R hh ha gk gi go (w + nI (zc c h z).2.2.2) r st f fg hf
  have hso := so_X R hh hk31 (z.2.2 ||| beg c h) w
  unfold ok_X3_passHour F_X3_passHour
  rw [isHour_nI hh, nI_clamp (by omega), hbe, if_neg (by decide)]
  unfold zN zw zr zn zS za zq
  rw [← nI_add, ← Int32.add_assoc]
  unfold zc cin at *
  by_cases h0 : z.2.1 = 0
  · rw [if_pos h0] at h67 ⊢
    rw [if_pos h0]
    rw [hso.2]
    refine (fun (q : _ ∧ _) => ⟨fun _ => ⟨vp_in_nI hh (by decide), fun _ => ⟨hso.1, q.1⟩, fun q' => absurd h0 q'⟩, q.2⟩) ?_
    cases e : opr c h z.1 (z.2.2 ||| beg c h) with
    | none =>
      rw [e] at h67
      dsimp only at h67 ⊢
      unfold ok_X3_passHour_b46 F_X3_passHour_b46
      rw [nI_0, Int32.add_zero] at h67
      rw [nI_0, Int32.add_zero, if_pos rfl, h67.2]
      exact ⟨⟨fun _ => h67.1, fun q => absurd rfl q⟩, rfl⟩
    | some s =>
      rw [e] at h67
      dsimp only at h67 ⊢
      unfold ok_X3_passHour_b46 F_X3_passHour_b46 ok_X3_passHour_b49 F_X3_passHour_b49
      rw [if_neg (by decide), h67.2]
      exact ⟨⟨fun q => absurd q (by decide), fun _ => h67.1⟩, rfl⟩
  · rw [if_neg h0] at h67 ⊢
    rw [if_neg h0]
    dsimp only at h67 ⊢
    unfold ok_X3_passHour_b49 F_X3_passHour_b49
    rw [nI_0, Int32.add_zero] at h67
    rw [nI_0, Int32.add_zero, h67.2]
    exact ⟨fun _ => ⟨vp_in_nI hh (by decide), fun q => absurd q h0, fun _ => h67.1⟩, rfl⟩
end HX

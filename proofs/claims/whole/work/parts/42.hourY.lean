/-! the reference's hour -/
theorem nft : ¬ (false = true) := by decide
theorem bI_tn : ¬ bI true = 0 := by decide
theorem i10 : ¬ (1 : Int32) = 0 := by decide
theorem b31 : (20 : Nat) < 2 ^ 31 := by decide
theorem in_nI {x a b : Nat} (hx : x < 2 ^ 31) (ha : a < 2 ^ 31) (hb : b < 2 ^ 31) : F_X12_in (nI x).toInt64 (nI a).toInt64 (nI b).toInt64 = bI (decide (a ≤ x) && decide (x ≤ b)) := by
  unfold F_X12_in
  rw [nI_l hx, nI_l ha, nI_l hb]
  by_cases h1 : a ≤ x
  · rw [if_neg (fun q => by have := (lN_lt hx ha).mp ((lg_cmp_lt _ _).mp q); omega)]
    by_cases h2 : x ≤ b
    · rw [if_neg (fun q => by have := (lN_lt hb hx).mp ((lg_cmp_gt _ _).mp q); omega)]
      simp [h1, h2, bI]
    · rw [if_pos ((lg_cmp_gt _ _).mpr ((lN_lt hb hx).mpr (by omega)))]
      simp [h2, bI]
  · rw [if_pos ((lg_cmp_lt _ _).mpr ((lN_lt hx ha).mpr (by omega)))]
    simp [h1, bI]
theorem tst_if1 {α : Type} {x : Int32} {s : Nat} (hs : s < 32) (a b : α) : (if ((x >>> (nI s &&& 31)) &&& 1) = 1 then a else b) = if bt x s = true then a else b := by
  cases h : bt x s with
  | true => rw [if_pos ((bt_t1 hs).mpr h), if_pos rfl]
  | false => rw [if_neg (fun q => by rw [(bt_t1 hs).mp q] at h; cases h), if_neg (by decide)]
theorem bit_eq0 {x : Int32} {s : Nat} (hs : s < 32) : (x &&& ((1 : Int32) <<< (nI s &&& 31))) = 0 ↔ bt x s = false := by
  rw [bt_eq0]
  constructor
  · intro h
    have := h s
    rw [b_and, bt_bit hs hs] at this
    simpa using this
  · intro h i
    rw [b_and]
    by_cases hi : i < 32
    · rw [bt_bit hs hi]
      by_cases e : i = s
      · rw [e, h]; rfl
      · simp [e]
    · rw [b_big (by omega)]; rfl
theorem lo_snoc (P : Nat → Bool) : ∀ (d a : Nat), lo P a (d + 1) = (match lo P a d with | some s => some s | none => if P (a + d) then some (a + d) else none)
  | 0, a => by
    show (if P a then some a else none) = (if P (a + 0) then some (a + 0) else none)
    rw [Nat.add_zero]
  | d + 1, a => by
    show (if P a then some a else lo P (a + 1) (d + 1)) = (match (if P a then some a else lo P (a + 1) d) with | some s => some s | none => if P (a + (d + 1)) then some (a + (d + 1)) else none)
    rw [lo_snoc P d (a + 1), show a + 1 + d = a + (d + 1) by omega]
    cases P a <;> rfl
/-- an answer as an int -/
def oI : Option Nat → Int32
  | none => -9
  | some s => nI s
def oV (v : Int32) : Option Nat → Int32
  | none => v
  | some s => nI s
theorem oI_V (o : Option Nat) : oV (-9) o = oI o := by cases o <;> rfl
/-- bits from a place on, below it -/
def frm (j : Nat) (x : Int32) : Int32 := ms (fun t => decide (j ≤ t) && bt x t) 32
def bel (j : Nat) (x : Int32) : Int32 := ms (fun t => decide (t < j) && bt x t) 32
theorem bt_frm (j : Nat) (x : Int32) (i : Nat) : bt (frm j x) i = (decide (j ≤ i) && bt x i) := by
  unfold frm
  rw [bt_ms _ _ (Nat.le_refl _)]
  by_cases h : i < 32
  · simp [h]
  · rw [b_big (x := x) (by omega)]; simp
theorem bt_bel (j : Nat) (x : Int32) (i : Nat) : bt (bel j x) i = (decide (i < j) && bt x i) := by
  unfold bel
  rw [bt_ms _ _ (Nat.le_refl _)]
  by_cases h : i < 32
  · simp [h]
  · rw [b_big (x := x) (by omega)]; simp
theorem frm_0 (x : Int32) : frm 0 x = x := bt_ext (fun i => by rw [bt_frm]; simp)
theorem bel_0 (x : Int32) : bel 0 x = 0 := bt_ext (fun i => by rw [bt_bel, b_0]; simp)
theorem frm_top {c : Cl} {x : Int32} (h : Sb c x) : frm (kS c) x = 0 := bt_ext (fun i => by
  rw [bt_frm, b_0]
  cases hb : bt x i with
  | false => simp
  | true => have := h i hb; simp; omega)
theorem bel_top {c : Cl} {x : Int32} (h : Sb c x) : bel (kS c) x = x := bt_ext (fun i => by
  rw [bt_bel]
  cases hb : bt x i with
  | false => simp
  | true => have := h i hb; simp [this])
theorem frm_no {x : Int32} {j : Nat} (h : bt x j = false) : frm (j + 1) x = frm j x := bt_ext (fun i => by
  rw [bt_frm, bt_frm]
  by_cases e : i = j
  · rw [e, h]; simp
  · have : (j + 1 ≤ i) ↔ (j ≤ i) := by omega
    simp [this])
theorem bel_no {x : Int32} {j : Nat} (h : bt x j = false) : bel (j + 1) x = bel j x := bt_ext (fun i => by
  rw [bt_bel, bt_bel]
  by_cases e : i = j
  · rw [e, h]; simp
  · have : (i < j + 1) ↔ (i < j) := by omega
    simp [this])
theorem frm_yes {x y : Int32} {j : Nat} (hj : j < 32) (h : bt x j = true) : (y ||| ((1 : Int32) <<< (nI j &&& 31))) ||| frm (j + 1) (x &&& (((1 : Int32) <<< (nI j &&& 31)) ^^^ (-1))) = y ||| frm j x := bt_ext (fun i => by
  rw [b_or, b_or, b_or, bt_frm, bt_frm, bt_andn]
  by_cases hi : i < 32
  · rw [bt_bit hj hi]
    by_cases e : i = j
    · subst e; simp [h]
    · have : (j + 1 ≤ i) ↔ (j ≤ i) := by omega
      simp [e, this]
  · rw [b_big (x := x) (by omega), b_big (x := (1 : Int32) <<< (nI j &&& 31)) (by omega)]; simp)
theorem bel_yes {x : Int32} {j : Nat} (hj : j < 32) : bel (j + 1) (x &&& (((1 : Int32) <<< (nI j &&& 31)) ^^^ (-1))) = bel j x := bt_ext (fun i => by
  rw [bt_bel, bt_bel, bt_andn]
  by_cases hi : i < 32
  · rw [bt_bit hj hi]
    by_cases e : i = j
    · subst e; simp
    · have : (i < j + 1) ↔ (i < j) := by omega
      simp [e, this]
  · rw [b_big (x := x) (by omega)]; simp)
theorem or_bit_ne0 {y : Int32} {j : Nat} (hj : j < 32) : ¬ (y ||| ((1 : Int32) <<< (nI j &&& 31))) = 0 := bt_ne0.mpr ⟨j, by rw [b_or, bt_bit hj hj]; simp⟩
/-- bits of those of which something holds: the reference's loops -/
theorem or_loop {K : Nat} (hK : K ≤ 8) {f : Nat → Int32} {g : Nat → Nat} (hf : ∀ s, s < K → f s = nI (g s) ∧ g s < 10) {h : Nat} (hh : h < 10) : ∀ n j v, j ≤ K → K < j + n →
    ok_X12_pass_L19 (nI K) f (nI h) n v (nI j) ∧ ∀ i, bt (F_X12_pass_L19 (nI K) f (nI h) n v (nI j)) i = (bt v i || (decide (j ≤ i) && (decide (i < K) && (g i == h)))) := by
  intro n
  induction n with
  | zero => intro j v h1 h2; omega
  | succ n ih =>
    intro j v h1 h2
    rw [ok_X12_pass_L19_s, F_X12_pass_L19_s]
    by_cases hj : j = K
    · subst hj
      rw [if_pos (Int32.le_refl _)]
      refine ⟨fun q => absurd (Int32.le_refl _) q, fun i => ?_⟩
      by_cases h3 : j ≤ i
      · have : ¬ i < j := by omega
        simp [this]
      · simp [h3]
    · obtain ⟨e1, e2⟩ := hf j (by omega)
      rw [if_neg (nI_ge (by omega) (by omega)), nI_clamp (by omega), nI_1, e1]
      obtain ⟨g1, g2⟩ := ih (j + 1) (v ||| (if nI (g j) = nI h then (1 : Int32) <<< (nI j &&& 31) else 0)) (by omega) (by omega)
      refine ⟨fun _ => ⟨vp_in_nI (by omega) (by decide), g1⟩, fun i => ?_⟩
      rw [g2 i, b_or]
      by_cases hi : i < 32
      · by_cases he : g j = h
        · rw [if_pos (by rw [he]), bt_bit (by omega) hi]
          by_cases e : i = j
          · subst e
            have : i < K := by omega
            simp [he, this]
          · have : (j + 1 ≤ i) ↔ (j ≤ i) := by omega
            simp [e, this]
        · rw [if_neg (fun q => he ((nI_eq (by omega) (by omega)).mp q)), b_0]
          by_cases e : i = j
          · subst e
            have : (g i == h) = false := by simp [he]
            simp [this]
          · have : (j + 1 ≤ i) ↔ (j ≤ i) := by omega
            simp [this]
      · have : ¬ i < K := by omega
        rw [b_big (x := v) (by omega), b_big (by omega)]
        simp [this]
theorem cnt_loop {K : Nat} (hK : K ≤ 8) (o : Int32) : ∀ n j, j ≤ K → K < j + n → ok_X12_pass_L158 (nI K) o n (nI (pcn o j)) (nI j) ∧ F_X12_pass_L158 (nI K) o n (nI (pcn o j)) (nI j) = nI (pcn o K) := by
  intro n
  induction n with
  | zero => intro j h1 h2; omega
  | succ n ih =>
    intro j h1 h2
    rw [ok_X12_pass_L158_s, F_X12_pass_L158_s]
    by_cases hj : j = K
    · subst hj
      rw [if_pos (Int32.le_refl _)]
      exact ⟨fun q => absurd (Int32.le_refl _) q, rfl⟩
    · have e : nI (pcn o j) + ((o >>> (nI j &&& 31)) &&& 1) = nI (pcn o (j + 1)) := by
        rw [bt_tst (by omega), pcn]
        cases bt o j
        · show nI (pcn o j) + 0 = nI (pcn o j + 0)
          rw [Int32.add_zero]; rfl
        · exact nI_1 _
      rw [if_neg (nI_ge (by omega) (by omega)), nI_1, e]
      exact ⟨fun _ => (ih (j + 1) (by omega) (by omega)).1, (ih (j + 1) (by omega) (by omega)).2⟩
theorem last_loop (i v7 : Int32) : ∀ n j v, j ≤ 8 → j < n → ok_X12_pass_L285 i v7 n v (nI j - 1) ∧ F_X12_pass_L285 i v7 n v (nI j - 1) = oV v (lo (bt (i &&& v7)) 0 j) := by
  intro n
  induction n with
  | zero => intro j v h1 h2; omega
  | succ n ih =>
    intro j v h1 h2
    rw [ok_X12_pass_L285_s, F_X12_pass_L285_s]
    cases j with
    | zero =>
      rw [if_pos ((m1_lt 0 (by decide)).mpr rfl)]
      exact ⟨fun q => absurd ((m1_lt 0 (by decide)).mpr rfl) q, rfl⟩
    | succ j =>
      rw [nI_pred, if_neg (nI_pos (by omega)), nI_m1]
      refine ⟨fun _ => (ih j _ (by omega) (by omega)).1, ?_⟩
      rw [(ih j _ (by omega) (by omega)).2, lo_snoc, Nat.zero_add]
      cases lo (bt (i &&& v7)) 0 j with
      | some s => rfl
      | none =>
        show (if ((i &&& v7) &&& ((1 : Int32) <<< (nI j &&& 31))) = 0 then v else nI j) = oV v (if bt (i &&& v7) j = true then some j else none)
        cases hb : bt (i &&& v7) j with
        | false => rw [if_pos ((bit_eq0 (by omega)).mpr hb), if_neg (by decide)]; rfl
        | true => rw [if_neg (fun q => by rw [(bit_eq0 (by omega)).mp q] at hb; cases hb), if_pos rfl]; rfl
theorem fat_loop {K : Nat} (hK : K ≤ 8) {f : Nat → Int32} {g : Nat → Nat} (hf : ∀ s, s < K → f s = nI (g s) ∧ g s < 10) {h : Nat} (hh : h < 10) : ∀ n j v, j ≤ K → j < n → ok_X12_firstAt_L10 f (nI h) n v (nI j - 1) ∧ F_X12_firstAt_L10 f (nI h) n v (nI j - 1) = oV v (lo (fun s => g s == h) 0 j) := by
  intro n
  induction n with
  | zero => intro j v h1 h2; omega
  | succ n ih =>
    intro j v h1 h2
    rw [ok_X12_firstAt_L10_s, F_X12_firstAt_L10_s]
    cases j with
    | zero =>
      rw [if_pos ((m1_lt 0 (by decide)).mpr rfl)]
      exact ⟨fun q => absurd ((m1_lt 0 (by decide)).mpr rfl) q, rfl⟩
    | succ j =>
      rw [nI_pred, if_neg (nI_pos (by omega)), nI_m1, nI_clamp (by omega), (hf j (by omega)).1]
      refine ⟨fun _ => ⟨vp_in_nI (by omega) (by decide), (ih j _ (by omega) (by omega)).1⟩, ?_⟩
      rw [(ih j _ (by omega) (by omega)).2, lo_snoc, Nat.zero_add]
      cases lo (fun s => g s == h) 0 j with
      | some s => rfl
      | none =>
        show (if nI (g j) = nI h then nI j else v) = oV v (if (g j == h) = true then some j else none)
        have := (hf j (by omega)).2
        by_cases hb : g j = h
        · rw [if_pos (by rw [hb]), if_pos (by simp [hb])]; rfl
        · rw [if_neg (fun q => hb ((nI_eq (by omega) (by omega)).mp q)), if_neg (by simp [hb])]; rfl
section HY
variable {c : Cl} {se ow : Int32} {wh fr to th mi ri op sh ho : Nat → Int32}
theorem RY.fr10 (R : RY c se ow wh fr to th mi ri op sh ho) : ∀ s, s < kS c → fr s = nI (kF c s) ∧ kF c s < 10 := fun s hs => ⟨(R.2.2.2.1 s hs).2.1, by have := R.1.ss hs; omega⟩
theorem RY.to10 (R : RY c se ow wh fr to th mi ri op sh ho) : ∀ s, s < kS c → to s = nI (kT c s) ∧ kT c s < 10 := fun s hs => ⟨(R.2.2.2.1 s hs).2.2, by have := R.1.ss hs; omega⟩
theorem fat_Y (R : RY c se ow wh fr to th mi ri op sh ho) {h : Nat} (hh : h < 10) : ok_X12_firstAt se fr (nI h) ∧ F_X12_firstAt se fr (nI h) = oI (fa c h) := by
  have hS := R.1.s8
  have h' := fat_loop hS R.fr10 hh FU (kS c) (-9) (Nat.le_refl _) (by have := FU_ge; omega)
  rw [oI_V] at h'
  rw [R.2.1]
  exact h'
theorem isOpen_Y (R : RY c se ow wh fr to th mi ri op sh ho) {h k : Nat} (hh : h < 10) (hk : k < 4) : F_X12_isOpen th op sh (nI k) (nI h) = bI (opn c h k) := by
  obtain ⟨w, -, -, -, hp, -⟩ := R
  unfold F_X12_isOpen
  obtain ⟨e1, e2⟩ := hp k hk
  rw [nI_clamp (by omega), e1]
  cases hP : kP c k with
  | false => rw [if_pos bI_f, show opn c h k = false by unfold opn; simp [hP]]; rfl
  | true =>
    obtain ⟨-, -, e3, e4⟩ := e2 hP
    have hb := w.pp hk
    rw [if_neg (by decide), e3, e4, in_nI (by omega) (by omega) (by omega), show opn c h k = (decide (kO c k ≤ h) && decide (h ≤ kU c k)) by unfold opn; simp [hk, hP]]
    cases (decide (kO c k ≤ h) && decide (h ≤ kU c k)) <;> rfl
theorem ok_isOpen_Y {k : Nat} (hk : k < 4) : ok_X12_isOpen th (nI k) := by
  have := vp_in_nI (N := 4) hk (by decide)
  exact ⟨this, fun _ => ⟨this, this⟩⟩
theorem comes_Y (R : RY c se ow wh fr to th mi ri op sh ho) {h k s : Nat} (hh : h < 10) (hk : k < 2 ^ 31) (hs : s < kS c) (i w : Int32) :
    ok_X12_comes ow (nI k) i wh th op sh (nI s) (nI h) ∧ F_X12_comes ow (nI k) i w wh th mi op sh (nI s) (nI h) = if i = 0 then (if lets c h k s = true then (1, nI (opd c k s).1, w + nI (opd c k s).2) else (0, nI k, w)) else (1, nI k, w) := by
  have R' := R
  obtain ⟨wf, -, rfl, hss, hp, -⟩ := R'
  have hS := wf.s8
  have hw := (wf.ss hs).1
  have h6 := wf.n6
  have hv : vp_in (nI s) 8 := vp_in_nI (by omega) (by decide)
  unfold ok_X12_comes F_X12_comes
  rw [nI_clamp (by omega), (hss s hs).1, tst_if1 (by omega), bt_nI (by omega), show (10 : Int32) + nI (kW c s) = nI (10 + kW c s) from nI_add 10 _, nI_clamp hk]
  have hlit : (4 : Int32) ≤ nI k ↔ 4 ≤ k := nI_leI (a := 4) (by decide) hk
  constructor
  · refine fun _ => ⟨hv, fun _ => ⟨hv, fun _ q => ?_⟩⟩
    have h4 : k < 4 := by
      rw [hlit] at q; omega
    exact ⟨ok_isOpen_Y h4, fun _ => vp_in_nI h4 (by decide)⟩
  · by_cases h0 : i = 0
    · rw [if_pos h0, if_pos h0]
      unfold opd lets own
      cases how : (kK c).testBit (kW c s) with
      | true => rw [if_pos rfl, if_pos (by simp), if_pos rfl, nI_0, Int32.add_zero]
      | false =>
        rw [if_neg nft, if_neg nft, Bool.false_or]
        by_cases h10 : k = 10 + kW c s
        · rw [if_pos (by rw [h10]), if_pos (by simp [h10]), if_pos h10, nI_0, Int32.add_zero]; rfl
        · rw [if_neg (fun q => h10 ((nI_eq hk (by omega)).mp q)), if_neg h10]
          by_cases h4 : k < 4
          · rw [if_neg (by rw [hlit]; omega), isOpen_Y R hh h4]
            cases ho' : opn c h k with
            | false => rw [if_pos bI_f, if_neg (by simp [h10])]
            | true =>
              obtain ⟨q1, q2, -, -⟩ := opn_true.mp ho'
              rw [if_neg (by decide), if_pos (by simp), ((hp k q1).2 q2).1]
              rfl
          · have : opn c h k = false := by unfold opn; simp [h4]
            rw [if_pos (by rw [hlit]; omega), if_neg (by simp [this, h10])]
    · rw [if_neg h0, if_neg h0]
/-- one round of those before the door, when somebody is inside -/
theorem in_loop (R : RY c se ow wh fr to th mi ri op sh ho) {h k : Nat} (hh : h < 10) (hk : k < 2 ^ 31) (w : Int32) : ∀ n j i v v5, j ≤ kS c → kS c < j + n → ¬ i = 0 → Sb c v →
    ok_X12_pass_L61_72 se ow wh th mi op sh (nI h) n (nI k) i w v v5 (nI j) ∧ F_X12_pass_L61_72 se ow wh th mi op sh (nI h) n (nI k) i w v v5 (nI j) = (nI k, i ||| frm j v, w, bel j v, if frm j v = 0 then v5 else 1) := by
  have hS := R.1.s8
  have hse : se = nI (kS c) := R.2.1
  intro n
  induction n with
  | zero => intro j i v v5 h1 h2; omega
  | succ n ih =>
    intro j i v v5 h1 h2 hi hv
    rw [ok_X12_pass_L61_72_s, F_X12_pass_L61_72_s, hse]
    by_cases hj : j = kS c
    · subst hj
      rw [if_pos (Int32.le_refl _), frm_top hv, bel_top hv, if_pos rfl]
      refine ⟨fun q => absurd (Int32.le_refl _) q, ?_⟩
      rw [show i ||| (0 : Int32) = i from bt_ext (fun t => by rw [b_or, b_0]; simp)]
    · rw [if_neg (nI_ge (by omega) (by omega)), tst_if1 (by omega)]
      obtain ⟨c1, c2⟩ := comes_Y R hh hk (s := j) (by omega) i w
      rw [c2, if_neg hi]
      dsimp only
      unfold ok_X12_pass_61_72_b99 F_X12_pass_61_72_b99
      rw [nI_1]
      cases hb : bt v j with
      | false =>
        obtain ⟨g1, g2⟩ := ih (j + 1) i v v5 (by omega) (by omega) hi hv
        rw [← hse, g2, frm_no hb, bel_no hb, if_neg (by decide)]
        exact ⟨fun _ => ⟨fun q => absurd ((bt_t1 (by omega)).mp q) (by rw [hb]; decide), fun _ => g1⟩, rfl⟩
      | true =>
        obtain ⟨g1, g2⟩ := ih (j + 1) (i ||| ((1 : Int32) <<< (nI j &&& 31))) (v &&& (((1 : Int32) <<< (nI j &&& 31)) ^^^ (-1))) 1 (by omega) (by omega) (or_bit_ne0 (by omega)) (Sb_andn hv)
        rw [← hse, if_pos rfl, if_neg (by decide), g2, frm_yes (by omega) hb, bel_yes (by omega)]
        have hne : ¬ frm j v = 0 := bt_ne0.mpr ⟨j, by rw [bt_frm, hb]; simp⟩
        rw [if_neg hne, ite_self]
        exact ⟨fun _ => ⟨fun _ => ⟨c1, fun q => absurd q (by decide), fun _ => g1⟩, fun q => absurd ((bt_t1 (by omega)).mpr hb) q⟩, rfl⟩
/-- the same, when nobody is -/
theorem out_loop (R : RY c se ow wh fr to th mi ri op sh ho) {h k : Nat} (hh : h < 10) (hk : k < 2 ^ 31) (hk2 : k < 100) (w : Int32) {i : Int32} (hi : i = 0) {v : Int32} (hv : Sb c v) (v5 : Int32) : ∀ n j, j ≤ kS c → kS c < j + n →
    ok_X12_pass_L61_72 se ow wh th mi op sh (nI h) n (nI k) i w v v5 (nI j) ∧ F_X12_pass_L61_72 se ow wh th mi op sh (nI h) n (nI k) i w v v5 (nI j) = (match lo (fun s => bt v s && lets c h k s) j (kS c - j) with
      | none => (nI k, i, w, v, v5)
      | some s => (nI (opd c k s).1, i ||| frm s v, w + nI (opd c k s).2, bel s v, 1)) := by
  have hS := R.1.s8
  have hse : se = nI (kS c) := R.2.1
  intro n
  induction n with
  | zero => intro j h1 h2; omega
  | succ n ih =>
    intro j h1 h2
    rw [ok_X12_pass_L61_72_s, F_X12_pass_L61_72_s, hse]
    by_cases hj : j = kS c
    · subst hj
      rw [if_pos (Int32.le_refl _), lo_end]
      exact ⟨fun q => absurd (Int32.le_refl _) q, rfl⟩
    · rw [if_neg (nI_ge (by omega) (by omega)), tst_if1 (by omega), lo_at (by omega)]
      obtain ⟨c1, c2⟩ := comes_Y R hh hk (s := j) (by omega) i w
      obtain ⟨g1, g2⟩ := ih (j + 1) (by omega) (by omega)
      rw [c2, if_pos hi, ← hse, nI_1, g2]
      cases hb : bt v j with
      | false =>
        rw [if_neg nft, Bool.false_and, if_neg nft]
        exact ⟨fun _ => ⟨fun q => absurd ((bt_t1 (by omega)).mp q) (by rw [hb]; decide), fun _ => g1⟩, rfl⟩
      | true =>
        rw [if_pos rfl, Bool.true_and]
        cases hl : lets c h k j with
        | false =>
          rw [if_neg (by decide), if_neg (by decide)]
          dsimp only
          unfold ok_X12_pass_61_72_b99 F_X12_pass_61_72_b99
          rw [if_pos rfl, nI_1, g2]
          exact ⟨fun _ => ⟨fun _ => ⟨c1, fun _ => g1, fun q => absurd rfl q⟩, fun q => absurd ((bt_t1 (by omega)).mpr hb) q⟩, rfl⟩
        | true =>
          rw [if_pos rfl, if_pos rfl]
          dsimp only
          unfold ok_X12_pass_61_72_b99 F_X12_pass_61_72_b99
          have hk' : (opd c k j).1 < 2 ^ 31 := by
            unfold opd
            by_cases q1 : own c (kW c j) = true
            · rw [if_pos q1]; exact hk
            · rw [if_neg q1]
              by_cases q2 : k = 10 + kW c j
              · rw [if_pos q2]; exact b31
              · rw [if_neg q2]; exact b31
          obtain ⟨f1, f2⟩ := in_loop R hh hk' (w + nI (opd c k j).2) n (j + 1) (i ||| ((1 : Int32) <<< (nI j &&& 31))) (v &&& (((1 : Int32) <<< (nI j &&& 31)) ^^^ (-1))) 1 (by omega) (by omega) (or_bit_ne0 (by omega)) (Sb_andn hv)
          rw [if_neg (by decide), nI_1, f2, frm_yes (by omega) hb, bel_yes (by omega), ite_self]
          exact ⟨fun _ => ⟨fun _ => ⟨c1, fun q => absurd q (by decide), fun _ => f1⟩, fun q => absurd ((bt_t1 (by omega)).mpr hb) q⟩, rfl⟩
theorem or_zero (x : Int32) : x ||| (0 : Int32) = x := bt_ext (fun t => by rw [b_or, b_0]; simp)
/-- rounds till none more comes in -/
theorem in_rounds (R : RY c se ow wh fr to th mi ri op sh ho) {h k : Nat} (hh : h < 10) (hk : k < 2 ^ 31) (w : Int32) {i v : Int32} (hi : ¬ i = 0) (hv : Sb c v) (n : Nat) :
    ok_X12_pass_L61 se ow wh th mi op sh (nI h) (n + 3) (nI k) i w v 1 ∧ F_X12_pass_L61 se ow wh th mi op sh (nI h) (n + 3) (nI k) i w v 1 = (nI k, i ||| v, w, 0) := by
  have hS := R.1.s8
  have hF := FU_ge
  obtain ⟨f1, f2⟩ := in_loop R hh hk w FU 0 i v 0 (Nat.zero_le _) (by omega) hi hv
  rw [nI_0, frm_0, bel_0] at f2
  rw [nI_0] at f1
  have hi2 : ¬ (i ||| v) = 0 := by
    obtain ⟨s, hs⟩ := bt_ne0.mp hi
    exact bt_ne0.mpr ⟨s, by rw [b_or, hs]; rfl⟩
  obtain ⟨e1, e2⟩ := in_loop R hh hk w FU 0 (i ||| v) 0 0 (Nat.zero_le _) (by omega) hi2 (Sb_0 c)
  rw [nI_0, frm_0, bel_0, if_pos rfl, or_zero] at e2
  rw [nI_0] at e1
  rw [ok_X12_pass_L61_s, F_X12_pass_L61_s, f2, if_neg i10]
  dsimp only
  unfold ok_X12_pass_61_b135 F_X12_pass_61_b135
  by_cases h0 : v = 0
  · rw [if_pos h0, ok_X12_pass_L61_s, F_X12_pass_L61_s, if_pos rfl]
    exact ⟨fun _ => ⟨f1, fun q => absurd rfl q⟩, rfl⟩
  · rw [if_neg h0, ok_X12_pass_L61_s, F_X12_pass_L61_s, if_neg i10, e2]
    dsimp only
    unfold ok_X12_pass_61_b135 F_X12_pass_61_b135
    rw [ok_X12_pass_L61_s, F_X12_pass_L61_s, if_pos rfl]
    exact ⟨fun _ => ⟨f1, fun _ => ⟨e1, fun q => absurd rfl q⟩⟩, rfl⟩
theorem rounds_Y (R : RY c se ow wh fr to th mi ri op sh ho) {h k : Nat} (hh : h < 10) (hk2 : k < 100) (w i : Int32) {v : Int32} (hv : Sb c v) :
    ok_X12_pass_L61 se ow wh th mi op sh (nI h) FU (nI k) i w v 1 ∧ F_X12_pass_L61 se ow wh th mi op sh (nI h) FU (nI k) i w v 1 = (nI (cin c h k i v).1, (cin c h k i v).2.1, w + nI (cin c h k i v).2.2.2, (cin c h k i v).2.2.1) := by
  have hS := R.1.s8
  have hF := FU_ge
  have hk : k < 2 ^ 31 := by omega
  obtain ⟨m, hm⟩ : ∃ m, FU = m + 3 + 1 := ⟨FU - 4, by omega⟩
  unfold cin
  by_cases h0 : i = 0
  · rw [if_pos h0]
    obtain ⟨f1, f2⟩ := out_loop R hh hk hk2 w h0 hv 0 FU 0 (Nat.zero_le _) (by omega)
    rw [nI_0, Nat.sub_zero] at f2
    rw [nI_0] at f1
    have hx : F_X12_pass_L61 se ow wh th mi op sh (nI h) FU (nI k) i w v 1 = F_X12_pass_L61 se ow wh th mi op sh (nI h) (m + 3 + 1) (nI k) i w v 1 := by rw [← hm]
    have hy : ok_X12_pass_L61 se ow wh th mi op sh (nI h) FU (nI k) i w v 1 ↔ ok_X12_pass_L61 se ow wh th mi op sh (nI h) (m + 3 + 1) (nI k) i w v 1 := by rw [← hm]
    rw [hx, hy, ok_X12_pass_L61_s, F_X12_pass_L61_s, f2, if_neg i10]
    have hopr : opr c h k v = lo (fun s => bt v s && lets c h k s) 0 (kS c) := rfl
    rw [← hopr]
    cases e : opr c h k v with
    | none =>
      dsimp only
      unfold ok_X12_pass_61_b135 F_X12_pass_61_b135
      rw [ok_X12_pass_L61_s, F_X12_pass_L61_s, if_pos rfl, nI_0, Int32.add_zero]
      exact ⟨fun _ => ⟨f1, fun q => absurd rfl q⟩, rfl⟩
    | some s =>
      obtain ⟨q1, q2, -⟩ := opr_some e
      dsimp only
      unfold ok_X12_pass_61_b135 F_X12_pass_61_b135
      have hk' : (opd c k s).1 < 2 ^ 31 := by
        unfold opd
        by_cases q1 : own c (kW c s) = true
        · rw [if_pos q1]; exact hk
        · rw [if_neg q1]
          by_cases q2 : k = 10 + kW c s
          · rw [if_pos q2]; exact b31
          · rw [if_neg q2]; exact b31
      have hne : ¬ (i ||| frm s v) = 0 := bt_ne0.mpr ⟨s, by rw [b_or, bt_frm, q2]; simp⟩
      have hsb : Sb c (bel s v) := fun t ht => by
        rw [bt_bel, Bool.and_eq_true] at ht
        exact hv t ht.2
      obtain ⟨g1, g2⟩ := in_rounds R hh hk' (w + nI (opd c k s).2) hne hsb m
      rw [g2]
      refine ⟨fun _ => ⟨f1, g1⟩, ?_⟩
      rw [show (i ||| frm s v) ||| bel s v = i ||| v from bt_ext (fun t => by
        rw [b_or, b_or, b_or, bt_frm, bt_bel]
        by_cases q : s ≤ t
        · have : ¬ t < s := by omega
          simp [q, this]
        · have : t < s := by omega
          simp [q, this])]
  · rw [if_neg h0]
    have := in_rounds R hh hk w h0 hv (m + 1)
    rw [show m + 1 + 3 = FU by omega] at this
    dsimp only
    rw [nI_0, Int32.add_zero]
    exact this
theorem lv_loop (R : RY c se ow wh fr to th mi ri op sh ho) {h : Nat} (hh : h < 10) : ∀ n j, 1 ≤ j → j ≤ 11 → 11 < j + n → ok_X12_leave_L98 se fr (nI h) n (-9) (nI j) ∧ F_X12_leave_L98 se fr (nI h) n (-9) (nI j) = oI (nxs c h j (11 - j)) := by
  have hS := R.1.s8
  intro n
  induction n with
  | zero => intro j h1 h2 h3; omega
  | succ n ih =>
    intro j h1 h2 h3
    rw [ok_X12_leave_L98_s, F_X12_leave_L98_s]
    by_cases hj : j = 11
    · subst hj
      rw [if_pos (by decide)]
      exact ⟨fun q => absurd (by decide) q, rfl⟩
    · obtain ⟨f1, f2⟩ := fat_Y R (h := (h + j) % 10) (Nat.mod_lt _ (by decide))
      rw [if_neg (show ¬ (10 : Int32) < nI j from nI_nlt (a := 10) (by omega) (by decide)), if_pos rfl, nI_add, rem10 (by omega), f2, nI_1, show 11 - j = (11 - (j + 1)) + 1 by omega, nxs]
      cases e : fa c ((h + j) % 10) with
      | none =>
        obtain ⟨g1, g2⟩ := ih (j + 1) (by omega) (by omega) (by omega)
        exact ⟨fun _ _ => ⟨f1, g1⟩, g2⟩
      | some s =>
        have hs := (fa_some e).1
        have hne : ¬ nI s = (-9 : Int32) := by
          have key : ∀ n, n < 8 → ¬ nI n = (-9 : Int32) := by decide
          exact key s (by omega)
        cases n with
        | zero => omega
        | succ n =>
          show (_ → _ → _ ∧ ok_X12_leave_L98 se fr (nI h) (n + 1) (nI s) (nI (j + 1))) ∧ F_X12_leave_L98 se fr (nI h) (n + 1) (nI s) (nI (j + 1)) = nI s
          rw [ok_X12_leave_L98_s, F_X12_leave_L98_s, if_neg hne, ite_self]
          exact ⟨fun _ _ => ⟨f1, fun _ q => absurd q hne⟩, rfl⟩
theorem leave_Y (R : RY c se ow wh fr to th mi ri op sh ho) {h a s : Nat} (hh : h < 10) (ha : a ≤ 5) (hs : s < kS c) (w f : Int32) (fg : Bool) (hf : fg = decide (¬ f = 0)) :
    ok_X12_leave se wh fr th op sh (nI s) (nI h) (nI a) f ∧ F_X12_leave se w wh fr th mi op sh ho (nI s) (nI h) (nI a) f = (nI (lv c h a fg s).1, w + nI (lv c h a fg s).2, 1, bI (may c h a)) := by
  have R' := R
  obtain ⟨wf, -, -, hss, hp, hho⟩ := R'
  have hS := wf.s8
  have h6 := wf.n6
  have h4 : (4 : Int32) ≤ nI a ↔ 4 ≤ a := nI_leI (a := 4) (by decide) (by omega)
  have h5 : nI a = (5 : Int32) ↔ a = 5 := eq_lit (K := 5) 5 rfl (by omega) (by decide)
  have hv5 : (if nI a = (5 : Int32) then (1 : Int32) else (if (4 : Int32) ≤ nI a then (0 : Int32) else (if (F_X12_isOpen th op sh (nI a) (nI h)) = (0 : Int32) then (0 : Int32) else (1 : Int32)))) = bI (may c h a) := by
    by_cases q5 : a = 5
    · rw [if_pos (h5.mpr q5)]
      unfold may
      simp [q5, bI]
    · rw [if_neg (fun q => q5 (h5.mp q)), show may c h a = opn c h a by unfold may; simp [q5]]
      by_cases q4 : a < 4
      · rw [if_neg (fun q => by have := h4.mp q; omega), isOpen_Y R hh q4]
        cases opn c h a <;> rfl
      · rw [if_pos (h4.mpr (by omega)), show opn c h a = false by unfold opn; simp [q4]]
        rfl
  have hvs : vp_in (nI s) 8 := vp_in_nI (by omega) (by decide)
  obtain ⟨l1, l2⟩ := lv_loop R hh FU 1 (Nat.le_refl _) (by decide) (by have := FU_ge; omega)
  obtain ⟨t, et, ht⟩ := nx_some wf (h := h) hs
  have e2 : nxs c h 1 (11 - 1) = some t := et
  rw [e2] at l2
  have hwt := (wf.ss ht).1
  have l2' : F_X12_leave_L98 se fr (nI h) FU (-9) 1 = nI t := l2
  have l1' : ok_X12_leave_L98 se fr (nI h) FU (-9) 1 := l1
  unfold ok_X12_leave F_X12_leave
  rw [hv5]
  dsimp only
  unfold ok_X12_leave_b31 F_X12_leave_b31 ok_X12_leave_b47 F_X12_leave_b47
  rw [l2']
  dsimp only
  unfold ok_X12_leave_b131 F_X12_leave_b131
  rw [nI_clamp (by omega : s < 2 ^ 31), nI_clamp (by omega : t < 2 ^ 31), nI_clamp (by omega : a < 2 ^ 31), (hss s hs).1, (hss t ht).1, nI_clamp (by omega : kW c t < 2 ^ 31), hho _ hwt, show (10 : Int32) + nI (kW c s) = nI (10 + kW c s) from nI_add 10 _, show (10 : Int32) + nI (kW c t) = nI (10 + kW c t) from nI_add 10 _]
  constructor
  · refine ⟨fun _ q => ok_isOpen_Y (by rw [h4] at q; omega), isB_bI _, fun _ => hvs, fun q => ⟨fun _ => ⟨fun _ => ⟨l1', vp_in_nI (by omega) (by decide), vp_in_nI (by omega) (by decide), vp_in_nI (by omega) (by decide)⟩, fun q => vp_in_nI (by rw [h4] at q; omega) (by decide)⟩, fun _ => hvs⟩⟩
  · unfold lv
    cases hm : may c h a with
    | false =>
      rw [if_pos bI_f, Bool.false_and, if_neg nft, nI_0, Int32.add_zero]
    | true =>
      rw [if_neg bI_tn, Bool.true_and]
      by_cases h0 : f = 0
      · have hfg : fg = false := by rw [hf, h0]; rfl
        rw [if_pos h0, hfg, if_pos (show (!false) = true from rfl)]
        by_cases q5 : a = 5
        · rw [if_pos (h4.mpr (by omega)), if_pos q5, et]
        · have hop : opn c h a = true := by
            unfold may at hm
            simpa [q5] using hm
          obtain ⟨p1, p2, -, -⟩ := opn_true.mp hop
          rw [if_neg (fun q => by have := h4.mp q; omega), if_neg q5, ((hp a p1).2 p2).1]
      · have hfg : fg = true := by rw [hf]; simp [h0]
        rw [if_neg h0, hfg, if_neg (show ¬ (!true) = true by decide), nI_0, Int32.add_zero]
theorem b320_Y (R : RY c se ow wh fr to th mi ri op sh ho) {h a k : Nat} (hh : h < 10) (ha : a ≤ 5) {i o : Int32} (hk : Bg c k ∨ (k = 20 ∧ ¬ i = 0)) (hi : Sb c i) (w r st sg v6 f : Int32) (fg : Bool) (hf : fg = decide (¬ f = 0)) :
    ok_X12_pass_b320 se wh fr th op sh (nI h) (nI a) f (nI k) i (fin c h) (oI (lo (bt (i &&& fin c h)) 0 (kS c))) ∧ F_X12_pass_b320 se wh fr th mi op sh ho (nI h) (nI a) f (nI k) i o w r st 0 sg 0 v6 (fin c h) (oI (lo (bt (i &&& fin c h)) 0 (kS c))) =
      (v6, nI (hq c h a fg k i).1, i &&& (fin c h ^^^ (-1)), o &&& (fin c h ^^^ (-1)), w + nI (hq c h a fg k i).2.1, r, st, bI (hq c h a fg k i).2.2.1, sg, bI (hq c h a fg k i).2.2.2) := by
  have wf := R.1
  have hN6 := wf.n6
  have hS := wf.s8
  have hk31 : k < 2 ^ 31 := by
    rcases hk with (⟨q, -⟩ | ⟨-, q⟩) | ⟨q, -⟩ <;> omega
  obtain ⟨f1, f2⟩ := fat_Y R (h := (h + 1) % 10) (Nat.mod_lt _ (by decide))
  have key : ∀ n, n < 8 → ¬ nI n = (-9 : Int32) := by decide
  unfold ok_X12_pass_b320 F_X12_pass_b320
  rw [nI_1, rem10 (by omega), f2]
  unfold hq
  by_cases hA : k = 20 ∧ i &&& (fin c h ^^^ (-1)) = 0
  · have h0 : ¬ i = 0 := by
      rcases hk with hk | ⟨-, hk⟩
      · exfalso
        rcases hk with ⟨q, -⟩ | ⟨-, q⟩ <;> omega
      · exact hk
    obtain ⟨s, es, hs⟩ := went_some wf hi h0 hA.2
    obtain ⟨k1, k2⟩ := leave_Y R hh ha hs w f fg hf
    rw [if_pos ((eq_lit (K := 20) 20 rfl hk31 (by decide)).mpr hA.1), if_pos hA.2, if_pos hA, es]
    have eo : oI (some s) = nI s := rfl
    rw [eo, k2]
    dsimp only
    unfold F_X12_pass_b407
    cases e : fa c ((h + 1) % 10) with
    | none =>
      have en : oI none = -9 := rfl
      rw [en, if_pos rfl]
      exact ⟨fun _ _ => ⟨f1, fun _ => k1, fun q => absurd rfl q⟩, rfl⟩
    | some t =>
      have ht := (fa_some e).1
      have en : oI (some t) = nI t := rfl
      rw [en, if_neg (key t (by omega)), nI_clamp (by omega), (R.2.2.2.1 t ht).1, show (10 : Int32) + nI (kW c t) = nI (10 + kW c t) from nI_add 10 _]
      refine ⟨fun _ _ => ⟨f1, fun q => absurd q (key t (by omega)), fun _ => vp_in_nI (by omega) (by decide)⟩, ?_⟩
      show (_, _, _, _, w, _) = (_, _, _, _, w + nI 0, _)
      rw [nI_0, Int32.add_zero]
      rfl
  · rw [if_neg hA]
    dsimp only
    rw [nI_0, Int32.add_zero]
    by_cases h1 : k = 20
    · have h2 : ¬ i &&& (fin c h ^^^ (-1)) = 0 := fun q => hA ⟨h1, q⟩
      rw [if_neg h2, ite_self]
      exact ⟨fun _ q => absurd q h2, rfl⟩
    · have h2 : ¬ nI k = (20 : Int32) := fun q => h1 ((eq_lit (K := 20) 20 rfl hk31 (by decide)).mp q)
      rw [if_neg h2]
      exact ⟨fun q => absurd q h2, rfl⟩
theorem b138_Y (R : RY c se ow wh fr to th mi ri op sh ho) {h a k : Nat} (hh : h < 10) (ha : a ≤ 5) {i o : Int32} (hk : Bg c k ∨ (k = 20 ∧ ¬ i = 0)) (hi : Sb c i) (hoo : Sb c o) (w r st f : Int32) (fg : Bool) (hf : fg = decide (¬ f = 0)) :
    ok_X12_pass_b138 se wh fr to th op sh (nI h) (nI a) f (nI k) i o ∧ F_X12_pass_b138 se wh fr to th mi ri op sh ho (nI h) (nI a) f (nI k) i w r st 0 0 o =
      (nI (pcn o 8), nI (hq c h a fg k i).1, i &&& (fin c h ^^^ (-1)), o &&& (fin c h ^^^ (-1)), w + nI (hq c h a fg k i).2.1, r + nI (if k < 4 then kR c k else 0), st + nI (pcn o 8), bI (hq c h a fg k i).2.2.1, o, bI (hq c h a fg k i).2.2.2) := by
  have wf := R.1
  have hN6 := wf.n6
  have hS := wf.s8
  have hF := FU_ge
  have hse : se = nI (kS c) := R.2.1
  have hk31 : k < 2 ^ 31 := by
    rcases hk with (⟨q, -⟩ | ⟨-, q⟩) | ⟨q, -⟩ <;> omega
  have h4 : (4 : Int32) ≤ nI k ↔ 4 ≤ k := nI_leI (a := 4) (by decide) hk31
  obtain ⟨n1, n2⟩ := cnt_loop hS o FU 0 (Nat.zero_le _) (by omega)
  rw [show nI (pcn o 0) = 0 from rfl, nI_0, ← hse] at n1 n2
  obtain ⟨w1, w2⟩ := or_loop hS R.to10 hh FU 0 0 (Nat.zero_le _) (by omega)
  rw [nI_0, ← hse] at w1 w2
  have w3 : F_X12_pass_L234 se to (nI h) FU 0 0 = fin c h := bt_ext (fun t => by
    rw [bt_fin wf]
    refine (w2 t).trans ?_
    rw [b_0]
    simp)
  have w1' : ok_X12_pass_L234 se to (nI h) FU 0 0 := w1
  obtain ⟨s1, s2⟩ := last_loop i (fin c h) FU (kS c) (-9) hS (by omega)
  rw [← hse, oI_V] at s2
  rw [← hse] at s1
  have hr : (if (4 : Int32) ≤ nI k then (0 : Int32) else ri k) = nI (if k < 4 then kR c k else 0) := by
    by_cases q4 : k < 4
    · have hP : kP c k = true := by
        rcases hk with (⟨-, q⟩ | ⟨q, -⟩) | ⟨q, -⟩
        · exact q
        · omega
        · omega
      rw [if_neg (fun q => by have := h4.mp q; omega), if_pos q4, ((R.2.2.2.2.1 k q4).2 hP).2.1]
    · rw [if_pos (h4.mpr (by omega)), if_neg q4]; rfl
  obtain ⟨p1, p2⟩ := b320_Y (o := o) R hh ha hk hi w (r + nI (if k < 4 then kR c k else 0)) (st + nI (pcn o (kS c))) o (nI (pcn o (kS c))) f fg hf
  unfold ok_X12_pass_b138 F_X12_pass_b138
  rw [n2]
  dsimp only
  unfold ok_X12_pass_b187 F_X12_pass_b187
  rw [w3]
  dsimp only
  unfold ok_X12_pass_b273 F_X12_pass_b273
  rw [s2, nI_clamp hk31, hr]
  dsimp only
  rw [p2, pcn_ext hoo 8 hS]
  exact ⟨⟨n1, fun q => vp_in_nI (by rw [h4] at q; omega) (by decide), w1', s1, p1⟩, rfl⟩
/-- an hour -/
theorem ps_Y (R : RY c se ow wh fr to th mi ri op sh ho) {h a : Nat} (hh : h < 10) (ha : a ≤ 5) {z : Zt} (hz : ZI c z) (w r st f : Int32) (fg : Bool) (hf : fg = decide (¬ f = 0)) :
    ok_X12_pass se ow (nI z.1) z.2.1 z.2.2 w wh fr to th mi op sh (nI h) (nI a) f ∧ F_X12_pass se ow (nI z.1) z.2.1 z.2.2 w r st wh fr to th mi ri op sh ho (nI h) (nI a) f =
      (nI (zn c h z), nI (zN c h a fg z).1, (zN c h a fg z).2.1, (zN c h a fg z).2.2, w + nI (zw c h a fg z), r + nI (zr c h z), st + nI (zn c h z), bI (za c h a fg z), zS c h z, bI (zm c h a fg z)) := by
  have wf := R.1
  have hN6 := wf.n6
  have hS := wf.s8
  have hF := FU_ge
  have hse : se = nI (kS c) := R.2.1
  have hk100 : z.1 < 100 := by
    obtain ⟨hk, -, -⟩ := hz
    rcases hk with (⟨q, -⟩ | ⟨-, q⟩) | ⟨q, -⟩ <;> omega
  obtain ⟨gk, gi, go⟩ := cin_ZI wf (h := h) hz
  obtain ⟨b1, b2⟩ := b138_Y R hh ha gk gi go (w + nI (zc c h z).2.2.2) r st f fg hf
  obtain ⟨w1, w2⟩ := or_loop hS R.fr10 hh FU 0 z.2.2 (Nat.zero_le _) (by omega)
  rw [nI_0, ← hse] at w1 w2
  have w3 : F_X12_pass_L19 se fr (nI h) FU z.2.2 0 = z.2.2 ||| beg c h := bt_ext (fun t => by
    rw [w2 t, b_or, bt_beg wf]
    simp)
  obtain ⟨r1, r2⟩ := rounds_Y R hh hk100 w z.2.1 (Sb_or hz.2.2 (Sb_beg wf h))
  unfold ok_X12_pass F_X12_pass
  rw [w3]
  dsimp only
  unfold ok_X12_pass_b58 F_X12_pass_b58
  rw [r2]
  dsimp only
  unfold zN zw zr zn zS za zm zq
  rw [← nI_add, ← Int32.add_assoc]
  unfold zc at *
  rw [b2]
  exact ⟨⟨w1, r1, b1⟩, rfl⟩
end HY

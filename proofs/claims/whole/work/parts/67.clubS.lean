/-! a club as a text: the middle -/
def sC (c : Cl) (f i v : Nat) : Cl := fun g j => if g = f ∧ j = i then v else c g j
theorem sC_eq (c : Cl) (f i v : Nat) : sC c f i v f i = v := if_pos ⟨rfl, rfl⟩
theorem sC_ne {c : Cl} {f i v g j : Nat} (h : ¬ g = f) : sC c f i v g j = c g j := if_neg (fun q => h q.1)
theorem sC_nj {c : Cl} {f i v g j : Nat} (h : ¬ j = i) : sC c f i v g j = c g j := if_neg (fun q => h q.2)
theorem sC_at (c : Cl) (f i v j : Nat) : sC c f i v f j = if j = i then v else c f j := by
  by_cases q : j = i
  · rw [if_pos q, q, sC_eq]
  · rw [if_neg q, sC_nj q]
/-- who rows at an hour; who has time -/
def bsy (c : Cl) (i h : Nat) : Bool := (lo (fun s => (kW c s == i) && (decide (kF c s ≤ h) && decide (h ≤ kT c s))) 0 (kS c)).isSome
def hasT (c : Cl) (i : Nat) : Bool := (lo (fun h => !bsy c i h) 0 10).isSome
def t13 (c : Cl) (p : Nat) : Bool := c 13 p == 1
def t14 (c : Cl) (i : Nat) : Bool := c 14 i == 1
def anyH (c : Cl) : Bool := (lo (fun i => !t14 c i) 0 (kN c)).isSome
def anyO (c : Cl) : Bool := (lo (fun p => kP c p && !t13 c p) 0 4).isSome
def anyP (c : Cl) : Bool := (lo (fun p => !kP c p) 0 4).isSome
def anyR (c : Cl) : Bool := (lo (hasT c) 0 (kN c)).isSome
def okL (c : Cl) (b : Nat) : Bool := if kN c = 0 then b == 78 else if b = 70 then kG c == 0 else if b = 72 then anyH c else if b = 79 then anyO c else if b = 80 then anyP c else if b = 82 then decide (kS c < 8) && anyR c else false
def rgt (l g o t : Nat) (c : Cl) (f : Nat) : Bool :=
  if l = 72 then (if g = 0 then decide (f < kN c) && !t14 c f else true)
  else if l = 78 then decide (1 ≤ f) && decide (f ≤ 6)
  else if l = 79 then (if g = 0 then decide (f < 4) && (kP c f && !t13 c f) else if g = 1 then true else decide (t ≤ f))
  else if l = 80 then (if g = 0 then decide (f < 4) && !kP c f else true)
  else if l = 82 then (if g = 0 then decide (f < kN c) && hasT c f else if g = 1 then !bsy c o f else decide (t ≤ f) && (lo (bsy c o) t (f + 1 - t)).isNone)
  else decide (1 ≤ f)
def nFg (l : Nat) : Nat := if l = 70 then 1 else if l = 72 then 2 else if l = 78 then 1 else 3
def addS (c : Cl) (o t f : Nat) : Cl := sC (sC (sC (sC c 2 (kS c) o) 3 (kS c) t) 4 (kS c) f) 1 0 (kS c + 1)
def enp (l o t : Nat) (c : Cl) (f : Nat) : Cl := if l = 72 then sC (sC c 10 o f) 14 o 1 else if l = 78 then sC c 0 0 f else if l = 79 then sC (sC (sC c 8 o t) 9 o f) 13 o 1
  else if l = 80 then sC (sC (sC (sC (sC c 5 o 1) 6 o t) 7 o f) 8 o 0) 9 o 9 else if l = 82 then addS c o t f else sC c 11 0 f
/-- letter, figures, the first, the second, the club -/
abbrev Cs : Type := Nat × Nat × Nat × Nat × Cl
def stc (s : Cs) (b : Nat) : Option Cs := if s.1 = 0 then (if okL s.2.2.2.2 b = true then some (b, 0, s.2.2.1, s.2.2.2.1, s.2.2.2.2) else none)
  else if (dig b && rgt s.1 s.2.1 s.2.2.1 s.2.2.2.1 s.2.2.2.2 (b - 48)) = true then some (if s.2.1 + 1 = nFg s.1 then (0, s.2.1 + 1, s.2.2.1, s.2.2.2.1, enp s.1 s.2.2.1 s.2.2.2.1 s.2.2.2.2 (b - 48)) else if s.2.1 = 0 then (s.1, 1, b - 48, s.2.2.2.1, s.2.2.2.2) else (s.1, s.2.1 + 1, s.2.2.1, b - 48, s.2.2.2.2)) else none
def cr (tx : Nat → Nat) (L : Nat) : Nat → Cs → Option Nat × Cl
  | 0, s => (if s.1 = 0 ∧ ¬ kN s.2.2.2.2 = 0 then none else some L, s.2.2.2.2)
  | d + 1, s => match stc s (tx (L - (d + 1))) with
    | none => (some (L - (d + 1)), s.2.2.2.2)
    | some s' => cr tx L d s'
def c0 : Cl := fun f _ => if f = 9 then 9 else 0
/-- what the club keeps while it is read -/
def PW (c : Cl) : Prop := kN c ≤ 6 ∧ kS c ≤ 8 ∧ (∀ s, s < kS c → kW c s < kN c ∧ kF c s ≤ kT c s ∧ kT c s ≤ 9) ∧ (∀ p, kM c p ≤ 9 ∧ kR c p ≤ 9 ∧ kO c p ≤ 9 ∧ kU c p ≤ 9) ∧ (∀ i, kH c i ≤ 9) ∧ kG c ≤ 9 ∧ kK c = 0 ∧ (∀ i, t14 c i = true → i < kN c) ∧ (∀ p, t13 c p = true → kP c p = true) ∧ (∀ p, kP c p = false → kO c p = 0 ∧ kU c p = 9) ∧ (∀ i, t14 c i = false → kH c i = 0)
theorem PW.wf {c : Cl} (h : PW c) (h1 : 1 ≤ kN c) : WF c := ⟨⟨h1, h.1⟩, h.2.1, h.2.2.1, fun p _ => h.2.2.2.1 p, fun i _ => h.2.2.2.2.1 i, h.2.2.2.2.2.1, by
  rw [h.2.2.2.2.2.2.1]
  exact Nat.pow_pos (by decide)⟩
/-- a state while it is read -/
def CI (s : Cs) : Prop := PW s.2.2.2.2 ∧ (s.1 = 0 ∨ (s.2.1 < nFg s.1 ∧ (s.1 = 70 ∨ s.1 = 72 ∨ s.1 = 78 ∨ s.1 = 79 ∨ s.1 = 80 ∨ s.1 = 82) ∧ (s.1 = 78 → kN s.2.2.2.2 = 0) ∧ (¬ s.1 = 78 → 1 ≤ kN s.2.2.2.2) ∧
  (s.1 = 72 → 1 ≤ s.2.1 → s.2.2.1 < kN s.2.2.2.2 ∧ t14 s.2.2.2.2 s.2.2.1 = false) ∧ (s.1 = 79 → 1 ≤ s.2.1 → s.2.2.1 < 4 ∧ kP s.2.2.2.2 s.2.2.1 = true ∧ t13 s.2.2.2.2 s.2.2.1 = false) ∧ (s.1 = 79 → 2 ≤ s.2.1 → s.2.2.2.1 ≤ 9) ∧
  (s.1 = 80 → 1 ≤ s.2.1 → s.2.2.1 < 4 ∧ kP s.2.2.2.2 s.2.2.1 = false) ∧ (s.1 = 80 → 2 ≤ s.2.1 → s.2.2.2.1 ≤ 9) ∧
  (s.1 = 82 → kS s.2.2.2.2 < 8 ∧ (1 ≤ s.2.1 → s.2.2.1 < kN s.2.2.2.2) ∧ (2 ≤ s.2.1 → s.2.2.2.1 ≤ 9))))
theorem bsy_t {c : Cl} {i h : Nat} : bsy c i h = true ↔ ∃ s, s < kS c ∧ kW c s = i ∧ kF c s ≤ h ∧ h ≤ kT c s := by
  unfold bsy
  cases e : lo (fun s => (kW c s == i) && (decide (kF c s ≤ h) && decide (h ≤ kT c s))) 0 (kS c) with
  | some s =>
    obtain ⟨-, h1, h2, -⟩ := lo_some e
    simp only [Bool.and_eq_true, beq_iff_eq, decide_eq_true_eq] at h2
    exact ⟨fun _ => ⟨s, by omega, h2.1, h2.2⟩, fun _ => rfl⟩
  | none =>
    constructor
    · intro q; cases q
    · rintro ⟨s, h1, h2, h3, h4⟩
      have := lo_none e s (Nat.zero_le _) (by omega)
      simp [h2, h3, h4] at this
theorem bsy_10 {c : Cl} (h : PW c) {i k : Nat} (hb : bsy c i k = true) : k < 10 := by
  obtain ⟨s, h1, -, -, h4⟩ := bsy_t.mp hb
  have := h.2.2.1 s h1
  omega
theorem bsy_p {c : Cl} (h : PW c) {i k : Nat} (hb : bsy c i k = true) : i < kN c := by
  obtain ⟨s, h1, h2, -, -⟩ := bsy_t.mp hb
  have := h.2.2.1 s h1
  omega
theorem any_t {P : Nat → Bool} {n : Nat} : (lo P 0 n).isSome = true ↔ ∃ i, i < n ∧ P i = true := by
  cases e : lo P 0 n with
  | some s =>
    obtain ⟨-, h1, h2, -⟩ := lo_some e
    exact ⟨fun _ => ⟨s, by omega, h2⟩, fun _ => rfl⟩
  | none =>
    constructor
    · intro q; cases q
    · rintro ⟨s, h1, h2⟩
      have := lo_none e s (Nat.zero_le _) (by omega)
      rw [h2] at this; cases this
theorem non_t {P : Nat → Bool} {a n : Nat} : (lo P a n).isNone = true ↔ ∀ i, a ≤ i → i < a + n → P i = false := by
  cases e : lo P a n with
  | some s =>
    obtain ⟨h0, h1, h2, -⟩ := lo_some e
    constructor
    · intro q; cases q
    · intro q
      have := q s h0 h1
      rw [h2] at this; cases this
  | none => exact ⟨fun _ i h1 h2 => lo_none e i h1 h2, fun _ => rfl⟩
/-! what a figure does to the club -/
theorem addS_N (c : Cl) (o t f : Nat) : kN (addS c o t f) = kN c := rfl
theorem addS_S (c : Cl) (o t f : Nat) : kS (addS c o t f) = kS c + 1 := rfl
theorem addS_W (c : Cl) (o t f s : Nat) : kW (addS c o t f) s = if s = kS c then o else kW c s := by
  show sC (sC (sC (sC c 2 (kS c) o) 3 (kS c) t) 4 (kS c) f) 1 0 (kS c + 1) 2 s = _
  rw [sC_ne (by decide), sC_ne (by decide), sC_ne (by decide), sC_at]; rfl
theorem addS_F (c : Cl) (o t f s : Nat) : kF (addS c o t f) s = if s = kS c then t else kF c s := by
  show sC (sC (sC (sC c 2 (kS c) o) 3 (kS c) t) 4 (kS c) f) 1 0 (kS c + 1) 3 s = _
  rw [sC_ne (by decide), sC_ne (by decide), sC_at, sC_ne (by decide)]; rfl
theorem addS_T (c : Cl) (o t f s : Nat) : kT (addS c o t f) s = if s = kS c then f else kT c s := by
  show sC (sC (sC (sC c 2 (kS c) o) 3 (kS c) t) 4 (kS c) f) 1 0 (kS c + 1) 4 s = _
  rw [sC_ne (by decide), sC_at, sC_ne (by decide), sC_ne (by decide)]; rfl
theorem addS_r (c : Cl) (o t f g j : Nat) (h1 : ¬ g = 1) (h2 : ¬ g = 2) (h3 : ¬ g = 3) (h4 : ¬ g = 4) : addS c o t f g j = c g j := by
  unfold addS
  rw [sC_ne h1, sC_ne h4, sC_ne h3, sC_ne h2]
theorem addS_bsy (c : Cl) (o t f i h : Nat) : bsy (addS c o t f) i h = (bsy c i h || ((o == i) && (decide (t ≤ h) && decide (h ≤ f)))) := by
  have key : bsy (addS c o t f) i h = true ↔ (bsy c i h || ((o == i) && (decide (t ≤ h) && decide (h ≤ f)))) = true := by
    rw [bsy_t, Bool.or_eq_true, bsy_t, addS_S]
    simp only [Bool.and_eq_true, beq_iff_eq, decide_eq_true_eq]
    constructor
    · rintro ⟨s, h1, h2, h3, h4⟩
      rw [addS_W] at h2
      rw [addS_F] at h3
      rw [addS_T] at h4
      by_cases q : s = kS c
      · rw [if_pos q] at h2 h3 h4; exact Or.inr ⟨h2, h3, h4⟩
      · rw [if_neg q] at h2 h3 h4; exact Or.inl ⟨s, by omega, h2, h3, h4⟩
    · rintro (⟨s, h1, h2, h3, h4⟩ | ⟨h2, h3, h4⟩)
      · refine ⟨s, by omega, ?_⟩
        rw [addS_W, addS_F, addS_T, if_neg (by omega), if_neg (by omega), if_neg (by omega)]
        exact ⟨h2, h3, h4⟩
      · refine ⟨kS c, by omega, ?_⟩
        rw [addS_W, addS_F, addS_T, if_pos rfl, if_pos rfl, if_pos rfl]
        exact ⟨h2, h3, h4⟩
  cases h1 : bsy (addS c o t f) i h <;> cases h2 : (bsy c i h || ((o == i) && (decide (t ≤ h) && decide (h ≤ f))))
  · rfl
  · rw [h1, h2] at key; exact absurd (key.mpr rfl) nft
  · rw [h1, h2] at key; exact absurd (key.mp rfl) nft
  · rfl
theorem PW_c0 : PW c0 := ⟨by decide, by decide, fun s h => absurd h (Nat.not_lt_zero _), fun p => ⟨by show (0 : Nat) ≤ 9; omega, by show (0 : Nat) ≤ 9; omega, by show (0 : Nat) ≤ 9; omega, by show (9 : Nat) ≤ 9; omega⟩, fun i => by show (0 : Nat) ≤ 9; omega, by decide, rfl, fun i h => (by cases h), fun p h => (by cases h), fun p _ => ⟨rfl, rfl⟩, fun i _ => rfl⟩
theorem PW_addS {c : Cl} (h : PW c) {o t f : Nat} (h1 : kS c < 8) (h2 : o < kN c) (h3 : t ≤ f) (h4 : f ≤ 9) : PW (addS c o t f) := by
  obtain ⟨a1, a2, a3, a4, a5, a6, a7, a8, a9, a10, a11⟩ := h
  refine ⟨a1, by rw [addS_S]; omega, fun s hs => ?_, a4, a5, a6, a7, a8, a9, a10, a11⟩
  rw [addS_S] at hs
  rw [addS_W, addS_F, addS_T, addS_N]
  by_cases q : s = kS c
  · rw [if_pos q, if_pos q, if_pos q]; exact ⟨h2, h3, h4⟩
  · rw [if_neg q, if_neg q, if_neg q]; exact a3 s (by omega)

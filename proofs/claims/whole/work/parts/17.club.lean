/-! an abstract club: field, index, value -/
abbrev Cl : Type := Nat → Nat → Nat
def kN (c : Cl) : Nat := c 0 0
def kS (c : Cl) : Nat := c 1 0
def kW (c : Cl) (s : Nat) : Nat := c 2 s
def kF (c : Cl) (s : Nat) : Nat := c 3 s
def kT (c : Cl) (s : Nat) : Nat := c 4 s
def kP (c : Cl) (p : Nat) : Bool := c 5 p == 1
def kM (c : Cl) (p : Nat) : Nat := c 6 p
def kR (c : Cl) (p : Nat) : Nat := c 7 p
def kO (c : Cl) (p : Nat) : Nat := c 8 p
def kU (c : Cl) (p : Nat) : Nat := c 9 p
def kH (c : Cl) (i : Nat) : Nat := c 10 i
def kG (c : Cl) : Nat := c 11 0
def kK (c : Cl) : Nat := c 12 0
/-- what every club keeps -/
def WF (c : Cl) : Prop := (1 ≤ kN c ∧ kN c ≤ 6) ∧ kS c ≤ 8 ∧ (∀ s, s < kS c → kW c s < kN c ∧ kF c s ≤ kT c s ∧ kT c s ≤ 9) ∧ (∀ p, p < 4 → kM c p ≤ 9 ∧ kR c p ≤ 9 ∧ kO c p ≤ 9 ∧ kU c p ≤ 9) ∧ (∀ i, i < 6 → kH c i ≤ 9) ∧ kG c ≤ 9 ∧ kK c < 2 ^ kN c
/-- the least session that begins at an hour; who comes next -/
def fa (c : Cl) (h : Nat) : Option Nat := lo (fun s => kF c s == h) 0 (kS c)
def pv (person : Nat → Int32) (o : Option Nat) : Int32 := match o with
  | none => -9
  | some s => person s
def Nx (com : Nat → Int32) (i : Nat) : Int32 := match lo (fun j => decide (¬ com (j % 10) = -9)) i (20 - i) with
  | none => -9
  | some j => com (j % 10)
theorem Nx_20 (com : Nat → Int32) : Nx com 20 = -9 := rfl
theorem Nx_step (com : Nat → Int32) {i : Nat} (h : i < 20) : Nx com i = if com (i % 10) = -9 then Nx com (i + 1) else com (i % 10) := by
  unfold Nx
  have e : 20 - i = (20 - (i + 1)) + 1 := by omega
  rw [e]
  by_cases h1 : com (i % 10) = -9
  · rw [if_pos h1]
    simp [lo, h1]
  · rw [if_neg h1]
    simp [lo, h1]
theorem m1_lt (j : Nat) (h : j < 2 ^ 31) : (nI j - 1 < 0) ↔ j = 0 := by
  cases j with
  | zero => decide
  | succ j => rw [nI_pred]; constructor
              · intro q; exact absurd q (nI_pos (by omega))
              · intro q; omega
theorem arr_L123 (com : Nat → Int32) : ∀ (n i : Nat) (nc : Nat → Int32), i ≤ 20 → i < n → F_X1_arrange_L123 com n nc (Nx com i) (nI i - 1) = fun h => if h < 10 ∧ h < i then Nx com (h + 1) else nc h := by
  intro n
  induction n with
  | zero => intro i nc h1 h2; omega
  | succ n ih =>
    intro i nc h1 h2
    rw [F_X1_arrange_L123_s]
    cases i with
    | zero =>
      rw [if_pos ((m1_lt 0 (by decide)).mpr rfl)]
      funext h
      rw [if_neg (by omega)]
    | succ i =>
      rw [nI_pred, if_neg (nI_pos (by omega)), rem10 (by omega), nI_clamp (by omega), nI_m1]
      have key : ∀ v, v = Nx com i → F_X1_arrange_L123 com n (upd nc (i % 10) (Nx com (i + 1))) v (nI i - 1) = fun h => if h < 10 ∧ h < i + 1 then Nx com (h + 1) else nc h := by
        intro v hv
        subst hv
        rw [ih i _ (by omega) (by omega)]
        funext h
        by_cases h3 : h < 10 ∧ h < i
        · rw [if_pos h3, if_pos (by omega)]
        · rw [if_neg h3]
          by_cases h4 : h = i % 10
          · by_cases h5 : h < 10 ∧ h < i + 1
            · have h6 : h = i := by omega
              rw [if_pos h5]
              subst h6
              have : h % 10 = h := Nat.mod_eq_of_lt h5.1
              simp [upd, this]
            · exfalso; omega
          · rw [if_neg (by omega)]
            simp [upd, h4]
      rw [Nx_step com (by omega : i < 20)] at key
      by_cases h3 : com (i % 10) = -9
      · rw [if_pos h3]
        rw [if_pos h3] at key
        exact key _ rfl
      · rw [if_neg h3]
        rw [if_neg h3] at key
        exact key _ rfl
theorem arr_ok123 (com : Nat → Int32) : ∀ (n i : Nat) (nc : Nat → Int32) (v : Int32), i ≤ 20 → i < n → ok_X1_arrange_L123 com n nc v (nI i - 1) := by
  intro n
  induction n with
  | zero => intro i nc v h1 h2; omega
  | succ n ih =>
    intro i nc v h1 h2
    rw [ok_X1_arrange_L123_s]
    intro h
    cases i with
    | zero => exact absurd ((m1_lt 0 (by decide)).mpr rfl) h
    | succ i =>
      rw [nI_pred, rem10 (by omega), nI_m1]
      have hv : vp_in (nI (i % 10)) 10 := vp_in_nI (Nat.mod_lt _ (by decide)) (by decide)
      exact ⟨hv, hv, fun _ => ih i _ _ (by omega) (by omega), fun _ => ⟨hv, ih i _ _ (by omega) (by omega)⟩⟩
theorem arr_L32 (person first last : Nat → Int32) (fN tN : Nat → Nat) (k : Nat) (hk : k ≤ 8) (hf : ∀ s, s < k → first s = nI (fN s) ∧ fN s < 10) (ht : ∀ s, s < k → last s = nI (tN s) ∧ tN s < 10) : ∀ (n j : Nat) (b e c : Nat → Int32), j ≤ k → j < n →
    (∀ h, h < 10 → ∀ i, bt ((F_X1_arrange_L32 person first last n b e c (nI j - 1)).1 h) i = (bt (b h) i || (decide (i < j) && (fN i == h)))) ∧
    (∀ h, h < 10 → ∀ i, bt ((F_X1_arrange_L32 person first last n b e c (nI j - 1)).2.1 h) i = (bt (e h) i || (decide (i < j) && (tN i == h)))) ∧
    (∀ h, h < 10 → (F_X1_arrange_L32 person first last n b e c (nI j - 1)).2.2 h = match lo (fun s => fN s == h) 0 j with | none => c h | some s => person s) := by
  intro n
  induction n with
  | zero => intro j b e c h1 h2; omega
  | succ n ih =>
    intro j b e c h1 h2
    rw [F_X1_arrange_L32_s]
    cases j with
    | zero =>
      rw [if_pos ((m1_lt 0 (by decide)).mpr rfl)]
      refine ⟨fun h _ i => ?_, fun h _ i => ?_, fun h _ => ?_⟩
      · simp
      · simp
      · rfl
    | succ j =>
      obtain ⟨f1, f2⟩ := hf j (by omega)
      obtain ⟨t1, t2⟩ := ht j (by omega)
      rw [nI_pred, if_neg (nI_pos (by omega)), nI_clamp (by omega), f1, t1, isHour_nI f2, isHour_nI t2, if_neg (by decide), if_neg (by decide), nI_clamp (by omega), nI_clamp (by omega), nI_m1]
      obtain ⟨g1, g2, g3⟩ := ih j (upd b (fN j) (b (fN j) ||| (1 : Int32) <<< (nI j &&& 31))) (upd e (tN j) (e (tN j) ||| (1 : Int32) <<< (nI j &&& 31))) (upd c (fN j) (person j)) (by omega) (by omega)
      have bits : ∀ (f : Nat → Int32) (q : Nat → Nat) (h i : Nat), (bt (upd f (q j) (f (q j) ||| (1 : Int32) <<< (nI j &&& 31)) h) i || (decide (i < j) && (q i == h))) = (bt (f h) i || (decide (i < j + 1) && (q i == h))) := by
        intro f q h i
        have hlt : (decide (i < j + 1)) = (decide (i < j) || decide (i = j)) := by
          rw [← Bool.decide_or]; congr 1; apply propext; omega
        rw [hlt]
        by_cases hq : h = q j
        · subst hq
          simp only [upd, if_pos]
          rw [b_or]
          by_cases hi : i < 32
          · rw [bt_bit (by omega) hi]
            by_cases hij : i = j
            · subst hij; simp
            · simp [hij]
          · have h3 : ¬ i < j := by omega
            have h4 : ¬ i = j := by omega
            rw [b_big (x := (1 : Int32) <<< (nI j &&& 31)) (by omega)]
            simp [h3, h4]
        · simp only [upd, if_neg hq]
          by_cases hij : i = j
          · subst hij
            have : (q i == h) = false := by simp; exact fun z => hq z.symm
            simp [this]
          · simp [hij]
      refine ⟨fun h hh i => ?_, fun h hh i => ?_, fun h hh => ?_⟩
      · rw [g1 h hh i]; exact bits b fN h i
      · rw [g2 h hh i]; exact bits e tN h i
      · rw [g3 h hh]
        have lo_snoc : ∀ (P : Nat → Bool) (d a : Nat), lo P a (d + 1) = match lo P a d with | some s => some s | none => if P (a + d) then some (a + d) else none := by
          intro P d
          induction d with
          | zero => intro a; simp [lo]
          | succ d ihd =>
            intro a
            rw [lo, ihd (a + 1)]
            conv => rhs; rw [lo]
            by_cases hp : P a = true
            · simp [hp]
            · simp only [if_neg hp]
              rw [show a + 1 + d = a + (d + 1) by omega]
        rw [lo_snoc, Nat.zero_add]
        cases hl : lo (fun s => fN s == h) 0 j with
        | some s => rfl
        | none =>
          by_cases hq : h = fN j
          · subst hq; simp [upd]
          · have h5 : ¬ fN j = h := fun z => hq z.symm
            simp [upd, hq, h5]
theorem arr_ok32 (person first last : Nat → Int32) : ∀ (n j : Nat) (b e c : Nat → Int32), j ≤ 8 → j < n → ok_X1_arrange_L32 person first last n b e c (nI j - 1) := by
  intro n
  induction n with
  | zero => intro j b e c h1 h2; omega
  | succ n ih =>
    intro j b e c h1 h2
    rw [ok_X1_arrange_L32_s]
    intro h
    cases j with
    | zero => exact absurd ((m1_lt 0 (by decide)).mpr rfl) h
    | succ j =>
      rw [nI_pred, nI_m1]
      have hv : vp_in (nI j) 8 := vp_in_nI (by omega) (by decide)
      have hh : ∀ x : Int32, ¬ F_X11_isHour x = 0 → vp_in x 10 := fun x hx => by
        obtain ⟨q, h3, h4⟩ := isHour_in hx
        rw [h4]; exact vp_in_nI h3 (by decide)
      exact ⟨hv, fun _ => ih j _ _ _ (by omega) (by omega), fun q1 => ⟨hv, fun _ => ih j _ _ _ (by omega) (by omega), fun q2 => ⟨hv, hh _ q1, hh _ q1, hv, hh _ q2, hh _ q2, hv, hv, hh _ q1, ih j _ _ _ (by omega) (by omega)⟩⟩⟩
theorem arr_ok {k : Nat} (hk : k ≤ 8) (person first last b e c n : Nat → Int32) : ok_X1_arrange (nI k) person first last b e c n := by
  unfold ok_X1_arrange ok_X1_arrange_b8 ok_X1_arrange_b16 ok_X1_arrange_b25 ok_X1_arrange_b117
  have hF := FU_ge
  exact ⟨fill_ok _ (by decide) _ _, fill_ok _ (by decide) _ _, fill_ok _ (by decide) _ _, arr_ok32 _ _ _ FU k _ _ _ hk (by omega), arr_ok123 _ FU 20 _ _ (by omega) (by omega)⟩
/-- what arrange leaves -/
theorem arr_eq {k : Nat} (hk : k ≤ 8) (person first last b e c n : Nat → Int32) (fN tN : Nat → Nat) (hf : ∀ s, s < k → first s = nI (fN s) ∧ fN s < 10) (ht : ∀ s, s < k → last s = nI (tN s) ∧ tN s < 10) :
    (∀ h, h < 10 → ∀ i, bt ((F_X1_arrange (nI k) person first last b e c n).1 h) i = (decide (i < k) && (fN i == h))) ∧
    (∀ h, h < 10 → ∀ i, bt ((F_X1_arrange (nI k) person first last b e c n).2.1 h) i = (decide (i < k) && (tN i == h))) ∧
    (∀ h, h < 10 → (F_X1_arrange (nI k) person first last b e c n).2.2.1 h = pv person (lo (fun s => fN s == h) 0 k)) ∧
    (∀ h, h < 10 → (F_X1_arrange (nI k) person first last b e c n).2.2.2 h = Nx (F_X1_arrange (nI k) person first last b e c n).2.2.1 (h + 1)) := by
  have hF := FU_ge
  obtain ⟨g1, g2, g3⟩ := arr_L32 person first last fN tN k hk hf ht FU k (F_J7_fill_53178 10 b 0) (F_J7_fill_53178 10 e 0) (F_J7_fill_53178 10 c (-9)) (Nat.le_refl _) (by omega)
  have e1 : F_X1_arrange (nI k) person first last b e c n = F_X1_arrange_b25 (nI k) person first last (F_J7_fill_53178 10 b 0) (F_J7_fill_53178 10 e 0) (F_J7_fill_53178 10 c (-9)) n := rfl
  rw [e1]
  unfold F_X1_arrange_b25
  generalize F_X1_arrange_L32 person first last FU (F_J7_fill_53178 10 b 0) (F_J7_fill_53178 10 e 0) (F_J7_fill_53178 10 c (-9)) (nI k - 1) = q at g1 g2 g3
  unfold F_X1_arrange_b117 F_X1_arrange_b163
  have e2 := arr_L123 q.2.2 FU 20 n (Nat.le_refl _) (by omega)
  rw [Nx_20] at e2
  have e3 : (nI 20 - 1 : Int32) = 19 := by decide
  rw [e3] at e2
  simp only [e2]
  rw [fill_eq _ (by decide)] at g1 g2 g3
  simp only [fill_eq 10 (by decide)] at g1 g2 g3
  refine ⟨fun h hh i => ?_, fun h hh i => ?_, fun h hh => ?_, fun h hh => ?_⟩
  · rw [g1 h hh i, if_pos hh, b_0]; simp
  · rw [g2 h hh i, if_pos hh, b_0]; simp
  · rw [g3 h hh, if_pos hh]
    cases lo (fun s => fN s == h) 0 k <;> rfl
  · rw [if_pos (by omega)]

/-! weeks on and on -/
theorem cin_or (c : Cl) (h : Nat) (z : Zt) : (zc c h z).2.1 ||| (zc c h z).2.2.1 = z.2.1 ||| (z.2.2 ||| beg c h) := by
  unfold zc cin
  by_cases h0 : z.2.1 = 0
  · rw [if_pos h0]
    cases opr c h z.1 (z.2.2 ||| beg c h) with
    | none => rfl
    | some s => exact or_zero _
  · rw [if_neg h0]
    exact or_zero _
/-- who is under way ahead of an hour -/
def gng (c : Cl) (h : Nat) : Int32 := ms (fun s => decide (kF c s < h) && decide (h ≤ kT c s)) (kS c)
theorem bt_gng {c : Cl} (w : WF c) (h i : Nat) : bt (gng c h) i = (decide (i < kS c) && (decide (kF c i < h) && decide (h ≤ kT c i))) := bt_ms _ _ (by have := w.s8; omega) i
theorem Sb_gng {c : Cl} (w : WF c) (h : Nat) : Sb c (gng c h) := fun i hi => by
  rw [bt_gng w, Bool.and_eq_true, decide_eq_true_eq] at hi
  exact hi.1
theorem gng_0 {c : Cl} (w : WF c) : gng c 0 = 0 := bt_ext (fun i => by rw [bt_gng w, b_0]; simp)
theorem gng_10 {c : Cl} (w : WF c) : gng c 10 = 0 := bt_ext (fun i => by
  rw [bt_gng w, b_0]
  by_cases hi : i < kS c
  · have := w.ss hi
    have h2 : ¬ 10 ≤ kT c i := by omega
    simp [h2]
  · simp [hi])
theorem gng_step {c : Cl} (w : WF c) (h : Nat) : (gng c h ||| beg c h) &&& (fin c h ^^^ (-1)) = gng c (h + 1) := bt_ext (fun i => by
  rw [bt_andn, b_or, bt_gng w, bt_beg w, bt_fin w, bt_gng w]
  by_cases hi : i < kS c
  · have := w.ss hi
    rw [decide_eq_true hi]
    by_cases h1 : kF c i < h
    · have h2 : ¬ kF c i = h := by omega
      have h3 : kF c i < h + 1 := by omega
      by_cases h4 : h ≤ kT c i
      · by_cases h5 : kT c i = h
        · have h6 : ¬ h + 1 ≤ kT c i := by omega
          simp [h6, h5]
        · have h6 : h + 1 ≤ kT c i := by omega
          simp [h1, h3, h4, h5, h6]
      · have h6 : ¬ h + 1 ≤ kT c i := by omega
        simp [h2, h4, h6]
    · by_cases h2 : kF c i = h
      · have h3 : kF c i < h + 1 := by omega
        by_cases h5 : kT c i = h
        · have h6 : ¬ h + 1 ≤ kT c i := by omega
          simp [h5, h6]
        · have h6 : h + 1 ≤ kT c i := by omega
          simp [h2, h5, h6]
      · have h3 : ¬ kF c i < h + 1 := by omega
        simp [h1, h2, h3]
  · simp [hi])
theorem andn_or (x y m : Int32) : (x &&& (m ^^^ (-1))) ||| (y &&& (m ^^^ (-1))) = (x ||| y) &&& (m ^^^ (-1)) := bt_ext (fun i => by
  rw [b_or, bt_andn, bt_andn, bt_andn, b_or]
  cases bt x i <;> cases bt y i <;> cases bt m i <;> rfl)
theorem zN_or (c : Cl) (h a : Nat) (fg : Bool) (z : Zt) : (zN c h a fg z).2.1 ||| (zN c h a fg z).2.2 = ((z.2.1 ||| z.2.2) ||| beg c h) &&& (fin c h ^^^ (-1)) := by
  show ((zc c h z).2.1 &&& (fin c h ^^^ (-1))) ||| ((zc c h z).2.2.1 &&& (fin c h ^^^ (-1))) = _
  rw [andn_or, cin_or]
  congr 1
  exact bt_ext (fun i => by rw [b_or, b_or, b_or, b_or, Bool.or_assoc])
theorem wz_or {c : Cl} (w : WF c) (A : Nat → Nat) (g : Nat → Bool) (k : Nat) : ∀ h, (wz c A g k h).2.1 ||| (wz c A g k h).2.2 = gng c h
  | 0 => by rw [gng_0 w]; exact or_zero _
  | h + 1 => by
    show (zN c h (A h) (g h) (wz c A g k h)).2.1 ||| (zN c h (A h) (g h) (wz c A g k h)).2.2 = _
    rw [zN_or, wz_or w A g k h, gng_step w]
/-- a week ends at a begin -/
theorem wz_end {c : Cl} (w : WF c) {A : Nat → Nat} {g : Nat → Bool} {k : Nat} (hk : Bg c k) : Bg c (wz c A g k 10).1 := by
  obtain ⟨h1, -, -⟩ := wz_ZI w (A := A) (g := g) hk 10
  rcases h1 with h1 | ⟨-, h1⟩
  · exact h1
  · exfalso
    apply h1
    have h2 := wz_or w A g k 10
    rw [gng_10 w] at h2
    apply bt_eq0.mpr
    intro i
    have := bt_eq0.mp h2 i
    rw [b_or] at this
    cases hb : bt (wz c A g k 10).2.1 i with
    | false => rfl
    | true => rw [hb] at this; exact absurd this (by simp)
/-- the places of pigeons -/
theorem pig : ∀ (N n : Nat) (f : Nat → Nat), (∀ i, i < n → f i < N) → (∀ i j, i < j → j < n → ¬ f i = f j) → n ≤ N
  | 0, n, f, h, _ => by
    cases n with
    | zero => exact Nat.le_refl _
    | succ n => exact absurd (h 0 (by omega)) (by omega)
  | N + 1, n, f, h, hi => by
    by_cases he : ∃ i, i < n ∧ f i = N
    · obtain ⟨i0, h1, h2⟩ := he
      have := pig N (n - 1) (fun j => if j < i0 then f j else f (j + 1)) (fun j hj => by
        by_cases q : j < i0
        · have a1 := h j (by omega)
          have a2 := hi j i0 q h1
          simp only [if_pos q]
          omega
        · have a1 := h (j + 1) (by omega)
          have a2 := hi i0 (j + 1) (by omega) (by omega)
          simp only [if_neg q]
          omega) (fun i j h3 h4 => by
        by_cases q : i < i0
        · by_cases r : j < i0
          · simp only [if_pos q, if_pos r]; exact hi i j h3 (by omega)
          · simp only [if_pos q, if_neg r]; exact hi i (j + 1) (by omega) (by omega)
        · have r : ¬ j < i0 := by omega
          simp only [if_neg q, if_neg r]; exact hi (i + 1) (j + 1) (by omega) (by omega))
      omega
    · have := pig N n f (fun i hj => by
        have a1 := h i hj
        have a2 : ¬ f i = N := fun q => he ⟨i, hj, q⟩
        omega) hi
      omega
/-- spots -/
def sp (k : Nat) : Nat := if k < 4 then k else if k < 16 then k - 6 else 10
def Vk (k : Nat) : Prop := k < 4 ∨ (10 ≤ k ∧ k < 16) ∨ k = 20
theorem Bg.vk {c : Cl} (w : WF c) {k : Nat} (h : Bg c k) : Vk k := by
  have := w.n6
  rcases h with ⟨h, -⟩ | ⟨h1, h2⟩
  · exact Or.inl h
  · exact Or.inr (Or.inl ⟨h1, by omega⟩)
theorem Bg.sp10 {c : Cl} (w : WF c) {k : Nat} (h : Bg c k) : sp k < 10 := by
  have := w.n6
  unfold sp
  rcases h with ⟨h, -⟩ | ⟨h1, h2⟩
  · rw [if_pos h]; omega
  · rw [if_neg (by omega), if_pos (by omega)]; omega
theorem Bg.lt16 {c : Cl} (w : WF c) {k : Nat} (h : Bg c k) : k < 16 := by
  have := w.n6
  rcases h with ⟨h, -⟩ | ⟨h1, h2⟩ <;> omega
theorem sp_inj {k l : Nat} (hk : Vk k) (hl : Vk l) (e : sp k = sp l) : k = l := by
  unfold sp at e
  unfold Vk at hk hl
  by_cases h1 : k < 4 <;> by_cases h2 : l < 4 <;> by_cases h3 : k < 16 <;> by_cases h4 : l < 16 <;> simp only [h1, h2, h3, h4, if_true, if_false] at e <;> omega
theorem sp_le (k : Nat) : sp k ≤ 10 := by
  unfold sp
  by_cases h1 : k < 4
  · rw [if_pos h1]; omega
  · rw [if_neg h1]
    by_cases h2 : k < 16
    · rw [if_pos h2]; omega
    · rw [if_neg h2]; omega
theorem spotOf_X {k : Nat} (h : Vk k) : F_X11_spotOf (nI k) = nI (sp k) := by
  have key : ∀ k, k < 21 → (k < 4 ∨ (10 ≤ k ∧ k < 16) ∨ k = 20) → F_X11_spotOf (nI k) = nI (sp k) := by decide +kernel
  exact key k (by unfold Vk at h; omega) h
theorem whereAt_X {k : Nat} (h : Vk k) : F_X11_whereAt (nI (sp k)) = nI k := by
  have key : ∀ k, k < 21 → (k < 4 ∨ (10 ≤ k ∧ k < 16) ∨ k = 20) → F_X11_whereAt (nI (sp k)) = nI k := by decide +kernel
  exact key k (by unfold Vk at h; omega) h
/-- begins, week by week; the ring -/
def xs (f : Nat → Nat) (b : Nat) : Nat → Nat
  | 0 => b
  | n + 1 => f (xs f b n)
def RG (x : Nat → Nat) (m n : Nat) : Prop := m < n ∧ n ≤ 10 ∧ x m = x n ∧ ∀ i j, i < j → j < n → ¬ x i = x j
def fE (c : Cl) (A : Nat → Nat) (k : Nat) : Nat := (wz c A nf k 10).1
abbrev xw (c : Cl) (A : Nat → Nat) (b : Nat) : Nat → Nat := xs (fE c A) b
theorem xw_Bg {c : Cl} (w : WF c) {A : Nat → Nat} {b : Nat} (hb : Bg c b) : ∀ n, Bg c (xw c A b n)
  | 0 => hb
  | n + 1 => wz_end w (xw_Bg w hb n)
theorem RG_ex {c : Cl} (w : WF c) {A : Nat → Nat} {b : Nat} (hb : Bg c b) : ∃ m n, RG (xw c A b) m n := by
  have h1 : ∃ n, ∃ m, m < n ∧ xw c A b m = xw c A b n := by
    apply Classical.byContradiction
    intro hn
    have := pig 10 11 (fun i => sp (xw c A b i)) (fun i _ => (xw_Bg w hb i).sp10 w) (fun i j h1 h2 e => hn ⟨j, i, h1, sp_inj ((xw_Bg w hb i).vk w) ((xw_Bg w hb j).vk w) e⟩)
    omega
  obtain ⟨n, ⟨m, h2, h3⟩, h4⟩ := pk_least _ h1
  refine ⟨m, n, h2, ?_, h3, fun i j h5 h6 e => h4 j h6 ⟨i, h5, e⟩⟩
  exact pig 10 n (fun i => sp (xw c A b i)) (fun i _ => (xw_Bg w hb i).sp10 w) (fun i j h1 h2 e => h4 j h2 ⟨i, h1, sp_inj ((xw_Bg w hb i).vk w) ((xw_Bg w hb j).vk w) e⟩)
/-- sums over some weeks; whether all are 0 -/
def sm (F : Nat → Nat) (m : Nat) : Nat → Nat
  | 0 => 0
  | d + 1 => sm F m d + F (m + d)
def az (F : Nat → Nat) : Nat → Bool
  | 0 => true
  | d + 1 => az F d && decide (F d = 0)
theorem az_at {F : Nat → Nat} : ∀ {d}, az F d = true → ∀ i, i < d → F i = 0
  | 0, _, i, hi => by omega
  | d + 1, h, i, hi => by
    rw [az, Bool.and_eq_true, decide_eq_true_eq] at h
    by_cases e : i = d
    · rw [e]; exact h.2
    · exact az_at h.1 i (by omega)
theorem az_of {F : Nat → Nat} : ∀ {d}, (∀ i, i < d → F i = 0) → az F d = true
  | 0, _ => rfl
  | d + 1, h => by
    rw [az, az_of (fun i hi => h i (by omega)), h d (by omega)]
    rfl
theorem az_no {F : Nat → Nat} {d i : Nat} (hi : i < d) (h : ¬ F i = 0) : az F d = false := by
  cases e : az F d with
  | false => rfl
  | true => exact absurd (az_at e i hi) h
/-- what a week keeps small -/
theorem zw_le {c : Cl} (w : WF c) {h a : Nat} {fg : Bool} {z : Zt} (hz : ZI c z) (ha : a ≤ 5) : zw c h a fg z ≤ 18 := by
  have h1 : (zc c h z).2.2.2 ≤ 9 := by
    unfold zc cin
    by_cases h0 : z.2.1 = 0
    · rw [if_pos h0]
      cases e : opr c h z.1 (z.2.2 ||| beg c h) with
      | none => exact Nat.zero_le _
      | some s =>
        obtain ⟨-, -, q⟩ := opr_some e
        show (opd c z.1 s).2 ≤ 9
        unfold opd
        by_cases q1 : own c (kW c s) = true
        · rw [if_pos q1]; exact Nat.zero_le _
        · rw [if_neg q1]
          by_cases q2 : z.1 = 10 + kW c s
          · rw [if_pos q2]; exact Nat.zero_le _
          · rw [if_neg q2]
            unfold lets at q
            have q3 : opn c h z.1 = true := by simpa [q1, q2] using q
            exact (w.pp (opn_true.mp q3).1).1
    · rw [if_neg h0]; exact Nat.zero_le _
  have h2 : (zq c h a fg z).2.1 ≤ 9 := by
    obtain ⟨hk, hi, -⟩ := cin_ZI w (h := h) hz
    unfold zq hq
    by_cases hA : (zc c h z).1 = 20 ∧ (zc c h z).2.1 &&& (fin c h ^^^ (-1)) = 0
    · rw [if_pos hA]
      cases fa c ((h + 1) % 10) with
      | some s => exact Nat.zero_le _
      | none =>
        cases e : lo (bt ((zc c h z).2.1 &&& fin c h)) 0 (kS c) with
        | none => exact Nat.zero_le _
        | some s =>
          have hs : s < kS c := by have := (lo_some e).2.1; omega
          show (lv c h a fg s).2 ≤ 9
          unfold lv
          by_cases hm : (may c h a && !fg) = true
          · rw [if_pos hm]
            by_cases h5 : a = 5
            · rw [if_pos h5]
              obtain ⟨t, et, ht⟩ := nx_some w (h := h) hs
              rw [et]
              have := (w.ss ht).1
              have := w.n6
              exact w.hh (by omega)
            · rw [if_neg h5]
              have q3 : opn c h a = true := by
                unfold may at hm
                simp [h5] at hm
                exact hm.1
              exact (w.pp (opn_true.mp q3).1).1
          · rw [if_neg hm]; exact Nat.zero_le _
    · rw [if_neg hA]; exact Nat.zero_le _
  unfold zw
  omega
theorem zr_le {c : Cl} (w : WF c) {h : Nat} {z : Zt} : zr c h z ≤ 9 := by
  unfold zr
  by_cases q : (zc c h z).1 < 4
  · rw [if_pos q]; exact (w.pp q).2.1
  · rw [if_neg q]; exact Nat.zero_le _
theorem zn_le (c : Cl) (h : Nat) (z : Zt) : zn c h z ≤ 8 := pcn_le _ _
theorem wW_le {c : Cl} (w : WF c) {A : Nat → Nat} {g : Nat → Bool} {k : Nat} (hk : Bg c k) (hA : ∀ h, h < 10 → A h ≤ 5) : ∀ h, h ≤ 10 → wW c A g k h ≤ 18 * h
  | 0, _ => Nat.le_refl _
  | h + 1, hh => by
    have h1 := wW_le w (g := g) hk hA h (by omega)
    have h2 := zw_le w (h := h) (fg := g h) (wz_ZI w (A := A) (g := g) hk h) (hA h (by omega))
    rw [wW]; omega
theorem wR_le {c : Cl} (w : WF c) (A : Nat → Nat) (g : Nat → Bool) (k : Nat) : ∀ h, wR c A g k h ≤ 9 * h
  | 0 => Nat.le_refl _
  | h + 1 => by
    have h1 := wR_le w A g k h
    have h2 := zr_le w (h := h) (z := wz c A g k h)
    rw [wR]; omega
theorem wT_le (c : Cl) (A : Nat → Nat) (g : Nat → Bool) (k : Nat) : ∀ h, wT c A g k h ≤ 8 * h
  | 0 => Nat.le_refl _
  | h + 1 => by
    have h1 := wT_le c A g k h
    have h2 := zn_le c h (wz c A g k h)
    rw [wT]; omega

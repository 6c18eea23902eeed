/-! the middle: an hour of an abstract club -/
def bI (b : Bool) : Int32 := if b then 1 else 0
theorem bI_t : bI true = 1 := rfl
theorem bI_f : bI false = 0 := rfl
theorem bI_0 {b : Bool} : bI b = 0 ↔ b = false := by cases b <;> decide
theorem bI_1 {b : Bool} : bI b = 1 ↔ b = true := by cases b <;> decide
theorem isB_bI (b : Bool) : isB (bI b) := by
  cases b
  · exact isB_0
  · exact isB_1
def ms (P : Nat → Bool) : Nat → Int32
  | 0 => 0
  | n + 1 => ms P n ||| (if P n then (1 : Int32) <<< (nI n &&& 31) else 0)
theorem bt_ms (P : Nat → Bool) : ∀ n, n ≤ 32 → ∀ i, bt (ms P n) i = (decide (i < n) && P i)
  | 0, _, i => by simp [ms, b_0]
  | n + 1, h, i => by
    rw [ms, b_or, bt_ms P n (by omega) i]
    by_cases hi : i < 32
    · by_cases hp : P n = true
      · rw [if_pos hp, bt_bit (by omega) hi]
        by_cases h1 : i = n
        · subst h1; simp [hp]
        · by_cases h2 : i < n
          · have : i < n + 1 := by omega
            simp [h1, h2, this]
          · have : ¬ i < n + 1 := by omega
            simp [h1, h2, this]
      · rw [if_neg hp, b_0]
        by_cases h1 : i = n
        · subst h1; simp [hp]
        · by_cases h2 : i < n
          · have : i < n + 1 := by omega
            simp [h2, this]
          · have : ¬ i < n + 1 := by omega
            simp [h2, this]
    · have h1 : ¬ i < n := by omega
      have h2 : ¬ i < n + 1 := by omega
      rw [b_big (by omega)]
      simp [h1, h2]
/-- how many bits -/
def pcn (x : Int32) : Nat → Nat
  | 0 => 0
  | n + 1 => pcn x n + (if bt x n then 1 else 0)
theorem pcn_le (x : Int32) : ∀ n, pcn x n ≤ n
  | 0 => Nat.le_refl _
  | n + 1 => by
    have := pcn_le x n
    rw [pcn]
    split <;> omega
theorem pcn_ext {x : Int32} {m : Nat} (h : ∀ i, bt x i = true → i < m) : ∀ n, m ≤ n → pcn x n = pcn x m := by
  intro n hn
  induction n with
  | zero => have : m = 0 := by omega
            rw [this]
  | succ n ih =>
    by_cases e : m = n + 1
    · rw [e]
    · rw [pcn, ih (by omega), if_neg (fun q => by have := h n q; omega)]
      rfl
theorem pcn_zero {x : Int32} : ∀ {n}, pcn x n = 0 ↔ ∀ i, i < n → bt x i = false
  | 0 => ⟨fun _ i hi => by omega, fun _ => rfl⟩
  | n + 1 => by
    rw [pcn]
    constructor
    · intro h i hi
      by_cases e : i = n
      · subst e
        cases hb : bt x i with
        | false => rfl
        | true => rw [if_pos hb] at h; omega
      · exact (pcn_zero (n := n)).mp (by omega) i (by omega)
    · intro h
      rw [(pcn_zero (n := n)).mpr (fun i hi => h i (by omega)), if_neg (by rw [h n (by omega)]; decide)]
theorem bc_256 : ∀ n, n < 256 → F_J6_bitCount_0f7a4 (nI n) = nI (pcn (nI n) 8) := by decide +kernel
theorem small8 {x : Int32} (h : ∀ i, bt x i = true → i < 8) : ∃ n, n < 256 ∧ x = nI n := by
  refine ⟨x.toBitVec.toNat % 2 ^ 8, Nat.mod_lt _ (by decide), ?_⟩
  rw [← pk_and x (m := 255) 8 (by decide)]
  apply bt_ext
  intro i
  rw [b_and, b_255]
  cases hb : bt x i with
  | false => rfl
  | true => simp [h i hb]
theorem bc_8 {x : Int32} (h : ∀ i, bt x i = true → i < 8) : F_J6_bitCount_0f7a4 x = nI (pcn x 8) := by
  obtain ⟨n, h1, rfl⟩ := small8 h
  exact bc_256 n h1
theorem WF.n1 {c : Cl} (w : WF c) : 1 ≤ kN c := w.1.1
theorem WF.n6 {c : Cl} (w : WF c) : kN c ≤ 6 := w.1.2
theorem WF.s8 {c : Cl} (w : WF c) : kS c ≤ 8 := w.2.1
theorem WF.ss {c : Cl} (w : WF c) {s : Nat} (h : s < kS c) : kW c s < kN c ∧ kF c s ≤ kT c s ∧ kT c s ≤ 9 := w.2.2.1 s h
theorem WF.pp {c : Cl} (w : WF c) {p : Nat} (h : p < 4) : kM c p ≤ 9 ∧ kR c p ≤ 9 ∧ kO c p ≤ 9 ∧ kU c p ≤ 9 := w.2.2.2.1 p h
theorem WF.hh {c : Cl} (w : WF c) {i : Nat} (h : i < 6) : kH c i ≤ 9 := w.2.2.2.2.1 i h
theorem WF.g9 {c : Cl} (w : WF c) : kG c ≤ 9 := w.2.2.2.2.2.1
theorem WF.kk {c : Cl} (w : WF c) : kK c < 2 ^ kN c := w.2.2.2.2.2.2
theorem WF.k64 {c : Cl} (w : WF c) : kK c < 64 := Nat.lt_of_lt_of_le w.kk (Nat.pow_le_pow_right (by decide) w.n6 : 2 ^ kN c ≤ 2 ^ 6)
theorem lo_at {P : Nat → Bool} {j K : Nat} (h : j < K) : lo P j (K - j) = if P j then some j else lo P (j + 1) (K - (j + 1)) := by
  rw [show K - j = (K - (j + 1)) + 1 by omega]
  rfl
theorem lo_end {P : Nat → Bool} {K : Nat} : lo P K (K - K) = none := by
  rw [Nat.sub_self]; rfl
def Sb (c : Cl) (x : Int32) : Prop := ∀ i, bt x i = true → i < kS c
def opn (c : Cl) (h p : Nat) : Bool := decide (p < 4) && (kP c p && (decide (kO c p ≤ h) && decide (h ≤ kU c p)))
def own (c : Cl) (i : Nat) : Bool := (kK c).testBit i
def lets (c : Cl) (h k s : Nat) : Bool := own c (kW c s) || ((k == 10 + kW c s) || opn c h k)
def beg (c : Cl) (h : Nat) : Int32 := ms (fun s => kF c s == h) (kS c)
def fin (c : Cl) (h : Nat) : Int32 := ms (fun s => kT c s == h) (kS c)
def opr (c : Cl) (h k : Nat) (o : Int32) : Option Nat := lo (fun s => bt o s && lets c h k s) 0 (kS c)
/-- who opens: what becomes of the key, what is walked -/
def opd (c : Cl) (k s : Nat) : Nat × Nat := if own c (kW c s) then (k, 0) else if k = 10 + kW c s then (20, 0) else (20, kM c k)
/-- coming in: the key, inside, outside, walked -/
def cin (c : Cl) (h k : Nat) (i o : Int32) : Nat × Int32 × Int32 × Nat := if i = 0 then (match opr c h k o with
    | none => (k, i, o, 0)
    | some s => ((opd c k s).1, i ||| o, 0, (opd c k s).2))
  else (k, i ||| o, 0, 0)
def nxs (c : Cl) (h : Nat) : Nat → Nat → Option Nat
  | _, 0 => none
  | j, d + 1 => match fa c ((h + j) % 10) with
    | some s => some s
    | none => nxs c h (j + 1) d
def nx (c : Cl) (h : Nat) : Option Nat := nxs c h 1 10
def may (c : Cl) (h a : Nat) : Bool := (a == 5) || opn c h a
/-- leaving: the key, walked -/
def lv (c : Cl) (h a : Nat) (fg : Bool) (s : Nat) : Nat × Nat := if (may c h a && !fg) then (if a = 5 then (match nx c h with
    | some t => (10 + kW c t, kH c (kW c t))
    | none => (10 + kW c s, 0)) else (a, kM c a)) else (10 + kW c s, 0)
/-- going: the key, walked, an act done, forgetting possible -/
def hq (c : Cl) (h a : Nat) (fg : Bool) (k : Nat) (i : Int32) : Nat × Nat × Bool × Bool :=
  if k = 20 ∧ i &&& (fin c h ^^^ (-1)) = 0 then (match fa c ((h + 1) % 10) with
    | some s => (10 + kW c s, 0, false, false)
    | none => (match lo (bt (i &&& fin c h)) 0 (kS c) with
      | some s => ((lv c h a fg s).1, (lv c h a fg s).2, true, may c h a)
      | none => (k, 0, false, false)))
  else (k, 0, false, false)
/-- key, inside, outside -/
abbrev Zt : Type := Nat × Int32 × Int32
def zc (c : Cl) (h : Nat) (z : Zt) : Nat × Int32 × Int32 × Nat := cin c h z.1 z.2.1 (z.2.2 ||| beg c h)
def zq (c : Cl) (h a : Nat) (fg : Bool) (z : Zt) : Nat × Nat × Bool × Bool := hq c h a fg (zc c h z).1 (zc c h z).2.1
def zN (c : Cl) (h a : Nat) (fg : Bool) (z : Zt) : Zt := ((zq c h a fg z).1, (zc c h z).2.1 &&& (fin c h ^^^ (-1)), (zc c h z).2.2.1 &&& (fin c h ^^^ (-1)))
def zS (c : Cl) (h : Nat) (z : Zt) : Int32 := (zc c h z).2.2.1
def zn (c : Cl) (h : Nat) (z : Zt) : Nat := pcn (zS c h z) 8
def zw (c : Cl) (h a : Nat) (fg : Bool) (z : Zt) : Nat := (zc c h z).2.2.2 + (zq c h a fg z).2.1
def zr (c : Cl) (h : Nat) (z : Zt) : Nat := if (zc c h z).1 < 4 then kR c (zc c h z).1 else 0
def za (c : Cl) (h a : Nat) (fg : Bool) (z : Zt) : Bool := (zq c h a fg z).2.2.1
def zm (c : Cl) (h a : Nat) (fg : Bool) (z : Zt) : Bool := (zq c h a fg z).2.2.2
/-- where the key may be with nobody inside -/
def Bg (c : Cl) (k : Nat) : Prop := (k < 4 ∧ kP c k = true) ∨ (10 ≤ k ∧ k < 10 + kN c)
def ZI (c : Cl) (z : Zt) : Prop := (Bg c z.1 ∨ (z.1 = 20 ∧ ¬ z.2.1 = 0)) ∧ Sb c z.2.1 ∧ Sb c z.2.2
/-- the class's club -/
def RX (c : Cl) (pe se pl ow : Int32) (pr mi ri oF oL ho be en co nc : Nat → Int32) : Prop :=
  WF c ∧ pe = nI (kN c) ∧ se = nI (kS c) ∧ (∀ i, bt pl i = (decide (i < 4) && kP c i)) ∧ ow = nI (kK c) ∧ (∀ s, s < kS c → pr s = nI (kW c s)) ∧
  (∀ p, p < 4 → kP c p = true → mi p = nI (kM c p) ∧ ri p = nI (kR c p) ∧ oF p = nI (kO c p) ∧ oL p = nI (kU c p)) ∧
  (∀ p, p < 4 → kP c p = false → oL p = -9) ∧ (∀ i, i < kN c → ho i = nI (kH c i)) ∧
  (∀ h, h < 10 → be h = beg c h ∧ en h = fin c h ∧ co h = pv (fun s => nI (kW c s)) (fa c h) ∧ nc h = Nx (fun h => pv (fun s => nI (kW c s)) (fa c h)) (h + 1))
/-- the reference's -/
def RY (c : Cl) (se ow : Int32) (wh fr to th mi ri op sh ho : Nat → Int32) : Prop :=
  WF c ∧ se = nI (kS c) ∧ ow = nI (kK c) ∧ (∀ s, s < kS c → wh s = nI (kW c s) ∧ fr s = nI (kF c s) ∧ to s = nI (kT c s)) ∧
  (∀ p, p < 4 → th p = bI (kP c p) ∧ (kP c p = true → mi p = nI (kM c p) ∧ ri p = nI (kR c p) ∧ op p = nI (kO c p) ∧ sh p = nI (kU c p))) ∧
  (∀ i, i < kN c → ho i = nI (kH c i))
/-! the middle keeps to itself -/
theorem Sb.b8 {c : Cl} (w : WF c) {x : Int32} (h : Sb c x) : ∀ i, bt x i = true → i < 8 := fun i hi => Nat.lt_of_lt_of_le (h i hi) w.s8
theorem Sb_0 (c : Cl) : Sb c 0 := fun i h => by rw [b_0] at h; cases h
theorem Sb_or {c : Cl} {x y : Int32} (hx : Sb c x) (hy : Sb c y) : Sb c (x ||| y) := fun i h => by
  rw [b_or, Bool.or_eq_true] at h
  rcases h with h | h
  · exact hx i h
  · exact hy i h
theorem Sb_andn {c : Cl} {x y : Int32} (hx : Sb c x) : Sb c (x &&& (y ^^^ (-1))) := fun i h => by
  rw [bt_andn, Bool.and_eq_true] at h
  exact hx i h.1
theorem bt_beg {c : Cl} (w : WF c) (h i : Nat) : bt (beg c h) i = (decide (i < kS c) && (kF c i == h)) := bt_ms _ _ (by have := w.s8; omega) i
theorem bt_fin {c : Cl} (w : WF c) (h i : Nat) : bt (fin c h) i = (decide (i < kS c) && (kT c i == h)) := bt_ms _ _ (by have := w.s8; omega) i
theorem Sb_beg {c : Cl} (w : WF c) (h : Nat) : Sb c (beg c h) := fun i hi => by
  rw [bt_beg w, Bool.and_eq_true, decide_eq_true_eq] at hi
  exact hi.1
theorem fa_some {c : Cl} {h s : Nat} (e : fa c h = some s) : s < kS c ∧ kF c s = h := by
  obtain ⟨-, h2, h3, -⟩ := lo_some e
  exact ⟨by omega, by simpa using h3⟩
theorem fa_none {c : Cl} {h : Nat} (e : fa c h = none) {s : Nat} (hs : s < kS c) : ¬ kF c s = h := by
  have := lo_none e s (Nat.zero_le _) (by omega)
  simpa using this
theorem opr_some {c : Cl} {h k : Nat} {o : Int32} {s : Nat} (e : opr c h k o = some s) : s < kS c ∧ bt o s = true ∧ lets c h k s = true := by
  obtain ⟨-, h2, h3, -⟩ := lo_some e
  rw [Bool.and_eq_true] at h3
  exact ⟨by omega, h3.1, h3.2⟩
theorem opn_true {c : Cl} {h p : Nat} : opn c h p = true ↔ p < 4 ∧ kP c p = true ∧ kO c p ≤ h ∧ h ≤ kU c p := by
  unfold opn
  simp only [Bool.and_eq_true, decide_eq_true_eq]
theorem nxs_some {c : Cl} {h : Nat} : ∀ {d j s : Nat}, nxs c h j d = some s → ∃ i, j ≤ i ∧ i < j + d ∧ fa c ((h + i) % 10) = some s
  | 0, j, s, e => by cases e
  | d + 1, j, s, e => by
    rw [nxs] at e
    cases hf : fa c ((h + j) % 10) with
    | some t =>
      rw [hf] at e
      exact ⟨j, Nat.le_refl _, by omega, by rw [hf]; exact e⟩
    | none =>
      rw [hf] at e
      obtain ⟨i, h1, h2, h3⟩ := nxs_some (d := d) e
      exact ⟨i, by omega, by omega, h3⟩
theorem nxs_none {c : Cl} {h : Nat} : ∀ {d j : Nat}, nxs c h j d = none → ∀ i, j ≤ i → i < j + d → fa c ((h + i) % 10) = none
  | 0, j, e, i, h1, h2 => by omega
  | d + 1, j, e, i, h1, h2 => by
    rw [nxs] at e
    cases hf : fa c ((h + j) % 10) with
    | some t => rw [hf] at e; cases e
    | none =>
      rw [hf] at e
      by_cases h3 : i = j
      · rw [h3]; exact hf
      · exact nxs_none (d := d) e i (by omega) (by omega)
/-- who comes next, if anybody comes at all -/
theorem nx_some {c : Cl} (w : WF c) {h s : Nat} (hs : s < kS c) : ∃ t, nx c h = some t ∧ t < kS c := by
  cases e : nx c h with
  | some t =>
    obtain ⟨i, -, -, h3⟩ := nxs_some e
    exact ⟨t, rfl, (fa_some h3).1⟩
  | none =>
    exfalso
    obtain ⟨w1, w2, w3⟩ := w.ss hs
    have key := nxs_none e ((kF c s + 9 - h % 10) % 10 + 1) (by omega) (by omega)
    refine fa_none key hs ?_
    omega
theorem lv_Bg {c : Cl} (w : WF c) {h a s : Nat} {fg : Bool} (hs : s < kS c) : Bg c (lv c h a fg s).1 := by
  unfold lv
  by_cases h1 : (may c h a && !fg) = true
  · rw [if_pos h1]
    by_cases h2 : a = 5
    · rw [if_pos h2]
      obtain ⟨t, e, ht⟩ := nx_some w (h := h) hs
      rw [e]
      have := (w.ss ht).1
      exact Or.inr ⟨by show 10 ≤ 10 + kW c t; omega, by show 10 + kW c t < _; omega⟩
    · rw [if_neg h2]
      have h3 : opn c h a = true := by
        rw [Bool.and_eq_true] at h1
        have h4 := h1.1
        unfold may at h4
        simpa [h2] using h4
      obtain ⟨g1, g2, -, -⟩ := opn_true.mp h3
      exact Or.inl ⟨g1, g2⟩
  · rw [if_neg h1]
    have := (w.ss hs).1
    exact Or.inr ⟨by show 10 ≤ 10 + kW c s; omega, by show 10 + kW c s < _; omega⟩
theorem cin_ZI {c : Cl} (w : WF c) {h : Nat} {z : Zt} (hz : ZI c z) : (Bg c (zc c h z).1 ∨ ((zc c h z).1 = 20 ∧ ¬ (zc c h z).2.1 = 0)) ∧ Sb c (zc c h z).2.1 ∧ Sb c (zc c h z).2.2.1 := by
  obtain ⟨hk, hi, ho⟩ := hz
  have ho' : Sb c (z.2.2 ||| beg c h) := Sb_or ho (Sb_beg w h)
  unfold zc cin
  by_cases h0 : z.2.1 = 0
  · rw [if_pos h0]
    have hk' : Bg c z.1 := by
      rcases hk with hk | ⟨-, hk⟩
      · exact hk
      · exact absurd h0 hk
    cases e : opr c h z.1 (z.2.2 ||| beg c h) with
    | none => exact ⟨Or.inl hk', hi, ho'⟩
    | some s =>
      obtain ⟨-, hb, -⟩ := opr_some e
      have hne : ¬ (z.2.1 ||| (z.2.2 ||| beg c h)) = 0 := bt_ne0.mpr ⟨s, by rw [b_or, hb, Bool.or_true]⟩
      refine ⟨?_, Sb_or hi ho', Sb_0 c⟩
      show Bg c (opd c z.1 s).1 ∨ ((opd c z.1 s).1 = 20 ∧ ¬ (z.2.1 ||| (z.2.2 ||| beg c h)) = 0)
      unfold opd
      by_cases h1 : own c (kW c s) = true
      · rw [if_pos h1]; exact Or.inl hk'
      · rw [if_neg h1]
        by_cases h2 : z.1 = 10 + kW c s
        · rw [if_pos h2]; exact Or.inr ⟨rfl, hne⟩
        · rw [if_neg h2]; exact Or.inr ⟨rfl, hne⟩
  · rw [if_neg h0]
    refine ⟨?_, Sb_or hi ho', Sb_0 c⟩
    rcases hk with hk | ⟨hk, -⟩
    · exact Or.inl hk
    · refine Or.inr ⟨hk, ?_⟩
      obtain ⟨s, hs⟩ := bt_ne0.mp h0
      exact bt_ne0.mpr ⟨s, by rw [b_or, hs, Bool.true_or]⟩
/-- who went last is there -/
theorem went_some {c : Cl} (w : WF c) {h : Nat} {i : Int32} (hi : Sb c i) (h0 : ¬ i = 0) (h1 : i &&& (fin c h ^^^ (-1)) = 0) : ∃ s, lo (bt (i &&& fin c h)) 0 (kS c) = some s ∧ s < kS c := by
  cases e : lo (bt (i &&& fin c h)) 0 (kS c) with
  | some s =>
    obtain ⟨-, h2, -, -⟩ := lo_some e
    exact ⟨s, rfl, by omega⟩
  | none =>
    exfalso
    obtain ⟨s, hs⟩ := bt_ne0.mp h0
    have h2 := lo_none e s (Nat.zero_le _) (by have := hi s hs; omega)
    have h3 := bt_eq0.mp h1 s
    rw [b_and, hs] at h2
    rw [bt_andn, hs] at h3
    simp at h2 h3
    rw [h2] at h3
    cases h3
theorem zN_ZI {c : Cl} (w : WF c) {h a : Nat} {fg : Bool} {z : Zt} (hz : ZI c z) : ZI c (zN c h a fg z) := by
  obtain ⟨hk, hi, ho⟩ := cin_ZI w (h := h) hz
  refine ⟨?_, Sb_andn hi, Sb_andn ho⟩
  show Bg c (zq c h a fg z).1 ∨ ((zq c h a fg z).1 = 20 ∧ ¬ (zc c h z).2.1 &&& (fin c h ^^^ (-1)) = 0)
  unfold zq hq
  by_cases h1 : (zc c h z).1 = 20 ∧ (zc c h z).2.1 &&& (fin c h ^^^ (-1)) = 0
  · rw [if_pos h1]
    left
    cases e : fa c ((h + 1) % 10) with
    | some s =>
      have := (w.ss (fa_some e).1).1
      exact Or.inr ⟨by show 10 ≤ 10 + kW c s; omega, by show 10 + kW c s < _; omega⟩
    | none =>
      have h0 : ¬ (zc c h z).2.1 = 0 := by
        rcases hk with hk | ⟨-, hk⟩
        · rw [h1.1] at hk
          rcases hk with ⟨q, -⟩ | ⟨-, q⟩
          · omega
          · have := w.n6; omega
        · exact hk
      obtain ⟨s, e2, hs⟩ := went_some w hi h0 h1.2
      rw [e2]
      exact lv_Bg w hs
  · rw [if_neg h1]
    rcases hk with hk | ⟨hk, -⟩
    · exact Or.inl hk
    · exact Or.inr ⟨hk, fun q => h1 ⟨hk, q⟩⟩

/-! ways: what is left -/
def FAR : Nat := 1000000
def pri (c : Cl) (α β h a k : Nat) : Nat := α * pz c h a k + β * rz c h k
def cst (c : Cl) (α β : Nat) (L : Nat → Nat) (h a k : Nat) : Nat := match st c h a k with
  | none => FAR
  | some k' => if L k' = FAR then FAR else L k' + pri c α β h a k
def mn (F : Nat → Nat) : Nat → Nat
  | 0 => FAR
  | a + 1 => if F a < mn F a then F a else mn F a
def lf (c : Cl) (α β e : Nat) : Nat → Nat → Nat
  | 0, k => if k = e then 0 else FAR
  | d + 1, k => mn (fun a => cst c α β (lf c α β e d) (9 - d) a k) 6
def lh (c : Cl) (α β e h k : Nat) : Nat := lf c α β e (10 - h) k
theorem lh_10 (c : Cl) (α β e k : Nat) : lh c α β e 10 k = if k = e then 0 else FAR := rfl
theorem lh_step (c : Cl) (α β e : Nat) {h : Nat} (hh : h < 10) (k : Nat) : lh c α β e h k = mn (fun a => cst c α β (lh c α β e (h + 1)) h a k) 6 := by
  unfold lh
  rw [show 10 - h = (10 - (h + 1)) + 1 by omega, lf, show 9 - (10 - (h + 1)) = h by omega]
theorem mn_le (F : Nat → Nat) : ∀ n, mn F n ≤ FAR
  | 0 => Nat.le_refl _
  | n + 1 => by
    have := mn_le F n
    rw [mn]
    split <;> omega
theorem mn_lb (F : Nat → Nat) : ∀ n a, a < n → mn F n ≤ F a
  | 0, a, h => by omega
  | n + 1, a, h => by
    rw [mn]
    by_cases e : a = n
    · subst e
      split <;> omega
    · have := mn_lb F n a (by omega)
      split <;> omega
theorem mn_at (F : Nat → Nat) : ∀ n, mn F n < FAR → ∃ a, a < n ∧ F a = mn F n
  | 0, h => absurd h (Nat.lt_irrefl _)
  | n + 1, h => by
    rw [mn] at h ⊢
    by_cases q : F n < mn F n
    · rw [if_pos q]; exact ⟨n, by omega, rfl⟩
    · rw [if_neg q] at h ⊢
      obtain ⟨a, h1, h2⟩ := mn_at F n h
      exact ⟨a, by omega, h2⟩
theorem mn_const {F : Nat → Nat} (h : ∀ a, F a = F 0) (hF : F 0 ≤ FAR) : ∀ n, mn F (n + 1) = F 0
  | 0 => by
    rw [mn, mn]
    by_cases q : F 0 < FAR
    · rw [if_pos q]
    · rw [if_neg q]; omega
  | n + 1 => by
    rw [mn, mn_const h hF n, h (n + 1), if_neg (Nat.lt_irrefl _)]
theorem lh_le (c : Cl) (α β e h k : Nat) : lh c α β e h k ≤ FAR := by
  unfold lh
  cases 10 - h with
  | zero =>
    rw [lf]
    split
    · exact Nat.zero_le _
    · exact Nat.le_refl _
  | succ d => rw [lf]; exact mn_le _ _
theorem pz_le {c : Cl} (w : WF c) {h a k : Nat} (hp : ps c h k = true) (ha : a ≤ 5) : pz c h a k ≤ 18 := zw_le w (ps_ZI w hp) ha
theorem rz_le {c : Cl} (w : WF c) {h k : Nat} : rz c h k ≤ 9 := zr_le w
theorem pri_le {c : Cl} (w : WF c) {α β h a k : Nat} (hα : α ≤ 9) (hβ : β ≤ 9) (hp : ps c h k = true) (ha : a ≤ 5) : pri c α β h a k ≤ 243 := by
  have h1 : α * pz c h a k ≤ 9 * 18 := Nat.mul_le_mul hα (pz_le w hp ha)
  have h2 : β * rz c h k ≤ 9 * 9 := Nat.mul_le_mul hβ (rz_le w)
  unfold pri
  omega
theorem cst_na {c : Cl} {α β : Nat} {L : Nat → Nat} {h k : Nat} (e : aq c h k = false) (a a' : Nat) : cst c α β L h a k = cst c α β L h a' k := by
  unfold aq at e
  cases hp : ps c h k with
  | false =>
    have : ∀ a, st c h a k = none := fun a => by
      unfold st
      rw [hp, Bool.false_and, if_neg nft]
    unfold cst
    rw [this, this]
  | true =>
    rw [hp, Bool.true_and] at e
    obtain ⟨g1, g2⟩ := st_na e a a'
    unfold cst pri
    rw [g1, g2]
theorem cst_le {c : Cl} (w : WF c) {α β : Nat} (hα : α ≤ 9) (hβ : β ≤ 9) {L : Nat → Nat} (hL : ∀ k, L k ≤ FAR) {h a k : Nat} (ha : a ≤ 5) : cst c α β L h a k ≤ FAR + 243 := by
  unfold cst
  cases e : st c h a k with
  | none => exact Nat.le_add_right _ _
  | some k' =>
    have h1 := pri_le w hα hβ (st_some w e).1 ha
    have h2 := hL k'
    show (if L k' = FAR then FAR else L k' + pri c α β h a k) ≤ _
    split <;> omega
/-- the act that is chosen; where it leads -/
def chA (c : Cl) (α β e h k : Nat) : Nat := (lo (fun a => decide (cst c α β (lh c α β e (h + 1)) h a k = lh c α β e h k)) 0 6).getD 0
def wy (c : Cl) (α β e : Nat) : Nat → Nat
  | 0 => e
  | h + 1 => (st c h (chA c α β e h (wy c α β e h)) (wy c α β e h)).getD 0
theorem chA_spec {c : Cl} (w : WF c) {α β e h k : Nat} (hh : h < 10) (hl : lh c α β e h k < FAR) : ∃ a k', lo (fun a => decide (cst c α β (lh c α β e (h + 1)) h a k = lh c α β e h k)) 0 6 = some a ∧ a < 6 ∧ chA c α β e h k = a ∧ st c h a k = some k' ∧ lh c α β e (h + 1) k' < FAR ∧ lh c α β e h k = lh c α β e (h + 1) k' + pri c α β h a k := by
  have hs := lh_step c α β e hh k
  cases el : lo (fun a => decide (cst c α β (lh c α β e (h + 1)) h a k = lh c α β e h k)) 0 6 with
  | none =>
    exfalso
    rw [hs] at hl
    obtain ⟨a, h1, h2⟩ := mn_at _ 6 hl
    have := lo_none el a (Nat.zero_le _) (by omega)
    simp only [decide_eq_false_iff_not] at this
    rw [hs] at this
    exact this h2
  | some a =>
    obtain ⟨-, h1, h2, -⟩ := lo_some el
    simp only [decide_eq_true_eq] at h2
    refine ⟨a, ?_⟩
    have e1 : chA c α β e h k = a := by unfold chA; rw [el]; rfl
    unfold cst at h2
    cases es : st c h a k with
    | none => rw [es] at h2; exact absurd h2 (by show ¬ FAR = _; omega)
    | some k' =>
      rw [es] at h2
      have h3 : (if lh c α β e (h + 1) k' = FAR then FAR else lh c α β e (h + 1) k' + pri c α β h a k) = lh c α β e h k := h2
      have h4 := lh_le c α β e (h + 1) k'
      by_cases q : lh c α β e (h + 1) k' = FAR
      · rw [if_pos q] at h3; omega
      · rw [if_neg q] at h3
        exact ⟨k', rfl, by omega, e1, rfl, by omega, h3.symm⟩
theorem wy_spec {c : Cl} (w : WF c) {α β e : Nat} (he : Bg c e) (hl : lh c α β e 0 e < FAR) : ∀ h, h ≤ 10 → ps c h (wy c α β e h) = true ∧ lh c α β e h (wy c α β e h) < FAR
  | 0, _ => ⟨by
      show ps c 0 e = true
      unfold ps
      have := he.lt16 w
      rw [if_neg (by omega)]
      exact bgb_iff.mpr he, hl⟩
  | h + 1, hh => by
    obtain ⟨h1, h2⟩ := wy_spec w he hl h (by omega)
    obtain ⟨a, k', -, -, e1, e2, e3, -⟩ := chA_spec w (by omega) h2
    have : wy c α β e (h + 1) = k' := by
      show (st c h (chA c α β e h (wy c α β e h)) (wy c α β e h)).getD 0 = k'
      rw [e1, e2]; rfl
    rw [this]
    exact ⟨(st_some w e2).2.2.2, e3⟩
theorem chA_0 {c : Cl} (w : WF c) {α β e h k : Nat} (hh : h < 10) (hl : lh c α β e h k < FAR) (hn : aq c h k = false) : chA c α β e h k = 0 := by
  obtain ⟨a, k', e1, e2, e3, -⟩ := chA_spec w hh hl
  obtain ⟨-, -, h3, h4⟩ := lo_some e1
  rw [e3]
  cases a with
  | zero => rfl
  | succ a =>
    have := h4 0 (Nat.le_refl _) (by omega)
    simp only [decide_eq_true_eq] at h3
    simp only [decide_eq_false_iff_not] at this
    rw [cst_na hn 0 (a + 1)] at this
    exact absurd h3 this
/-- the best begin of the first spots -/
def vE (c : Cl) (α β e : Nat) : Nat := lh c α β e 0 e
def bv (c : Cl) (α β : Nat) : Option Nat → Nat
  | none => FAR
  | some e => vE c α β e
def bs (c : Cl) (α β : Nat) : Nat → Option Nat
  | 0 => none
  | s + 1 => if (bgb c (kw s) && decide (vE c α β (kw s) < bv c α β (bs c α β s))) = true then some (kw s) else bs c α β s
theorem bs_some {c : Cl} {α β : Nat} : ∀ {s e : Nat}, bs c α β s = some e → Bg c e ∧ vE c α β e < FAR
  | 0, e, h => by cases h
  | s + 1, e, h => by
    rw [bs] at h
    by_cases q : (bgb c (kw s) && decide (vE c α β (kw s) < bv c α β (bs c α β s))) = true
    · rw [if_pos q] at h
      have e1 := Option.some.inj h
      rw [Bool.and_eq_true, decide_eq_true_eq] at q
      rw [← e1]
      refine ⟨bgb_iff.mp q.1, ?_⟩
      have : bv c α β (bs c α β s) ≤ FAR := by
        cases bs c α β s with
        | none => exact Nat.le_refl _
        | some e => exact lh_le _ _ _ _ _ _
      omega
    · rw [if_neg q] at h
      exact bs_some h
theorem isStep_X {h s a : Nat} (hh : h < 10) (hs : s < 11) (ha : a < 6) : F_X8_isStep (nI h) (nI s) (nI a) = 1 := by
  unfold F_X8_isStep
  rw [if_neg (nI_pos (by omega)), if_neg (le_lit (K := 10) 10 rfl hh (by decide)), if_neg (nI_pos (by omega)), if_neg (le_lit (K := 11) 11 rfl hs (by decide)), if_neg (nI_pos (by omega)), if_neg (le_lit (K := 6) 6 rfl ha (by decide))]
section WX3
variable {c : Cl} {nx wk rk at' : Nat → Int32}
theorem spotAfter_X (T : TB c nx wk rk at') {h k a : Nat} (hh : h < 10) (hk : Vk k) (ha : a < 6) : ok_X8_spotAfter (nI h) (nI (sp k)) (nI a) ∧ F_X8_spotAfter nx (nI h) (nI (sp k)) (nI a) = sI (st c h a k) := by
  have hs := sp_le k
  unfold ok_X8_spotAfter F_X8_spotAfter
  rw [isStep_X hh (by omega) ha, if_neg i10, ix11, ix6, nI_clamp (by omega)]
  exact ⟨fun _ => vp_in_nI (by omega) (by decide), ((T h k hh hk).1 a ha).1⟩
theorem priceOf_X (T : TB c nx wk rk at') {h k a α β : Nat} (hh : h < 10) (hk : Vk k) (ha : a < 6) (hp : ps c h k = true) : ok_X8_priceOf (nI h) (nI (sp k)) (nI a) ∧ F_X8_priceOf wk rk (nI h) (nI (sp k)) (nI a) (nI α) (nI β) = nI (pri c α β h a k) := by
  have hs := sp_le k
  unfold ok_X8_priceOf F_X8_priceOf
  rw [isStep_X hh (by omega) ha, if_neg i10, ix11, ix6, nI_clamp (by omega), nI_clamp (by omega), ((T h k hh hk).1 a ha).2 hp, (T h k hh hk).2.1 hp, pk_mul, pk_mul, nI_add]
  exact ⟨fun _ => ⟨vp_in_nI (by omega) (by decide), vp_in_nI (by omega) (by decide)⟩, rfl⟩
theorem choicesAt_X (T : TB c nx wk rk at') {h k : Nat} (hh : h < 10) (hk : Vk k) : ok_X8_choicesAt (nI h) (nI (sp k)) ∧ F_X8_choicesAt at' (nI h) (nI (sp k)) = nI (if aq c h k = true then 6 else 1) := by
  have hs := sp_le k
  unfold ok_X8_choicesAt F_X8_choicesAt
  rw [show F_X8_isStep (nI h) (nI (sp k)) 0 = 1 from isStep_X (a := 0) hh (by omega) (by decide), if_neg i10, ix11, nI_clamp (by omega), (T h k hh hk).2.2]
  refine ⟨fun _ => vp_in_nI (by omega) (by decide), ?_⟩
  cases aq c h k <;> rfl
theorem priceBy_X (w : WF c) (T : TB c nx wk rk at') {α β : Nat} (hα : α ≤ 9) (hβ : β ≤ 9) {pg : Nat → Int32} {L : Nat → Nat} {h : Nat} (hh : h < 10) (hL : ∀ k, Vk k → pg ((h + 1) * 11 + sp k) = nI (L k)) (hL2 : ∀ k, L k ≤ FAR) {k a : Nat} (hk : Vk k) (ha : a < 6) :
    ok_X9_priceBy nx pg (nI h) (nI (sp k)) (nI a) ∧ F_X9_priceBy (nI α) (nI β) nx wk rk pg (nI h) (nI (sp k)) (nI a) = nI (cst c α β L h a k) := by
  obtain ⟨s1, s2⟩ := spotAfter_X T hh hk ha
  unfold ok_X9_priceBy F_X9_priceBy
  rw [s2]
  unfold cst
  cases e : st c h a k with
  | none =>
    have e9 : sI none = -9 := rfl
    rw [e9, if_neg (by decide)]
    exact ⟨⟨s1, fun q => absurd q (by decide)⟩, rfl⟩
  | some k' =>
    have e9 : sI (some k') = nI (sp k') := rfl
    obtain ⟨q1, q2, q3, q4⟩ := st_some w e
    have hk' := ps_vk w q4
    have hs' := sp_le k'
    obtain ⟨p1, p2⟩ := priceOf_X T (α := α) (β := β) hh hk ha q1
    have hl := hL2 k'
    have hF : (nI (L k') = (1000000 : Int32)) ↔ L k' = FAR := eq_lit (K := FAR) 1000000 rfl (by unfold FAR at hl; omega) (by decide)
    rw [e9, if_pos (nI_pos' (by omega)), nI_1, ix11, nI_clamp (by omega), hL k' hk', p2, nI_add]
    refine ⟨⟨s1, fun _ => ⟨vp_in_nI (by omega) (by decide), fun _ => p1⟩⟩, ?_⟩
    show _ = nI (if L k' = FAR then FAR else L k' + pri c α β h a k)
    by_cases q : L k' = FAR
    · rw [if_pos (hF.mpr q), if_pos q]; rfl
    · rw [if_neg (fun q' => q (hF.mp q')), if_neg q]
theorem la_loop (w : WF c) (T : TB c nx wk rk at') {α β : Nat} (hα : α ≤ 9) (hβ : β ≤ 9) {pg : Nat → Int32} {L : Nat → Nat} {h : Nat} (hh : h < 10) (hL : ∀ k, Vk k → pg ((h + 1) * 11 + sp k) = nI (L k)) (hL2 : ∀ k, L k ≤ FAR) {k m : Nat} (hk : Vk k) (hm : m ≤ 6) : ∀ n a, a ≤ m → m < a + n →
    ok_X9_leastAt_L17 (nI α) (nI β) nx wk rk pg (nI h) (nI (sp k)) (nI m) n (nI (mn (fun a => cst c α β L h a k) a)) (nI a) ∧ F_X9_leastAt_L17 (nI α) (nI β) nx wk rk pg (nI h) (nI (sp k)) (nI m) n (nI (mn (fun a => cst c α β L h a k) a)) (nI a) = nI (mn (fun a => cst c α β L h a k) m) := by
  intro n
  induction n with
  | zero => intro a h1 h2; omega
  | succ n ih =>
    intro a h1 h2
    rw [ok_X9_leastAt_L17_s, F_X9_leastAt_L17_s]
    by_cases e : a = m
    · subst e
      rw [if_pos (Int32.le_refl _)]
      exact ⟨fun q => absurd (Int32.le_refl _) q, rfl⟩
    · obtain ⟨p1, p2⟩ := priceBy_X w T hα hβ hh hL hL2 (k := k) (a := a) hk (by omega)
      have hc := cst_le w hα hβ hL2 (h := h) (a := a) (k := k) (by omega)
      have hm' := mn_le (fun a => cst c α β L h a k) a
      unfold FAR at hc hm'
      have es : (if nI (cst c α β L h a k) < nI (mn (fun a => cst c α β L h a k) a) then nI (cst c α β L h a k) else nI (mn (fun a => cst c α β L h a k) a)) = nI (mn (fun a => cst c α β L h a k) (a + 1)) := by
        rw [mn]
        by_cases q : cst c α β L h a k < mn (fun a => cst c α β L h a k) a
        · rw [if_pos (nI_lt q (by omega)), if_pos q]
        · rw [if_neg (nI_nlt (by omega) (by omega)), if_neg q]
      rw [if_neg (nI_ge (by omega) (by omega)), p2, es]
      dsimp only
      unfold ok_X9_leastAt_17_b38 F_X9_leastAt_17_b38
      rw [nI_1]
      obtain ⟨g1, g2⟩ := ih (a + 1) (by omega) (by omega)
      exact ⟨fun _ => ⟨p1, g1⟩, g2⟩
theorem leastAt_X (w : WF c) (T : TB c nx wk rk at') {α β : Nat} (hα : α ≤ 9) (hβ : β ≤ 9) {pg : Nat → Int32} {L : Nat → Nat} {h : Nat} (hh : h < 10) (hL : ∀ k, Vk k → pg ((h + 1) * 11 + sp k) = nI (L k)) (hL2 : ∀ k, L k ≤ FAR) {k : Nat} (hk : Vk k) :
    ok_X9_leastAt (nI α) (nI β) nx wk rk at' pg (nI h) (nI (sp k)) ∧ F_X9_leastAt (nI α) (nI β) nx wk rk at' pg (nI h) (nI (sp k)) = nI (mn (fun a => cst c α β L h a k) 6) := by
  obtain ⟨c1, c2⟩ := choicesAt_X T hh hk
  have hm : (if aq c h k = true then 6 else 1) ≤ 6 := by split <;> decide
  obtain ⟨g1, g2⟩ := la_loop w T hα hβ hh hL hL2 hk hm FU 0 (Nat.zero_le _) (by have := FU_ge; omega)
  unfold ok_X9_leastAt F_X9_leastAt
  rw [c2]
  refine ⟨⟨c1, g1⟩, ?_⟩
  refine Eq.trans g2 ?_
  cases e : aq c h k with
  | true => rw [if_pos rfl]
  | false =>
    rw [if_neg nft]
    by_cases q : cst c α β L h 0 k ≤ FAR
    · rw [mn_const (F := fun a => cst c α β L h a k) (fun a => cst_na e a 0) q 0, mn_const (F := fun a => cst c α β L h a k) (fun a => cst_na e a 0) q 5]
    · have hF : ∀ n, mn (fun a => cst c α β L h a k) n = FAR := by
        intro n
        induction n with
        | zero => rfl
        | succ n ih => rw [mn, ih, if_neg (by rw [cst_na e n 0]; omega)]
      rw [hF, hF]
end WX3

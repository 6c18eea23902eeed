/-! weeks -/
def wz (c : Cl) (A : Nat → Nat) (g : Nat → Bool) (k : Nat) : Nat → Zt
  | 0 => (k, 0, 0)
  | h + 1 => zN c h (A h) (g h) (wz c A g k h)
def wW (c : Cl) (A : Nat → Nat) (g : Nat → Bool) (k : Nat) : Nat → Nat
  | 0 => 0
  | h + 1 => wW c A g k h + zw c h (A h) (g h) (wz c A g k h)
def wR (c : Cl) (A : Nat → Nat) (g : Nat → Bool) (k : Nat) : Nat → Nat
  | 0 => 0
  | h + 1 => wR c A g k h + zr c h (wz c A g k h)
def wT (c : Cl) (A : Nat → Nat) (g : Nat → Bool) (k : Nat) : Nat → Nat
  | 0 => 0
  | h + 1 => wT c A g k h + zn c h (wz c A g k h)
def wSn (c : Cl) (A : Nat → Nat) (g : Nat → Bool) (k : Nat) : Nat → Int32
  | 0 => 0
  | h + 1 => zS c h (wz c A g k h)
def wAc (c : Cl) (A : Nat → Nat) (g : Nat → Bool) (k : Nat) : Nat → Bool
  | 0 => false
  | h + 1 => za c h (A h) (g h) (wz c A g k h)
theorem wz_ZI {c : Cl} (w : WF c) {A : Nat → Nat} {g : Nat → Bool} {k : Nat} (hk : Bg c k) : ∀ h, ZI c (wz c A g k h)
  | 0 => ⟨Or.inl hk, Sb_0 c, Sb_0 c⟩
  | h + 1 => zN_ZI w (wz_ZI w hk h)
/-- what is left of the class's bits of forgetting -/
def cz (c : Cl) (A : Nat → Nat) (k b : Nat) : Nat → Zt × Nat
  | 0 => ((k, 0, 0), b)
  | h + 1 => (zN c h (A h) (decide ((cz c A k b h).2 % 2 = 1)) (cz c A k b h).1, if za c h (A h) (decide ((cz c A k b h).2 % 2 = 1)) (cz c A k b h).1 = true then (cz c A k b h).2 / 2 else (cz c A k b h).2)
def fgC (c : Cl) (A : Nat → Nat) (k b : Nat) (h : Nat) : Bool := decide ((cz c A k b h).2 % 2 = 1)
theorem cz_wz (c : Cl) (A : Nat → Nat) (k b : Nat) : ∀ h, (cz c A k b h).1 = wz c A (fgC c A k b) k h
  | 0 => rfl
  | h + 1 => by
    show zN c h (A h) (fgC c A k b h) (cz c A k b h).1 = zN c h (A h) (fgC c A k b h) (wz c A (fgC c A k b) k h)
    rw [cz_wz c A k b h]
theorem cz_le (c : Cl) (A : Nat → Nat) (k b : Nat) : ∀ h, (cz c A k b h).2 ≤ b
  | 0 => Nat.le_refl _
  | h + 1 => by
    have := cz_le c A k b h
    show (if za c h (A h) (decide ((cz c A k b h).2 % 2 = 1)) (cz c A k b h).1 = true then (cz c A k b h).2 / 2 else (cz c A k b h).2) ≤ b
    split
    · exact Nat.le_trans (Nat.div_le_self _ _) this
    · exact this
def nf : Nat → Bool := fun _ => false
theorem fgC_0 (c : Cl) (A : Nat → Nat) (k : Nat) : fgC c A k 0 = nf := by
  funext h
  unfold fgC nf
  have := cz_le c A k 0 h
  rw [show (cz c A k 0 h).2 = 0 by omega]
  rfl
theorem actAt_X {ac : Nat → Int32} {h a : Nat} (hh : h < 10) (e : ac h = nI a) (ha : a ≤ 5) : ok_X5_actAt ac (nI h) ∧ F_X5_actAt ac (nI h) = nI a := by
  have hv : vp_in (nI h) 10 := vp_in_nI hh (by decide)
  unfold ok_X5_actAt F_X5_actAt ok_X5_isTold F_X5_isTold
  rw [isHour_nI hh, if_neg (by decide), nI_clamp (by omega), e]
  have key : ∀ n, n < 6 → ¬ nI n = (-9 : Int32) := by decide
  rw [if_neg (key a (by omega)), if_neg (by decide)]
  exact ⟨⟨fun _ => hv, fun _ => hv⟩, rfl⟩
theorem upd_next {α : Type} (G : Nat → Int32) (f : Nat → Int32) (h : Nat) : upd (fun j => if j < h then G j else f j) h (G h) = fun j => if j < h + 1 then G j else f j := by
  funext j
  by_cases e : j = h
  · subst e
    rw [pk_us, if_pos (by omega)]
  · rw [pk_un e]
    by_cases q : j < h
    · rw [if_pos q, if_pos (by omega)]
    · rw [if_neg q, if_neg (by omega)]
section WX1
variable {c : Cl} {pe se pl ow : Int32} {pr mi ri oF oL ho be en co nc : Nat → Int32}
theorem run_loop (R : RX c pe se pl ow pr mi ri oF oL ho be en co nc) {ac : Nat → Int32} {A : Nat → Nat} (hA : ∀ h, h < 10 → ac h = nI (A h) ∧ A h ≤ 5) {k b : Nat} (hk : Bg c k) (hb : b < 2 ^ 20) (kA sA : Nat → Int32) (g : Nat → Bool) (hg : g = fgC c A k b) : ∀ n h, h ≤ 10 → 10 < h + n →
    ok_X10_run_L15 pe se pl ow pr mi ri oF oL ho be en co nc ac n (nI (h % 10)) (nI (wz c A g k h).1) (wz c A g k h).2.1 (wz c A g k h).2.2 (nI (wW c A g k h)) (nI (wR c A g k h)) (nI (wT c A g k h)) (wSn c A g k h) (bI (wAc c A g k h)) (fun j => if j < h then nI (wz c A g k j).1 else kA j) (fun j => if j < h then zS c j (wz c A g k j) else sA j) (nI (cz c A k b h).2) (nI h) ∧
    F_X10_run_L15 pe se pl ow pr mi ri oF oL ho be en co nc ac n (nI (h % 10)) (nI (wz c A g k h).1) (wz c A g k h).2.1 (wz c A g k h).2.2 (nI (wW c A g k h)) (nI (wR c A g k h)) (nI (wT c A g k h)) (wSn c A g k h) (bI (wAc c A g k h)) (fun j => if j < h then nI (wz c A g k j).1 else kA j) (fun j => if j < h then zS c j (wz c A g k j) else sA j) (nI (cz c A k b h).2) (nI h) =
      (0, nI (wz c A g k 10).1, (wz c A g k 10).2.1, (wz c A g k 10).2.2, nI (wW c A g k 10), nI (wR c A g k 10), nI (wT c A g k 10), wSn c A g k 10, bI (wAc c A g k 10), (fun j => if j < 10 then nI (wz c A g k j).1 else kA j), (fun j => if j < 10 then zS c j (wz c A g k j) else sA j)) := by
  have wf := R.1
  intro n
  induction n with
  | zero => intro h h1 h2; omega
  | succ n ih =>
    intro h h1 h2
    rw [ok_X10_run_L15_s, F_X10_run_L15_s]
    by_cases h10 : h = 10
    · subst h10
      rw [if_pos (show (10 : Int32) ≤ nI 10 by decide)]
      exact ⟨fun q => absurd (by decide) q, rfl⟩
    · have hh : h < 10 := by omega
      obtain ⟨a1, a2⟩ := hA h hh
      obtain ⟨t1, t2⟩ := actAt_X hh a1 a2
      have hcz := cz_le c A k b h
      have hf : g h = decide (¬ (if (nI (cz c A k b h).2 &&& (1 : Int32)) = 0 then (0 : Int32) else 1) = 0) := by
        rw [hg, pk_andN (by omega) (m := 1) 1 (by decide)]
        unfold fgC
        rcases Nat.mod_two_eq_zero_or_one (cz c A k b h).2 with e | e
        · rw [e]; rfl
        · rw [e]; rfl
      obtain ⟨p1, p2⟩ := ph_X R hh a2 (wz_ZI wf hk h) (nI (wW c A g k h)) (nI (wR c A g k h)) (nI (wT c A g k h)) (wSn c A g k h) _ (g h) hf
      obtain ⟨g1, g2⟩ := ih (h + 1) (by omega) (by omega)
      rw [if_neg (le_lit (K := 10) 10 rfl hh (by decide)), t2, Nat.mod_eq_of_lt hh, p2]
      dsimp only
      unfold ok_X10_run_15_b62 F_X10_run_15_b62
      have hs2 : nI (cz c A k b h).2 >>> ((1 : Int32) &&& 31) = nI ((cz c A k b h).2 / 2) := pk_shrN (by omega) _ 1 (by decide)
      have hv : vp_in (nI h) 10 := vp_in_nI hh (by decide)
      have e3 : (cz c A k b (h + 1)).2 = if za c h (A h) (g h) (wz c A g k h) = true then (cz c A k b h).2 / 2 else (cz c A k b h).2 := by
        rw [hg, ← cz_wz]; rfl
      rw [nI_clamp (by omega), nI_1, upd_next (α := Nat) (fun j => nI (wz c A g k j).1), upd_next (α := Nat) (fun j => zS c j (wz c A g k j)), hs2, nI_add, nI_add, nI_add]
      cases hz : za c h (A h) (g h) (wz c A g k h) with
      | false =>
        rw [hz, if_neg (by decide)] at e3
        rw [e3] at g1 g2
        have e4 : bI (wAc c A g k (h + 1)) = bI false := by show bI (za c h (A h) (g h) (wz c A g k h)) = _; rw [hz]
        rw [e4] at g1 g2
        rw [if_pos bI_f]
        exact ⟨fun _ => ⟨hv, t1, p1, hv, fun _ => g1, fun q => absurd rfl q⟩, g2⟩
      | true =>
        rw [hz, if_pos rfl] at e3
        rw [e3] at g1 g2
        have e4 : bI (wAc c A g k (h + 1)) = bI true := by show bI (za c h (A h) (g h) (wz c A g k h)) = _; rw [hz]
        rw [e4] at g1 g2
        rw [if_neg bI_tn]
        exact ⟨fun _ => ⟨hv, t1, p1, hv, fun q => absurd q (by decide), fun _ => g1⟩, g2⟩
/-- a week of the class, with bits of forgetting -/
theorem run_Xb (R : RX c pe se pl ow pr mi ri oF oL ho be en co nc) {ac : Nat → Int32} {A : Nat → Nat} (hA : ∀ h, h < 10 → ac h = nI (A h) ∧ A h ≤ 5) {k b : Nat} (hk : Bg c k) (hb : b < 2 ^ 20) (kA sA : Nat → Int32) (g : Nat → Bool) (hg : g = fgC c A k b) :
    ok_X10_run kA sA pe se pl ow pr mi ri oF oL ho be en co nc ac (nI k) (nI b) ∧ F_X10_run kA sA pe se pl ow pr mi ri oF oL ho be en co nc ac (nI k) (nI b) =
      (0, nI (wz c A g k 10).1, (wz c A g k 10).2.1, (wz c A g k 10).2.2, nI (wW c A g k 10), nI (wR c A g k 10), nI (wT c A g k 10), wSn c A g k 10, bI (wAc c A g k 10), (fun j => if j < 10 then nI (wz c A g k j).1 else kA j), (fun j => if j < 10 then zS c j (wz c A g k j) else sA j)) := by
  have h := run_loop R hA hk hb kA sA g hg FU 0 (by decide) (by have := FU_ge; omega)
  have eA : (fun j => if j < 0 then nI (wz c A g k j).1 else kA j) = kA := by funext j; rw [if_neg (by omega)]
  have eS : (fun j => if j < 0 then zS c j (wz c A g k j) else sA j) = sA := by funext j; rw [if_neg (by omega)]
  rw [eA, eS] at h
  exact h
theorem run_X (R : RX c pe se pl ow pr mi ri oF oL ho be en co nc) {ac : Nat → Int32} {A : Nat → Nat} (hA : ∀ h, h < 10 → ac h = nI (A h) ∧ A h ≤ 5) {k : Nat} (hk : Bg c k) (kA sA : Nat → Int32) :
    ok_X10_run kA sA pe se pl ow pr mi ri oF oL ho be en co nc ac (nI k) 0 ∧ F_X10_run kA sA pe se pl ow pr mi ri oF oL ho be en co nc ac (nI k) 0 =
      (0, nI (wz c A nf k 10).1, (wz c A nf k 10).2.1, (wz c A nf k 10).2.2, nI (wW c A nf k 10), nI (wR c A nf k 10), nI (wT c A nf k 10), wSn c A nf k 10, bI (wAc c A nf k 10), (fun j => if j < 10 then nI (wz c A nf k j).1 else kA j), (fun j => if j < 10 then zS c j (wz c A nf k j) else sA j)) :=
  run_Xb R hA hk (by decide) kA sA nf (fgC_0 c A k).symm
end WX1
section WY1
variable {c : Cl} {se ow : Int32} {wh fr to th mi ri op sh ho : Nat → Int32}
theorem go_loop (R : RY c se ow wh fr to th mi ri op sh ho) {ac : Nat → Int32} {A : Nat → Nat} {r : Nat} (hr : r ≤ 3) (hA : ∀ h, h < 10 → ac (10 * r + h) = nI (A h) ∧ A h ≤ 5) {k u : Nat} (hk : Bg c k) (hu : u ≤ 10) : ∀ n h d s m, h ≤ u → u < h + n →
    ok_X12_go_L8 se ow wh fr to th mi ri op sh ho ac (nI r) (nI u) n (nI (wz c A nf k h).1) (wz c A nf k h).2.1 (wz c A nf k h).2.2 (nI (wW c A nf k h)) (nI (wR c A nf k h)) (nI (wT c A nf k h)) d s m (nI h) ∧
    ∃ d' m', F_X12_go_L8 se ow wh fr to th mi ri op sh ho ac (nI r) (nI u) n (nI (wz c A nf k h).1) (wz c A nf k h).2.1 (wz c A nf k h).2.2 (nI (wW c A nf k h)) (nI (wR c A nf k h)) (nI (wT c A nf k h)) d s m (nI h) =
      (nI (wz c A nf k u).1, (wz c A nf k u).2.1, (wz c A nf k u).2.2, nI (wW c A nf k u), nI (wR c A nf k u), nI (wT c A nf k u), d', (if h = u then s else wSn c A nf k u), m') := by
  have wf := R.1
  intro n
  induction n with
  | zero => intro h d s m h1 h2; omega
  | succ n ih =>
    intro h d s m h1 h2
    rw [ok_X12_go_L8_s, F_X12_go_L8_s]
    by_cases h10 : h = u
    · subst h10
      rw [if_pos (Int32.le_refl _), if_pos rfl]
      exact ⟨fun q => absurd (Int32.le_refl _) q, d, m, rfl⟩
    · have hh : h < 10 := by omega
      obtain ⟨a1, a2⟩ := hA h hh
      have ei : (10 : Int32) * nI r + nI h = nI (10 * r + h) := by rw [show (10 : Int32) * nI r = nI (10 * r) from pk_mul 10 r, nI_add]
      obtain ⟨p1, p2⟩ := ps_Y R hh a2 (wz_ZI (A := A) (g := nf) wf hk h) (nI (wW c A nf k h)) (nI (wR c A nf k h)) (nI (wT c A nf k h)) 0 (nf h) rfl
      rw [if_neg (nI_ge (by omega) (by omega)), ei, nI_clamp (by omega), a1, p2]
      dsimp only
      unfold ok_X12_go_8_b33 F_X12_go_8_b33
      rw [nI_1, nI_add, nI_add, nI_add]
      obtain ⟨g1, d', m', g2⟩ := ih (h + 1) (bI (za c h (A h) (nf h) (wz c A nf k h))) (zS c h (wz c A nf k h)) (bI (zm c h (A h) (nf h) (wz c A nf k h))) (by omega) (by omega)
      refine ⟨fun _ => ⟨vp_in_nI (by omega) (by decide), p1, g1⟩, d', m', ?_⟩
      refine Eq.trans g2 ?_
      rw [if_neg h10]
      by_cases h3 : h + 1 = u
      · subst h3; rw [if_pos rfl]; rfl
      · rw [if_neg h3]
/-- hours of a week of the reference -/
theorem go_Y (R : RY c se ow wh fr to th mi ri op sh ho) {ac : Nat → Int32} {A : Nat → Nat} {r : Nat} (hr : r ≤ 3) (hA : ∀ h, h < 10 → ac (10 * r + h) = nI (A h) ∧ A h ≤ 5) {k u : Nat} (hk : Bg c k) (hu : u ≤ 10) (d s m : Int32) :
    ok_X12_go se ow d s m wh fr to th mi ri op sh ho ac (nI r) (nI k) (nI u) ∧
    ∃ d' m', F_X12_go se ow d s m wh fr to th mi ri op sh ho ac (nI r) (nI k) (nI u) =
      (nI (wz c A nf k u).1, (wz c A nf k u).2.1, (wz c A nf k u).2.2, nI (wW c A nf k u), nI (wR c A nf k u), nI (wT c A nf k u), d', (if 0 = u then s else wSn c A nf k u), m') :=
  go_loop R hr hA hk hu FU 0 d s m (Nat.zero_le _) (by have := FU_ge; omega)
end WY1

/-! calls: a row judged; the cheapest handing on -/
theorem lt9 {x : Int32} : (9 : Int32) < x ↔ (10 : Int32) ≤ x := by
  rw [Int32.lt_iff_toInt_lt, Int32.le_iff_toInt_le]
  show (9 : Int) < x.toInt ↔ (10 : Int) ≤ x.toInt
  omega
theorem hr_if {α : Type} (x : Int32) (p q : α) : (if x < 0 then p else if (9 : Int32) < x then p else q) = if F_X11_isHour x = 0 then p else q := by
  unfold F_X11_isHour
  by_cases h0 : x < 0
  · rw [if_pos h0, if_pos h0, if_pos rfl]
  · rw [if_neg h0, if_neg h0]
    by_cases h1 : (10 : Int32) ≤ x
    · rw [if_pos (lt9.mpr h1), if_pos h1, if_pos rfl]
    · rw [if_neg (fun y => h1 (lt9.mp y)), if_neg h1, if_neg i10]
theorem prc (x y : Int32) : (F_X11_arePrices x y = 0 ∧ F_X12_noPrice x y = 1) ∨ ∃ α β, α ≤ 9 ∧ β ≤ 9 ∧ x = nI α ∧ y = nI β ∧ F_X11_arePrices x y = 1 ∧ F_X12_noPrice x y = 0 := by
  unfold F_X12_noPrice F_X11_arePrices
  rw [in_09, in_09, hr_if x, hr_if y]
  rcases hou x with ⟨e1, -⟩ | ⟨α, h1, ex, e1, -⟩
  · rw [e1, if_pos rfl, if_pos rfl]; exact Or.inl ⟨rfl, rfl⟩
  · rw [e1, if_neg i10, if_neg i10]
    rcases hou y with ⟨f1, -⟩ | ⟨β, h2, fx, f1, -⟩
    · rw [f1, if_pos rfl, if_pos rfl]; exact Or.inl ⟨rfl, rfl⟩
    · rw [f1, if_neg i10, if_neg i10]; exact Or.inr ⟨α, β, by omega, by omega, ex, fx, rfl, rfl⟩
def jP (row K : Nat → Int32) (h : Nat) : Bool := !(decide (row h = 99) || decide (row h = K h))
theorem jP_1 {row K : Nat → Int32} {j : Nat} (h : row j = 99) : jP row K j = false := by
  unfold jP; rw [decide_eq_true h]; rfl
theorem jP_2 {row K : Nat → Int32} {j : Nat} (h : row j = K j) : jP row K j = false := by
  unfold jP; rw [decide_eq_true h, Bool.or_true]; rfl
theorem jP_3 {row K : Nat → Int32} {j : Nat} (h1 : ¬ row j = 99) (h2 : ¬ row j = K j) : jP row K j = true := by
  unfold jP; rw [decide_eq_false h1, decide_eq_false h2]; rfl
theorem jdX_loop {row row' kA K : Nat → Int32} (hr : ∀ h, h < 10 → row h = row' h) (hK : ∀ h, h < 10 → kA h = K h) {kx : Int32 × Int32 × Int32 × Int32 × Int32 × Int32 × Int32 × Int32 × Int32 × Int32 × (Nat → Int32) × (Nat → Int32)} {w1 w2 w3 w4 w5 w6 w7 w8 w9 : Int32} {sA : Nat → Int32} : ∀ f j, j ≤ 10 → 10 < j + f →
    ok_X11_judge_L32 row kA f (nI j) ∧ (F_X11_judge_L32 row kx w1 w2 w3 w4 w5 w6 w7 w8 w9 kA sA f (nI j)).1 = oV kx.1 (lo (jP row' K) j (10 - j)) := by
  intro f
  induction f with
  | zero => intro j h1 h2; omega
  | succ f ih =>
    intro j h1 h2
    rw [ok_X11_judge_L32_s, F_X11_judge_L32_s]
    by_cases e : j = 10
    · subst e
      rw [if_pos (show (10 : Int32) ≤ nI 10 from Int32.le_refl _), lo_end]
      exact ⟨fun q => absurd (Int32.le_refl _) q, rfl⟩
    · have hj : j < 10 := by omega
      obtain ⟨g1, g2⟩ := ih (j + 1) (by omega) (by omega)
      have hv : vp_in (nI j) 10 := vp_in_nI hj (by decide)
      rw [if_neg (le_lit (K := 10) 10 rfl hj (by decide)), nI_clamp (by omega), nI_1, lo_at hj, hr j hj, hK j hj]
      refine ⟨fun _ => ⟨hv, fun _ => g1, fun _ => ⟨hv, hv, fun _ => g1⟩⟩, ?_⟩
      by_cases c1 : row' j = 99
      · rw [if_pos c1, jP_1 c1, if_neg nft]; exact g2
      · rw [if_neg c1]
        by_cases c2 : row' j = K j
        · rw [if_pos c2, jP_2 c2, if_neg nft]; exact g2
        · rw [if_neg c2, jP_3 c1 c2, if_pos rfl]; rfl
section JY
variable {c : Cl} {se ow : Int32} {wh fr to th mi ri op sh ho : Nat → Int32}
theorem jdY_loop (R : RY c se ow wh fr to th mi ri op sh ho) {ac : Nat → Int32} {A : Nat → Nat} {r : Nat} (hr3 : r ≤ 3) (hA : ∀ h, h < 10 → ac (10 * r + h) = nI (A h) ∧ A h ≤ 5) {k : Nat} (hk : Bg c k) {row : Nat → Int32} {kx : Int32 → Int32 → Int32 → Int32 → Int32 → Int32 → Int32 → Int32 → Int32 → Int32 × Int32 × Int32 × Int32 × Int32 × Int32 × Int32 × Int32 × Int32 × Int32 × Int32} (hkx : ∀ w1 w2 w3 w4 w5 w6 w7 w8 w9, (kx w1 w2 w3 w4 w5 w6 w7 w8 w9).1 = -9) {tn : Int32} : ∀ f j, j ≤ 10 → 10 < j + f → ∀ (w1 w2 w3 w4 w5 w6 w7 w8 w9 : Int32),
    ok_X12_judge_L24 se ow wh fr to th mi ri op sh ho ac row (nI r) (nI k) f w1 w2 w3 w4 w5 w6 w7 w8 w9 (nI j) ∧ (F_X12_judge_L24 se ow wh fr to th mi ri op sh ho ac row (nI r) (nI k) kx tn f w1 w2 w3 w4 w5 w6 w7 w8 w9 (nI j)).1 = oV (-9) (lo (jP row (fun h => nI (wz c A nf k h).1)) j (10 - j)) := by
  intro f
  induction f with
  | zero => intro j h1 h2; omega
  | succ f ih =>
    intro j h1 h2 w1 w2 w3 w4 w5 w6 w7 w8 w9
    rw [ok_X12_judge_L24_s, F_X12_judge_L24_s]
    by_cases e : j = 10
    · subst e
      rw [if_pos (show (10 : Int32) ≤ nI 10 from Int32.le_refl _), lo_end]
      exact ⟨fun q => absurd (Int32.le_refl _) q, hkx _ _ _ _ _ _ _ _ _⟩
    · have hj : j < 10 := by omega
      have hv : vp_in (nI j) 10 := vp_in_nI hj (by decide)
      obtain ⟨q1, d', m', q2⟩ := go_Y R hr3 hA hk (u := j) (by omega) w7 w8 w9
      rw [if_neg (le_lit (K := 10) 10 rfl hj (by decide)), q2, lo_at hj]
      dsimp only
      unfold F_X12_judge_24_b37 ok_X12_judge_24_b37
      rw [nI_clamp (by omega), nI_1]
      obtain ⟨g1, g2⟩ := ih (j + 1) (by omega) (by omega) (nI (wz c A nf k j).1) (wz c A nf k j).2.1 (wz c A nf k j).2.2 (nI (wW c A nf k j)) (nI (wR c A nf k j)) (nI (wT c A nf k j)) d' (if 0 = j then w8 else wSn c A nf k j) m'
      refine ⟨fun _ => ⟨q1, hv, fun _ => g1, fun _ => ⟨hv, fun _ => g1⟩⟩, ?_⟩
      by_cases c1 : row j = 99
      · rw [if_pos c1, jP_1 c1, if_neg nft]; exact g2
      · rw [if_neg c1]
        by_cases c2 : row j = nI (wz c A nf k j).1
        · rw [if_pos c2, jP_2 (K := fun h => nI (wz c A nf k h).1) c2, if_neg nft]; exact g2
        · rw [if_neg c2, jP_3 (K := fun h => nI (wz c A nf k h).1) c1 c2, if_pos rfl]; rfl
end JY
theorem op_judge : Op_judge Rl := by
  intro x1 x2 X Y a b hR
  have key : (ok_X11_judge (a (31 + 2 * (sel3 x1))) (X.1 1) (X.1 2) (X.1 3) (X.1 5) (X.2.1 1) (X.2.1 4) (X.2.1 5) (X.2.1 6) (X.2.1 7) (X.2.1 8) (X.2.1 9) (X.2.1 10) (X.2.1 11) (X.2.1 12) (rf3 (a 31) (a 33) (a 35)) (X.2.1 (26 + 1 * (sel3 x1))) (X.2.1 31) (X.2.1 32) (X.2.1 33) x1 x2) ∧ (ok_X12_judge (Y.1 3) (Y.1 5) (Y.1 10) (Y.1 11) (Y.1 12) (Y.1 13) (Y.1 14) (Y.1 15) (Y.1 16) (Y.1 17) (Y.1 18) (Y.1 19) (Y.2.1 1) (Y.2.1 2) (Y.2.1 3) (Y.2.1 4) (Y.2.1 5) (Y.2.1 6) (Y.2.1 7) (Y.2.1 8) (Y.2.1 9) (Y.2.1 20) (Y.2.1 25) x1 x2) ∧ (F_X11_judge (X.1 1) (X.1 2) (X.1 3) (X.1 5) (X.2.1 1) (X.2.1 4) (X.2.1 5) (X.2.1 6) (X.2.1 7) (X.2.1 8) (X.2.1 9) (X.2.1 10) (X.2.1 11) (X.2.1 12) (X.2.1 (26 + 1 * (sel3 x1))) (X.2.1 31) (X.1 51) (X.1 52) (X.1 53) (X.1 54) (X.1 55) (X.1 56) (X.1 57) (X.1 58) (X.1 59) (X.2.1 32) (X.2.1 33) x1 x2).1 = (F_X12_judge (Y.1 3) (Y.1 5) (Y.1 10) (Y.1 11) (Y.1 12) (Y.1 13) (Y.1 14) (Y.1 15) (Y.1 16) (Y.1 17) (Y.1 18) (Y.1 19) (Y.2.1 1) (Y.2.1 2) (Y.2.1 3) (Y.2.1 4) (Y.2.1 5) (Y.2.1 6) (Y.2.1 7) (Y.2.1 8) (Y.2.1 9) (Y.2.1 20) (Y.2.1 25) x1 x2).1 := by
    obtain ⟨c, tx, L, A, ⟨R, Fx1, G⟩, ⟨S, n3, g4⟩, T, U, V, W, Q⟩ := hR
    unfold ok_X11_judge F_X11_judge ok_X12_judge F_X12_judge F_X11_canBegin
    obtain ⟨bo, bb⟩ := bgn R S x2
    rw [n3]
    rcases rul x1 with ⟨e1, e2⟩ | ⟨r, hr, ex, e1, e2, e3⟩
    · rw [e1, e2, if_pos rfl, if_pos rfl, if_neg i10]
      exact ⟨fun y => absurd rfl y, fun y => absurd y i10, rfl⟩
    · rw [e1, e2, if_neg i10, if_pos rfl, e3]
      rcases bb with ⟨f1, f2⟩ | ⟨k, bk, hk, fx, f1, f2⟩
      · rw [f1, f2, if_pos rfl, if_pos rfl, if_neg i10]
        exact ⟨fun y => absurd rfl y, fun _ => ⟨bo, fun y => absurd y i10⟩, rfl⟩
      · rw [f1, f2, if_neg i10, if_neg i10, if_pos rfl, ex, fx]
        obtain ⟨u1, u2⟩ := RuA_at U hr
        have bo' : ok_X12_noBegin (nI k) := fx ▸ bo
        have hv : vp_in (nI r) 3 := vp_in_nI hr (by decide)
        have hrf : rf3 (a 31) (a 33) (a 35) (nI r).toNatClampNeg = some (a (31 + 2 * r)) := by rw [nI_clamp (by omega)]; exact rf3_at rfl rfl rfl hr
        obtain ⟨p1, p2⟩ := run_X R u1 bk (X.2.1 32) (X.2.1 33)
        rw [p2]
        dsimp only
        unfold ok_X11_judge_b30 F_X11_judge_b30
        obtain ⟨x1', x2'⟩ := jdX_loop (row := X.2.1 31) (row' := Y.2.1 25) (kA := fun j => if j < 10 then nI (wz c (A r) nf k j).1 else X.2.1 32 j) (K := fun h => nI (wz c (A r) nf k h).1) Q (fun h hh => if_pos hh) (kx := F_X11_judge_b75 0 (nI (wz c (A r) nf k 10).1) (wz c (A r) nf k 10).2.1 (wz c (A r) nf k 10).2.2 (nI (wW c (A r) nf k 10)) (nI (wR c (A r) nf k 10)) (nI (wT c (A r) nf k 10)) (wSn c (A r) nf k 10) (bI (wAc c (A r) nf k 10)) (fun j => if j < 10 then nI (wz c (A r) nf k j).1 else X.2.1 32 j) (fun j => if j < 10 then zS c j (wz c (A r) nf k j) else X.2.1 33 j)) (w1 := 0) (w2 := nI (wz c (A r) nf k 10).1) (w3 := (wz c (A r) nf k 10).2.1) (w4 := (wz c (A r) nf k 10).2.2) (w5 := nI (wW c (A r) nf k 10)) (w6 := nI (wR c (A r) nf k 10)) (w7 := nI (wT c (A r) nf k 10)) (w8 := wSn c (A r) nf k 10) (w9 := bI (wAc c (A r) nf k 10)) (sA := fun j => if j < 10 then zS c j (wz c (A r) nf k j) else X.2.1 33 j) FU 0 (by decide) (by have := FU_ge; omega)
        obtain ⟨y1', y2'⟩ := jdY_loop S (r := r) (by omega) u2 bk (row := Y.2.1 25) (kx := fun e24_0 e24_1 e24_2 e24_3 e24_4 e24_5 e24_6 e24_7 e24_8 => (F_X12_judge_b69 (0 : Int32) e24_0 e24_1 e24_2 e24_3 e24_4 e24_5 e24_6 e24_7 e24_8)) (fun _ _ _ _ _ _ _ _ _ => rfl) (tn := 0) FU 0 (by decide) (by have := FU_ge; omega) (Y.1 11) (Y.1 12) (Y.1 13) (Y.1 14) (Y.1 15) (Y.1 16) (Y.1 17) (Y.1 18) (Y.1 19)
        exact ⟨fun _ => ⟨hv, hrf, p1, x1'⟩, fun _ => ⟨bo', fun _ => y1'⟩, x2'.trans y2'.symm⟩
  refine ⟨key.1, key.2.1, ?_, Rl_keep hR ?_ ?_ ?_ ?_⟩
  · show (nX_judge a X x1 x2).1 = (nY_judge b Y x1 x2).1
    unfold nX_judge nY_judge
    exact key.2.2
  · unfold nX_judge; dsimp only; exact (st1_keep rfl (st1_keep rfl (st1_keep rfl (st1_keep rfl (st1_keep rfl (st1_keep rfl (st1_keep rfl (st1_keep rfl (st1_keep rfl (fun _ _ => rfl))))))))))
  · unfold nX_judge; dsimp only; exact (st1_keep rfl (st1_keep rfl (fun _ _ => rfl)))
  · unfold nY_judge; dsimp only; exact (st1_keep rfl (st1_keep rfl (st1_keep rfl (st1_keep rfl (st1_keep rfl (st1_keep rfl (st1_keep rfl (st1_keep rfl (st1_keep rfl (st1_keep rfl (fun _ _ => rfl)))))))))))
  · unfold nY_judge; dsimp only; exact (fun _ _ => rfl)
theorem op_find : Op_find Rl := by
  intro x1 x2 X Y a b hR
  have key : (ok_X11_find (X.1 1) (X.1 2) (X.1 3) (X.1 5) (X.2.1 1) (X.2.1 2) (X.2.1 3) (X.2.1 4) (X.2.1 5) (X.2.1 6) (X.2.1 7) (X.2.1 8) (X.2.1 9) (X.2.1 10) (X.2.1 11) (X.2.1 12) (X.2.1 41) (X.2.1 37) (X.2.1 38) (X.2.1 39) (X.2.1 40) (X.1 74) (X.1 75) (X.1 76) (X.1 77) (X.1 78) (X.1 79) (X.1 80) (X.1 81) (X.1 82) (X.2.1 42) x1 x2) ∧ (ok_X12_find (Y.1 3) (Y.1 5) (Y.1 10) (Y.1 11) (Y.1 12) (Y.1 13) (Y.1 14) (Y.1 15) (Y.1 16) (Y.1 17) (Y.1 18) (Y.1 19) (Y.2.1 1) (Y.2.1 2) (Y.2.1 3) (Y.2.1 4) (Y.2.1 5) (Y.2.1 6) (Y.2.1 7) (Y.2.1 8) (Y.2.1 9) (Y.2.1 30) (Y.2.1 31) x1 x2) ∧ (F_X11_find (X.1 1) (X.1 2) (X.1 3) (X.1 5) (X.2.1 1) (X.2.1 2) (X.2.1 3) (X.2.1 4) (X.2.1 5) (X.2.1 6) (X.2.1 7) (X.2.1 8) (X.2.1 9) (X.2.1 10) (X.2.1 11) (X.2.1 12) (X.1 83) (X.1 84) (X.1 85) (X.1 86) (X.2.1 41) (X.2.1 37) (X.2.1 38) (X.2.1 39) (X.2.1 40) (X.1 74) (X.1 75) (X.1 76) (X.1 77) (X.1 78) (X.1 79) (X.1 80) (X.1 81) (X.1 82) (X.2.1 42) x1 x2).1 = (F_X12_find (Y.1 3) (Y.1 5) (Y.1 10) (Y.1 11) (Y.1 12) (Y.1 13) (Y.1 14) (Y.1 15) (Y.1 16) (Y.1 17) (Y.1 18) (Y.1 19) (Y.1 22) (Y.1 23) (Y.2.1 1) (Y.2.1 2) (Y.2.1 3) (Y.2.1 4) (Y.2.1 5) (Y.2.1 6) (Y.2.1 7) (Y.2.1 8) (Y.2.1 9) (Y.2.1 30) (Y.2.1 31) x1 x2).1 := by
    obtain ⟨c, tx, L, A, ⟨R, Fx1, G⟩, ⟨S, n3, g4⟩, T, U, V, W, Q⟩ := hR
    unfold ok_X11_find F_X11_find ok_X12_find F_X12_find
    rw [n3]
    rcases prc x1 x2 with ⟨e1, e2⟩ | ⟨α, β, hα, hβ, ex, ey, e1, e2⟩
    · rw [e1, e2, if_pos rfl, if_neg i10]
      exact ⟨fun y => absurd rfl y, fun y => absurd y i10, rfl⟩
    · rw [e1, e2, if_neg i10, if_pos rfl, ex, ey]
      obtain ⟨p1, pp, pb, px, py, ac', nx', wk', rk', at', pg', v1, v2, v3, v4, v5, v6, v7, v8, v9, p2, p3⟩ := seek_X R Fx1 hα hβ (X.2.1 41) (X.2.1 37) (X.2.1 38) (X.2.1 39) (X.2.1 40) (X.2.1 42) (X.1 74) (X.1 75) (X.1 76) (X.1 77) (X.1 78) (X.1 79) (X.1 80) (X.1 81) (X.1 82)
      obtain ⟨q1, t1, t2, t3, t4, t5, t6, t7, t8, t9, bb, bp, lt', ac2, q2, q3⟩ := way_Y S hα hβ (Y.1 11) (Y.1 12) (Y.1 13) (Y.1 14) (Y.1 15) (Y.1 16) (Y.1 17) (Y.1 18) (Y.1 19) (Y.2.1 30) (Y.2.1 31)
      rw [p2, q2]
      dsimp only
      unfold F_X11_find_b24 F_X12_find_b22
      refine ⟨fun _ => p1, fun _ => q1, ?_⟩
      dsimp only
      cases hb : bs c α β 10 with
      | none =>
        rw [hb] at p3 q3
        obtain ⟨a1, a2, a3⟩ := p3
        obtain ⟨b1, b2⟩ := q3
        rw [a1, b2]
      | some e =>
        rw [hb] at p3 q3
        obtain ⟨a1, a2, a3⟩ := p3
        obtain ⟨b1, b2, b3⟩ := q3
        rw [a1, b2]
  refine ⟨key.1, key.2.1, ?_, Rl_keep hR ?_ ?_ ?_ ?_⟩
  · show (nX_find a X x1 x2).1 = (nY_find b Y x1 x2).1
    unfold nX_find nY_find
    exact key.2.2
  · unfold nX_find; dsimp only; exact (st1_keep rfl (st1_keep rfl (st1_keep rfl (st1_keep rfl (st1_keep rfl (st1_keep rfl (st1_keep rfl (st1_keep rfl (st1_keep rfl (st1_keep rfl (st1_keep rfl (st1_keep rfl (st1_keep rfl (fun _ _ => rfl))))))))))))))
  · unfold nX_find; dsimp only; exact (st1_keep rfl (st1_keep rfl (st1_keep rfl (st1_keep rfl (st1_keep rfl (st1_keep rfl (fun _ _ => rfl)))))))
  · unfold nY_find; dsimp only; exact (st1_keep rfl (st1_keep rfl (st1_keep rfl (st1_keep rfl (st1_keep rfl (st1_keep rfl (st1_keep rfl (st1_keep rfl (st1_keep rfl (st1_keep rfl (st1_keep rfl (st1_keep rfl (fun _ _ => rfl)))))))))))))
  · unfold nY_find; dsimp only; exact (st1_keep rfl (st1_keep rfl (fun _ _ => rfl)))
theorem op_from : Op_from Rl := by
  intro x1 x2 X Y a b hR
  have key : (ok_X11_from (X.1 1) (X.1 2) (X.1 3) (X.1 5) (X.2.1 1) (X.2.1 2) (X.2.1 3) (X.2.1 4) (X.2.1 5) (X.2.1 6) (X.2.1 7) (X.2.1 8) (X.2.1 9) (X.2.1 10) (X.2.1 11) (X.2.1 12) (X.2.1 41) (X.2.1 37) (X.2.1 38) (X.2.1 39) (X.2.1 40) (X.1 74) (X.1 75) (X.1 76) (X.1 77) (X.1 78) (X.1 79) (X.1 80) (X.1 81) (X.1 82) (X.2.1 42) x1 x2) ∧ (ok_X12_from (Y.1 3) (Y.1 5) (Y.1 10) (Y.1 11) (Y.1 12) (Y.1 13) (Y.1 14) (Y.1 15) (Y.1 16) (Y.1 17) (Y.1 18) (Y.1 19) (Y.2.1 1) (Y.2.1 2) (Y.2.1 3) (Y.2.1 4) (Y.2.1 5) (Y.2.1 6) (Y.2.1 7) (Y.2.1 8) (Y.2.1 9) (Y.2.1 30) (Y.2.1 31) x1 x2) ∧ (F_X11_from (X.1 1) (X.1 2) (X.1 3) (X.1 5) (X.2.1 1) (X.2.1 2) (X.2.1 3) (X.2.1 4) (X.2.1 5) (X.2.1 6) (X.2.1 7) (X.2.1 8) (X.2.1 9) (X.2.1 10) (X.2.1 11) (X.2.1 12) (X.1 83) (X.1 84) (X.1 85) (X.1 86) (X.2.1 41) (X.2.1 37) (X.2.1 38) (X.2.1 39) (X.2.1 40) (X.1 74) (X.1 75) (X.1 76) (X.1 77) (X.1 78) (X.1 79) (X.1 80) (X.1 81) (X.1 82) (X.2.1 42) x1 x2).1 = (F_X12_from (Y.1 3) (Y.1 5) (Y.1 10) (Y.1 11) (Y.1 12) (Y.1 13) (Y.1 14) (Y.1 15) (Y.1 16) (Y.1 17) (Y.1 18) (Y.1 19) (Y.1 22) (Y.1 23) (Y.2.1 1) (Y.2.1 2) (Y.2.1 3) (Y.2.1 4) (Y.2.1 5) (Y.2.1 6) (Y.2.1 7) (Y.2.1 8) (Y.2.1 9) (Y.2.1 30) (Y.2.1 31) x1 x2).1 := by
    obtain ⟨c, tx, L, A, ⟨R, Fx1, G⟩, ⟨S, n3, g4⟩, T, U, V, W, Q⟩ := hR
    unfold ok_X11_from F_X11_from ok_X12_from F_X12_from
    rw [n3]
    rcases prc x1 x2 with ⟨e1, e2⟩ | ⟨α, β, hα, hβ, ex, ey, e1, e2⟩
    · rw [e1, e2, if_pos rfl, if_neg i10]
      exact ⟨fun y => absurd rfl y, fun y => absurd y i10, rfl⟩
    · rw [e1, e2, if_neg i10, if_pos rfl, ex, ey]
      obtain ⟨p1, pp, pb, px, py, ac', nx', wk', rk', at', pg', v1, v2, v3, v4, v5, v6, v7, v8, v9, p2, p3⟩ := seek_X R Fx1 hα hβ (X.2.1 41) (X.2.1 37) (X.2.1 38) (X.2.1 39) (X.2.1 40) (X.2.1 42) (X.1 74) (X.1 75) (X.1 76) (X.1 77) (X.1 78) (X.1 79) (X.1 80) (X.1 81) (X.1 82)
      obtain ⟨q1, t1, t2, t3, t4, t5, t6, t7, t8, t9, bb, bp, lt', ac2, q2, q3⟩ := way_Y S hα hβ (Y.1 11) (Y.1 12) (Y.1 13) (Y.1 14) (Y.1 15) (Y.1 16) (Y.1 17) (Y.1 18) (Y.1 19) (Y.2.1 30) (Y.2.1 31)
      rw [p2, q2]
      dsimp only
      unfold F_X11_from_b24 F_X12_from_b22
      refine ⟨fun _ => p1, fun _ => q1, ?_⟩
      dsimp only
      cases hb : bs c α β 10 with
      | none =>
        rw [hb] at p3 q3
        obtain ⟨a1, a2, a3⟩ := p3
        obtain ⟨b1, b2⟩ := q3
        rw [a2, b1]
      | some e =>
        rw [hb] at p3 q3
        obtain ⟨a1, a2, a3⟩ := p3
        obtain ⟨b1, b2, b3⟩ := q3
        rw [a2, b1]
  refine ⟨key.1, key.2.1, ?_, Rl_keep hR ?_ ?_ ?_ ?_⟩
  · show (nX_from a X x1 x2).1 = (nY_from b Y x1 x2).1
    unfold nX_from nY_from
    exact key.2.2
  · unfold nX_from; dsimp only; exact (st1_keep rfl (st1_keep rfl (st1_keep rfl (st1_keep rfl (st1_keep rfl (st1_keep rfl (st1_keep rfl (st1_keep rfl (st1_keep rfl (st1_keep rfl (st1_keep rfl (st1_keep rfl (st1_keep rfl (fun _ _ => rfl))))))))))))))
  · unfold nX_from; dsimp only; exact (st1_keep rfl (st1_keep rfl (st1_keep rfl (st1_keep rfl (st1_keep rfl (st1_keep rfl (fun _ _ => rfl)))))))
  · unfold nY_from; dsimp only; exact (st1_keep rfl (st1_keep rfl (st1_keep rfl (st1_keep rfl (st1_keep rfl (st1_keep rfl (st1_keep rfl (st1_keep rfl (st1_keep rfl (st1_keep rfl (st1_keep rfl (st1_keep rfl (fun _ _ => rfl)))))))))))))
  · unfold nY_from; dsimp only; exact (st1_keep rfl (st1_keep rfl (fun _ _ => rfl)))
theorem op_way : Op_way Rl := by
  intro x1 x2 x3 X Y a b hR
  have key : (ok_X11_way (X.1 1) (X.1 2) (X.1 3) (X.1 5) (X.2.1 1) (X.2.1 2) (X.2.1 3) (X.2.1 4) (X.2.1 5) (X.2.1 6) (X.2.1 7) (X.2.1 8) (X.2.1 9) (X.2.1 10) (X.2.1 11) (X.2.1 12) (X.2.1 41) (X.2.1 37) (X.2.1 38) (X.2.1 39) (X.2.1 40) (X.1 74) (X.1 75) (X.1 76) (X.1 77) (X.1 78) (X.1 79) (X.1 80) (X.1 81) (X.1 82) (X.2.1 42) x1 x2 x3) ∧ (ok_X12_way (Y.1 3) (Y.1 5) (Y.1 10) (Y.1 11) (Y.1 12) (Y.1 13) (Y.1 14) (Y.1 15) (Y.1 16) (Y.1 17) (Y.1 18) (Y.1 19) (Y.2.1 1) (Y.2.1 2) (Y.2.1 3) (Y.2.1 4) (Y.2.1 5) (Y.2.1 6) (Y.2.1 7) (Y.2.1 8) (Y.2.1 9) (Y.2.1 30) (Y.2.1 31) x1 x2 x3) ∧ (F_X11_way (X.1 1) (X.1 2) (X.1 3) (X.1 5) (X.2.1 1) (X.2.1 2) (X.2.1 3) (X.2.1 4) (X.2.1 5) (X.2.1 6) (X.2.1 7) (X.2.1 8) (X.2.1 9) (X.2.1 10) (X.2.1 11) (X.2.1 12) (X.1 83) (X.1 84) (X.1 85) (X.1 86) (X.2.1 41) (X.2.1 37) (X.2.1 38) (X.2.1 39) (X.2.1 40) (X.1 74) (X.1 75) (X.1 76) (X.1 77) (X.1 78) (X.1 79) (X.1 80) (X.1 81) (X.1 82) (X.2.1 42) x1 x2 x3).1 = (F_X12_way (Y.1 3) (Y.1 5) (Y.1 10) (Y.1 11) (Y.1 12) (Y.1 13) (Y.1 14) (Y.1 15) (Y.1 16) (Y.1 17) (Y.1 18) (Y.1 19) (Y.1 22) (Y.1 23) (Y.2.1 1) (Y.2.1 2) (Y.2.1 3) (Y.2.1 4) (Y.2.1 5) (Y.2.1 6) (Y.2.1 7) (Y.2.1 8) (Y.2.1 9) (Y.2.1 30) (Y.2.1 31) x1 x2 x3).1 := by
    obtain ⟨c, tx, L, A, ⟨R, Fx1, G⟩, ⟨S, n3, g4⟩, T, U, V, W, Q⟩ := hR
    unfold ok_X11_way F_X11_way ok_X12_way F_X12_way
    rw [n3]
    rcases prc x1 x2 with ⟨e1, e2⟩ | ⟨α, β, hα, hβ, ex, ey, e1, e2⟩
    · rw [e1, e2, if_pos rfl, if_neg i10]
      exact ⟨fun y => absurd rfl y, fun y => absurd y i10, rfl⟩
    · rw [e1, e2, if_neg i10, if_pos rfl, ex, ey]
      rcases hou x3 with ⟨h1, h2⟩ | ⟨h, hh, hx, h1, h2⟩
      · rw [h1, h2, if_pos rfl, if_neg i10]
        exact ⟨fun _ y => absurd rfl y, fun _ y => absurd y i10, rfl⟩
      rw [h1, h2, if_neg i10, if_pos rfl, hx]
      obtain ⟨p1, pp, pb, px, py, ac', nx', wk', rk', at', pg', v1, v2, v3, v4, v5, v6, v7, v8, v9, p2, p3⟩ := seek_X R Fx1 hα hβ (X.2.1 41) (X.2.1 37) (X.2.1 38) (X.2.1 39) (X.2.1 40) (X.2.1 42) (X.1 74) (X.1 75) (X.1 76) (X.1 77) (X.1 78) (X.1 79) (X.1 80) (X.1 81) (X.1 82)
      obtain ⟨q1, t1, t2, t3, t4, t5, t6, t7, t8, t9, bb, bp, lt', ac2, q2, q3⟩ := way_Y S hα hβ (Y.1 11) (Y.1 12) (Y.1 13) (Y.1 14) (Y.1 15) (Y.1 16) (Y.1 17) (Y.1 18) (Y.1 19) (Y.2.1 30) (Y.2.1 31)
      rw [p2, q2]
      dsimp only
      unfold F_X11_way_b33 ok_X11_way_b33 F_X12_way_b31 ok_X12_way_b31
      have hv : vp_in (nI h) 10 := vp_in_nI hh (by decide)
      refine ⟨fun _ _ => ⟨p1, hv⟩, fun _ _ => ⟨q1, fun _ => hv⟩, ?_⟩
      dsimp only
      rw [nI_clamp (by omega)]
      cases hb : bs c α β 10 with
      | none =>
        rw [hb] at p3 q3
        obtain ⟨a1, a2, a3⟩ := p3
        obtain ⟨b1, b2⟩ := q3
        rw [a3 h hh, if_pos b1]
      | some e =>
        rw [hb] at p3 q3
        obtain ⟨a1, a2, a3⟩ := p3
        obtain ⟨b1, b2, b3⟩ := q3
        rw [a3 h hh, b1, if_neg (nI_ne9 (Nat.lt_trans (Bg.lt16 R.1 (bs_some hb).1) (by decide))), b3 h hh]
  refine ⟨key.1, key.2.1, ?_, Rl_keep hR ?_ ?_ ?_ ?_⟩
  · show (nX_way a X x1 x2 x3).1 = (nY_way b Y x1 x2 x3).1
    unfold nX_way nY_way
    exact key.2.2
  · unfold nX_way; dsimp only; exact (st1_keep rfl (st1_keep rfl (st1_keep rfl (st1_keep rfl (st1_keep rfl (st1_keep rfl (st1_keep rfl (st1_keep rfl (st1_keep rfl (st1_keep rfl (st1_keep rfl (st1_keep rfl (st1_keep rfl (fun _ _ => rfl))))))))))))))
  · unfold nX_way; dsimp only; exact (st1_keep rfl (st1_keep rfl (st1_keep rfl (st1_keep rfl (st1_keep rfl (st1_keep rfl (fun _ _ => rfl)))))))
  · unfold nY_way; dsimp only; exact (st1_keep rfl (st1_keep rfl (st1_keep rfl (st1_keep rfl (st1_keep rfl (st1_keep rfl (st1_keep rfl (st1_keep rfl (st1_keep rfl (st1_keep rfl (st1_keep rfl (st1_keep rfl (fun _ _ => rfl)))))))))))))
  · unfold nY_way; dsimp only; exact (st1_keep rfl (st1_keep rfl (fun _ _ => rfl)))
theorem op_bar : Op_bar Rl := by
  intro  X Y a b hR
  have key : (ok_X11_bar (X.1 1) (X.1 2) (X.1 3) (X.1 5) (X.2.1 1) (X.2.1 2) (X.2.1 3) (X.2.1 4) (X.2.1 5) (X.2.1 6) (X.2.1 7) (X.2.1 8) (X.2.1 9) (X.2.1 10) (X.2.1 11) (X.2.1 12) (X.2.1 37) (X.2.1 38) (X.2.1 39) (X.2.1 40) (X.1 74) (X.1 75) (X.1 76) (X.1 77) (X.1 78) (X.1 79) (X.1 80) (X.1 81) (X.1 82)) ∧ (ok_X12_bar (Y.1 3) (Y.1 5) (Y.1 10) (Y.1 11) (Y.1 12) (Y.1 13) (Y.1 14) (Y.1 15) (Y.1 16) (Y.1 17) (Y.1 18) (Y.1 19) (Y.2.1 1) (Y.2.1 2) (Y.2.1 3) (Y.2.1 4) (Y.2.1 5) (Y.2.1 6) (Y.2.1 7) (Y.2.1 8) (Y.2.1 9) (Y.2.1 30) (Y.2.1 31)) ∧ (F_X11_bar (X.1 1) (X.1 2) (X.1 3) (X.1 5) (X.2.1 1) (X.2.1 2) (X.2.1 3) (X.2.1 4) (X.2.1 5) (X.2.1 6) (X.2.1 7) (X.2.1 8) (X.2.1 9) (X.2.1 10) (X.2.1 11) (X.2.1 12) (X.2.1 37) (X.2.1 38) (X.2.1 39) (X.2.1 40) (X.1 74) (X.1 75) (X.1 76) (X.1 77) (X.1 78) (X.1 79) (X.1 80) (X.1 81) (X.1 82)).1 = (F_X12_bar (Y.1 3) (Y.1 5) (Y.1 10) (Y.1 11) (Y.1 12) (Y.1 13) (Y.1 14) (Y.1 15) (Y.1 16) (Y.1 17) (Y.1 18) (Y.1 19) (Y.2.1 1) (Y.2.1 2) (Y.2.1 3) (Y.2.1 4) (Y.2.1 5) (Y.2.1 6) (Y.2.1 7) (Y.2.1 8) (Y.2.1 9) (Y.2.1 30) (Y.2.1 31)).1 := by
    obtain ⟨c, tx, L, A, ⟨R, Fx1, G⟩, ⟨S, n3, g4⟩, T, U, V, W, Q⟩ := hR
    rw [n3]
    obtain ⟨p1, p2⟩ := bar_X R Fx1 (X.2.1 37) (X.2.1 38) (X.2.1 39) (X.2.1 40) (X.1 74) (X.1 75) (X.1 76) (X.1 77) (X.1 78) (X.1 79) (X.1 80) (X.1 81) (X.1 82)
    obtain ⟨q1, q2⟩ := bar_Y S (Y.1 11) (Y.1 12) (Y.1 13) (Y.1 14) (Y.1 15) (Y.1 16) (Y.1 17) (Y.1 18) (Y.1 19) (Y.2.1 30) (Y.2.1 31)
    unfold ok_X11_bar F_X11_bar F_X11_bar_b11
    dsimp only
    exact ⟨p1, q1, p2.trans q2.symm⟩
  refine ⟨key.1, key.2.1, ?_, Rl_keep hR ?_ ?_ ?_ ?_⟩
  · show (nX_bar a X ).1 = (nY_bar b Y ).1
    unfold nX_bar nY_bar
    exact key.2.2
  · unfold nX_bar; dsimp only; exact (st1_keep rfl (st1_keep rfl (st1_keep rfl (st1_keep rfl (st1_keep rfl (st1_keep rfl (st1_keep rfl (st1_keep rfl (st1_keep rfl (fun _ _ => rfl))))))))))
  · unfold nX_bar; dsimp only; exact (st1_keep rfl (st1_keep rfl (st1_keep rfl (st1_keep rfl (fun _ _ => rfl)))))
  · unfold nY_bar; dsimp only; exact (st1_keep rfl (st1_keep rfl (st1_keep rfl (st1_keep rfl (st1_keep rfl (st1_keep rfl (st1_keep rfl (st1_keep rfl (st1_keep rfl (st1_keep rfl (st1_keep rfl (st1_keep rfl (fun _ _ => rfl)))))))))))))
  · unfold nY_bar; dsimp only; exact (st1_keep rfl (st1_keep rfl (fun _ _ => rfl)))

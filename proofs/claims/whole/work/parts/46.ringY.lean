/-! the reference's ring -/
def WN (x : Nat → Nat) (i : Nat) (N : Nat → Int32) : Prop := (∀ j, j < i → N (x j) = nI j) ∧ (∀ s, s < 16 → (∀ j, j < i → ¬ x j = s) → N s = -9)
def SU (F G T : Nat → Nat) (i : Nat) (f g t : Nat → Int32) : Prop := ∀ j, j < i → f j = nI (F j) ∧ g j = nI (G j) ∧ t j = nI (T j)
section RY2
variable {c : Cl} {se ow : Int32} {wh fr to th mi ri op sh ho : Nat → Int32}
theorem go10_Y (R : RY c se ow wh fr to th mi ri op sh ho) {ac : Nat → Int32} {A : Nat → Nat} {r : Nat} (hr3 : r ≤ 3) (hA : ∀ h, h < 10 → ac (10 * r + h) = nI (A h) ∧ A h ≤ 5) {k : Nat} (hk : Bg c k) (d s m : Int32) :
    ok_X12_go se ow d s m wh fr to th mi ri op sh ho ac (nI r) (nI k) 10 ∧
    ∃ d' m', F_X12_go se ow d s m wh fr to th mi ri op sh ho ac (nI r) (nI k) 10 =
      (nI (wz c A nf k 10).1, (wz c A nf k 10).2.1, (wz c A nf k 10).2.2, nI (wW c A nf k 10), nI (wR c A nf k 10), nI (wT c A nf k 10), d', wSn c A nf k 10, m') := by
  have h := go_Y R hr3 hA hk (u := 10) (by decide) d s m
  rw [if_neg (by decide)] at h
  exact h
theorem re_loop (R : RY c se ow wh fr to th mi ri op sh ho) {ac : Nat → Int32} {A : Nat → Nat} {r : Nat} (hr3 : r ≤ 3) (hA : ∀ h, h < 10 → ac (10 * r + h) = nI (A h) ∧ A h ≤ 5) {b m n : Nat} (hb : Bg c b) (hr : RG (xw c A b) m n) : ∀ f i, i ≤ n → n < i + f → ∀ (w1 w2 w3 w4 w5 w6 w7 w8 w9 : Int32) (N f1 f2 f3 : Nat → Int32), WN (xw c A b) i N → SU (fun j => wW c A nf (xw c A b j) 10) (fun j => wR c A nf (xw c A b j) 10) (fun j => wT c A nf (xw c A b j) 10) i f1 f2 f3 →
    ok_X12_runEver_L27 se ow wh fr to th mi ri op sh ho ac (nI r) f w1 w2 w3 w4 w5 w6 w7 w8 w9 N f1 f2 f3 (nI (xw c A b i)) (nI i) ∧
    ∃ (v1 v2 v3 v4 v5 v6 v7 v8 v9 : Int32) (N' f1' f2' f3' : Nat → Int32), F_X12_runEver_L27 se ow wh fr to th mi ri op sh ho ac (nI r) f w1 w2 w3 w4 w5 w6 w7 w8 w9 N f1 f2 f3 (nI (xw c A b i)) (nI i) = (v1, v2, v3, v4, v5, v6, v7, v8, v9, N', f1', f2', f3', nI (xw c A b n), nI n) ∧ WN (xw c A b) n N' ∧ SU (fun j => wW c A nf (xw c A b j) 10) (fun j => wR c A nf (xw c A b j) 10) (fun j => wT c A nf (xw c A b j) 10) n f1' f2' f3' := by
  have wf := R.1
  obtain ⟨r1, r2, r3, r4⟩ := hr
  intro f
  induction f with
  | zero => intro i h1 h2; omega
  | succ f ih =>
    intro i h1 h2 w1 w2 w3 w4 w5 w6 w7 w8 w9 N f1 f2 f3 hN hS
    have hB := xw_Bg wf (A := A) hb i
    have hi := hB.lt16 wf
    have hv : vp_in (nI (xw c A b i)) 16 := vp_in_nI hi (by decide)
    rw [ok_X12_runEver_L27_s, F_X12_runEver_L27_s, nI_clamp (by omega)]
    by_cases e : i = n
    · have e9 : ¬ N (xw c A b i) = -9 := by
        rw [e, ← r3, hN.1 m (by omega)]
        exact nI_ne9 (by omega)
      rw [if_neg e9]
      refine ⟨⟨hv, fun q => absurd q e9⟩, w1, w2, w3, w4, w5, w6, w7, w8, w9, N, f1, f2, f3, by rw [e], e ▸ hN, e ▸ hS⟩
    · have e9 : N (xw c A b i) = -9 := hN.2 _ hi (fun j hj q => r4 j i hj (by omega) q)
      obtain ⟨k1, d', m', k2⟩ := go10_Y R hr3 hA hB w7 w8 w9
      rw [if_pos e9, k2]
      dsimp only
      unfold ok_X12_runEver_27_b54 F_X12_runEver_27_b54
      have ex : nI (wz c A nf (xw c A b i) 10).1 = nI (xw c A b (i + 1)) := rfl
      have hv20 : vp_in (nI i) 20 := vp_in_nI (by omega) (by decide)
      rw [ex, nI_clamp (by omega), nI_1]
      have hN' : WN (xw c A b) (i + 1) (upd N (xw c A b i) (nI i)) := by
        refine ⟨fun j hj => ?_, fun s hs' hj => ?_⟩
        · by_cases q : j = i
          · rw [q, pk_us]
          · rw [pk_un (fun q2 => r4 j i (by omega) (by omega) q2)]
            exact hN.1 j (by omega)
        · rw [pk_un (fun q => hj i (by omega) q.symm)]
          exact hN.2 s hs' (fun j hj' => hj j (by omega))
      have hS' : SU (fun j => wW c A nf (xw c A b j) 10) (fun j => wR c A nf (xw c A b j) 10) (fun j => wT c A nf (xw c A b j) 10) (i + 1) (upd f1 i (nI (wW c A nf (xw c A b i) 10))) (upd f2 i (nI (wR c A nf (xw c A b i) 10))) (upd f3 i (nI (wT c A nf (xw c A b i) 10))) := by
        intro j hj
        by_cases q : j = i
        · rw [q, pk_us, pk_us, pk_us]; exact ⟨rfl, rfl, rfl⟩
        · rw [pk_un q, pk_un q, pk_un q]; exact hS j (by omega)
      obtain ⟨g1, g2⟩ := ih (i + 1) (by omega) (by omega) _ _ _ _ _ _ _ _ _ _ _ _ _ hN' hS'
      exact ⟨⟨hv, fun _ => ⟨hv, k1, hv20, hv20, hv20, g1⟩⟩, g2⟩
theorem ever_Y (R : RY c se ow wh fr to th mi ri op sh ho) {ac : Nat → Int32} {A : Nat → Nat} {r : Nat} (hr3 : r ≤ 3) (hA : ∀ h, h < 10 → ac (10 * r + h) = nI (A h) ∧ A h ≤ 5) {b m n : Nat} (hb : Bg c b) (hr : RG (xw c A b) m n) (w1 w2 w3 w4 w5 w6 w7 w8 w9 : Int32) (N f1 f2 f3 : Nat → Int32) :
    ok_X12_runEver se ow w1 w2 w3 w4 w5 w6 w7 w8 w9 wh fr to th mi ri op sh ho ac N f1 f2 f3 (nI r) (nI b) ∧
    ∃ (v1 v2 v3 v4 v5 v6 v7 v8 v9 : Int32) (N' f1' f2' f3' : Nat → Int32), F_X12_runEver se ow w1 w2 w3 w4 w5 w6 w7 w8 w9 wh fr to th mi ri op sh ho ac N f1 f2 f3 (nI r) (nI b) = (v1, v2, v3, v4, v5, v6, v7, v8, v9, nI m, nI (n - m), N', f1', f2', f3') ∧ SU (fun j => wW c A nf (xw c A b j) 10) (fun j => wR c A nf (xw c A b j) 10) (fun j => wT c A nf (xw c A b j) 10) n f1' f2' f3' := by
  have wf := R.1
  have hF := FU_ge
  have hfill := fl_all (fun n f v => F_X12_runEver_L2 n f v) 16 (fun _ => -9) (by decide)
    (fun n f i hi => by rw [F_X12_runEver_L2_s, if_neg (le_lit (K := 16) 16 rfl hi (by decide)), nI_1, nI_clamp (by omega)])
    (fun n f => by rw [F_X12_runEver_L2_s, if_pos (le_self 16 rfl)]) N
  have hfok : ok_X12_runEver_L2 FU N 0 := ok_all (fun n f v => ok_X12_runEver_L2 n f v) 16 (by decide) (fun _ _ => True) (fun n s i hi _ h => by rw [ok_X12_runEver_L2_s]; intro _; refine ⟨vp_in_nI hi (by decide), ?_⟩; rw [nI_1]; exact h _ trivial) (fun n s _ => by rw [ok_X12_runEver_L2_s]; intro h; exact absurd (le_self 16 rfl) h) N trivial
  have hN0 : WN (xw c A b) 0 (fun j => if j < 16 then -9 else N j) := ⟨fun j hj => by omega, fun s hs _ => if_pos hs⟩
  obtain ⟨g1, v1, v2, v3, v4, v5, v6, v7, v8, v9, N', f1', f2', f3', g2, g3, g4⟩ := re_loop R hr3 hA hb hr FU 0 (Nat.zero_le _) (by have := hr.2.1; omega) w1 w2 w3 w4 w5 w6 w7 w8 w9 _ f1 f2 f3 hN0 (fun j hj => by omega)
  unfold ok_X12_runEver F_X12_runEver
  rw [hfill]
  dsimp only
  unfold ok_X12_runEver_b22 F_X12_runEver_b22
  have g2' : F_X12_runEver_L27 se ow wh fr to th mi ri op sh ho ac (nI r) FU w1 w2 w3 w4 w5 w6 w7 w8 w9 (fun j => if j < 16 then -9 else N j) f1 f2 f3 (nI b) 0 = (v1, v2, v3, v4, v5, v6, v7, v8, v9, N', f1', f2', f3', nI (xw c A b n), nI n) := g2
  rw [g2']
  dsimp only
  unfold ok_X12_runEver_b98 F_X12_runEver_b98
  have hn16 := (xw_Bg wf (A := A) hb n).lt16 wf
  have e1 : N' (xw c A b n) = nI m := by rw [← hr.2.2.1]; exact g3.1 m hr.1
  rw [nI_clamp (by omega), e1, pk_sub (by have := hr.1; omega)]
  exact ⟨⟨hfok, g1, vp_in_nI hn16 (by decide)⟩, v1, v2, v3, v4, v5, v6, v7, v8, v9, N', f1', f2', f3', rfl, g4⟩
theorem in_nv_loop {T : Nat → Nat} {ss : Nat → Int32} {n : Nat} (hn : n ≤ 10) (hT : ∀ j, j < n → ss j = nI (T j) ∧ T j < 2 ^ 31) (l g : Int32) (hl : l + g = nI n) : ∀ f i, i ≤ n → n < i + f →
    ok_X12_isNever_L11 l g ss f (bI (az T i)) (nI i) ∧ F_X12_isNever_L11 l g ss f (bI (az T i)) (nI i) = bI (az T n) := by
  intro f
  induction f with
  | zero => intro i h1 h2; omega
  | succ f ih =>
    intro i h1 h2
    rw [ok_X12_isNever_L11_s, F_X12_isNever_L11_s, hl]
    by_cases e : i = n
    · subst e
      rw [if_pos (Int32.le_refl _)]
      exact ⟨fun q => absurd (Int32.le_refl _) q, rfl⟩
    · obtain ⟨t1, t2⟩ := hT i (by omega)
      have es : (if bI (az T i) = 0 then (0 : Int32) else (if ss i = 0 then 1 else 0)) = bI (az T (i + 1)) := by
        rw [az, t1]
        cases az T i with
        | false => rfl
        | true =>
          rw [if_neg (by decide), Bool.true_and]
          by_cases q : T i = 0
          · rw [q]; rfl
          · rw [if_neg (nI_ne0 (by omega) t2), decide_eq_false q]; rfl
      rw [if_neg (nI_ge (by omega) (by omega)), nI_clamp (by omega), es, nI_1]
      obtain ⟨g1, g2⟩ := ih (i + 1) (by omega) (by omega)
      exact ⟨fun _ => ⟨fun _ => vp_in_nI (by omega) (by decide), g1⟩, g2⟩
/-- nobody ever stands -/
theorem never_Y (R : RY c se ow wh fr to th mi ri op sh ho) {ac : Nat → Int32} {A : Nat → Nat} {r : Nat} (hr3 : r ≤ 3) (hA : ∀ h, h < 10 → ac (10 * r + h) = nI (A h) ∧ A h ≤ 5) {b m n : Nat} (hb : Bg c b) (hr : RG (xw c A b) m n) (w1 w2 w3 w4 w5 w6 w7 w8 w9 : Int32) (N f1 f2 f3 : Nat → Int32) :
    ok_X12_isNever se ow w1 w2 w3 w4 w5 w6 w7 w8 w9 wh fr to th mi ri op sh ho ac N f1 f2 f3 (nI r) (nI b) ∧
    ∃ (v1 v2 v3 v4 v5 v6 v7 v8 v9 : Int32) (N' f1' f2' f3' : Nat → Int32), F_X12_isNever se ow w1 w2 w3 w4 w5 w6 w7 w8 w9 wh fr to th mi ri op sh ho ac N f1 f2 f3 (nI r) (nI b) = (bI (az (fun j => wT c A nf (xw c A b j) 10) n), v1, v2, v3, v4, v5, v6, v7, v8, v9, nI m, nI (n - m), N', f1', f2', f3') ∧ SU (fun j => wW c A nf (xw c A b j) 10) (fun j => wR c A nf (xw c A b j) 10) (fun j => wT c A nf (xw c A b j) 10) n f1' f2' f3' := by
  have hF := FU_ge
  obtain ⟨g1, v1, v2, v3, v4, v5, v6, v7, v8, v9, N', f1', f2', f3', g2, g4⟩ := ever_Y R hr3 hA hb hr w1 w2 w3 w4 w5 w6 w7 w8 w9 N f1 f2 f3
  obtain ⟨h1, h2⟩ := in_nv_loop (T := fun j => wT c A nf (xw c A b j) 10) hr.2.1 (fun j hj => ⟨(g4 j hj).2.2, by have := wT_le c A nf (xw c A b j) 10; show wT c A nf (xw c A b j) 10 < _; omega⟩) (nI m) (nI (n - m)) (by rw [nI_add]; congr 1; have := hr.1; omega) FU 0 (Nat.zero_le _) (by have := hr.2.1; omega)
  unfold ok_X12_isNever F_X12_isNever
  rw [g2]
  dsimp only
  unfold ok_X12_isNever_b6 F_X12_isNever_b6
  have h2' : F_X12_isNever_L11 (nI m) (nI (n - m)) f3' FU 1 0 = bI (az (fun j => wT c A nf (xw c A b j) 10) n) := h2
  rw [h2']
  dsimp only
  unfold ok_X12_isNever_b51 F_X12_isNever_b51
  exact ⟨⟨g1, h1, isB_bI _⟩, v1, v2, v3, v4, v5, v6, v7, v8, v9, N', f1', f2', f3', rfl, g4⟩
end RY2

/-! the best short rule -/
noncomputable def NB : Nat := Classical.choose (⟨366, rfl⟩ : ∃ n : Nat, n = 366)
theorem NB_eq : NB = 366 := Classical.choose_spec (⟨366, rfl⟩ : ∃ n : Nat, n = 366)
noncomputable def bz (c : Cl) (α β b : Nat) : Nat → Option Nat
  | 0 => none
  | n + 1 => match bz c α β b n with
    | none => if nev c (shA n) b = true then some n else none
    | some e => if (nev c (shA n) b && decide (rpr c α β (shA n) b * rwk c (shA e) b < rpr c α β (shA e) b * rwk c (shA n) b)) = true then some n else some e
theorem bz_lt {c : Cl} {α β b : Nat} : ∀ {n e}, bz c α β b n = some e → e < n
  | 0, e, h => by cases h
  | n + 1, e, h => by
    rw [bz] at h
    cases ho : bz c α β b n with
    | none =>
      rw [ho] at h
      by_cases q : nev c (shA n) b = true
      · have h' : (if nev c (shA n) b = true then some n else none) = some e := h
        rw [if_pos q] at h'
        have := Option.some.inj h'
        omega
      · have h' : (if nev c (shA n) b = true then some n else none) = some e := h
        rw [if_neg q] at h'; cases h'
    | some e0 =>
      rw [ho] at h
      have i := bz_lt ho
      have h' : (if (nev c (shA n) b && decide (rpr c α β (shA n) b * rwk c (shA e0) b < rpr c α β (shA e0) b * rwk c (shA n) b)) = true then some n else some e0) = some e := h
      by_cases q : (nev c (shA n) b && decide (rpr c α β (shA n) b * rwk c (shA e0) b < rpr c α β (shA e0) b * rwk c (shA n) b)) = true
      · rw [if_pos q] at h'
        have := Option.some.inj h'
        omega
      · rw [if_neg q] at h'
        have := Option.some.inj h'
        omega
theorem bz_no {c : Cl} {α β b n : Nat} (h : nev c (shA n) b = false) : bz c α β b (n + 1) = bz c α β b n := by
  rw [bz]
  cases bz c α β b n with
  | none =>
    show (if nev c (shA n) b = true then some n else none) = none
    rw [h, if_neg nft]
  | some e =>
    show (if (nev c (shA n) b && _) = true then some n else some e) = some e
    rw [h, Bool.false_and, if_neg nft]
theorem bz_yn {c : Cl} {α β b n : Nat} (h : nev c (shA n) b = true) (ho : bz c α β b n = none) : bz c α β b (n + 1) = some n := by
  rw [bz, ho]
  show (if nev c (shA n) b = true then some n else none) = some n
  rw [if_pos h]
theorem bz_ys {c : Cl} {α β b n e : Nat} (h : nev c (shA n) b = true) (ho : bz c α β b n = some e) : bz c α β b (n + 1) = if rpr c α β (shA n) b * rwk c (shA e) b < rpr c α β (shA e) b * rwk c (shA n) b then some n else some e := by
  rw [bz, ho]
  show (if (nev c (shA n) b && decide (rpr c α β (shA n) b * rwk c (shA e) b < rpr c α β (shA e) b * rwk c (shA n) b)) = true then some n else some e) = _
  rw [h, Bool.true_and]
  by_cases q : rpr c α β (shA n) b * rwk c (shA e) b < rpr c α β (shA e) b * rwk c (shA n) b
  · rw [if_pos (by simp [q]), if_pos q]
  · rw [if_neg (by simp [q]), if_neg q]
theorem rpr_le {c : Cl} (w : WF c) {α β : Nat} (hα : α ≤ 9) (hβ : β ≤ 9) {n b : Nat} (hb : Bg c b) : rpr c α β (shA n) b ≤ 24300 := by
  have hr := rgp_spec w (A := shA n) hb
  have h := sm_le (F := fun j => wpr c α β (shA n) (xw c (shA n) b j) 10) (M := 2430) (fun j => wpr_le w hα hβ (fun h _ => shA_le) (xw_Bg w hb j) (by decide)) (rgp c (shA n) b).1 ((rgp c (shA n) b).2 - (rgp c (shA n) b).1)
  have h2 := hr.2.1
  unfold rpr
  omega
theorem rwk_le {c : Cl} (w : WF c) {n b : Nat} (hb : Bg c b) : 0 < rwk c (shA n) b ∧ rwk c (shA n) b ≤ 10 := by
  have hr := rgp_spec w (A := shA n) hb
  have h2 := hr.2.1
  have h1 := hr.1
  unfold rwk
  omega
theorem pw_lt {c : Cl} (w : WF c) {α β : Nat} (hα : α ≤ 9) (hβ : β ≤ 9) {n e b : Nat} (hb : Bg c b) : rpr c α β (shA n) b * rwk c (shA e) b ≤ 243000 := by
  have h := Nat.mul_le_mul (rpr_le w hα hβ (n := n) hb) (rwk_le w (n := e) hb).2
  omega
def BZ (c : Cl) (α β b : Nat) (o : Option Nat) (nu p wk : Int32) : Prop := match o with
  | none => nu = -9
  | some e => nu = nI e ∧ p = nI (rpr c α β (shA e) b) ∧ wk = nI (rwk c (shA e) b)
def BW (c : Cl) (α β b : Nat) (o : Option Nat) (nu : Int32) (u l : Int64) : Prop := match o with
  | none => nu = -9
  | some e => nu = nI e ∧ u = lN (rpr c α β (shA e) b) ∧ l = lN (rwk c (shA e) b)
section SB1
variable {c : Cl} {nx wk rk at' : Nat → Int32}
theorem sb_loop (w : WF c) (T : TB c nx wk rk at') {α β b : Nat} (hα : α ≤ 9) (hβ : β ≤ 9) (hb : Bg c b) : ∀ f n, n ≤ 366 → 366 < n + f → ∀ (nu p wks rp rw te : Int32) (ac N Q : Nat → Int32), BZ c α β b (bz c α β b n) nu p wks →
    ok_X7_seek_L28 (nI b) (nI α) (nI β) nx wk rk f nu p wks rp rw te ac N Q (nI n) ∧
    ∃ (nu' p' wks' rp' rw' te' : Int32) (ac' N' Q' : Nat → Int32), F_X7_seek_L28 (nI b) (nI α) (nI β) nx wk rk f nu p wks rp rw te ac N Q (nI n) = (nu', p', wks', rp', rw', te', ac', N', Q') ∧ BZ c α β b (bz c α β b NB) nu' p' wks' := by
  intro f
  induction f with
  | zero => intro n h1 h2; omega
  | succ f ih =>
    intro n h1 h2 nu p wks rp rw te ac N Q hB
    rw [ok_X7_seek_L28_s, F_X7_seek_L28_s]
    by_cases h366 : n = 366
    · rw [show bz c α β b n = bz c α β b NB by rw [h366, NB_eq]] at hB
      subst h366
      rw [if_pos (show (366 : Int32) ≤ nI 366 by decide)]
      exact ⟨fun q => absurd (by decide) q, nu, p, wks, rp, rw, te, ac, N, Q, rfl, hB⟩
    · obtain ⟨s1, ac1, s2, s3⟩ := short_X (n := n) (by omega) ac
      have hA : ∀ h, h < 10 → ac1 h = nI (shA n h) ∧ shA n h ≤ 5 := fun h hh => ⟨s3 h hh, shA_le⟩
      obtain ⟨n1, rp1, rw1, N1, Q1, n2, n3⟩ := ns_X w T hα hβ hA hb rp rw N Q
      rw [if_neg (le_lit (K := 366) 366 rfl (by omega) (by decide)), s2]
      dsimp only
      unfold ok_X7_seek_28_b45 F_X7_seek_28_b45
      rw [spotOf_X (hb.vk w), n2]
      dsimp only
      unfold ok_X7_seek_28_b53 F_X7_seek_28_b53
      rw [nI_1]
      refine (fun (z : _ ∧ _) => ⟨fun _ => ⟨s1, n1, z.1⟩, z.2⟩) ?_
      cases hn : nev c (shA n) b with
      | false =>
        rw [if_pos bI_f]
        obtain ⟨g1, g2⟩ := ih (n + 1) (by omega) (by omega) nu p wks rp1 rw1 (nI (if n < 6 then 0 else 1)) ac1 N1 Q1 (by rw [bz_no hn]; exact hB)
        exact ⟨⟨fun _ => g1, fun q => absurd rfl q⟩, g2⟩
      | true =>
        obtain ⟨e1, e2⟩ := n3 hn
        have h24 := rpr_le w hα hβ (n := n) hb
        have h10 := (rwk_le w (n := n) hb).2
        rw [if_neg bI_tn]
        have take : bz c α β b (n + 1) = some n → ok_X7_seek_28_b86 (ok_X7_seek_L28 (nI b) (nI α) (nI β) nx wk rk f) rp1 rw1 (nI (if n < 6 then 0 else 1)) ac1 N1 Q1 (nI n) ∧
            ∃ (nu' p' wks' rp' rw' te' : Int32) (ac' N' Q' : Nat → Int32), F_X7_seek_28_b86 (F_X7_seek_L28 (nI b) (nI α) (nI β) nx wk rk f) rp1 rw1 (nI (if n < 6 then 0 else 1)) ac1 N1 Q1 (nI n) = (nu', p', wks', rp', rw', te', ac', N', Q') ∧ BZ c α β b (bz c α β b NB) nu' p' wks' := by
          intro e
          unfold ok_X7_seek_28_b86 F_X7_seek_28_b86
          rw [nI_1]
          exact ih (n + 1) (by omega) (by omega) (nI n) rp1 rw1 rp1 rw1 (nI (if n < 6 then 0 else 1)) ac1 N1 Q1 (by rw [e]; exact ⟨rfl, e1, e2⟩)
        cases ho : bz c α β b n with
        | none =>
          rw [ho] at hB
          have hB' : nu = -9 := hB
          obtain ⟨g1, g2⟩ := take (bz_yn hn ho)
          rw [if_pos hB']
          exact ⟨⟨fun q => absurd q bI_tn, fun _ => ⟨fun _ => g1, fun q => absurd hB' q⟩⟩, g2⟩
        | some e =>
          rw [ho] at hB
          obtain ⟨b1, b2, b3⟩ := hB
          have hs := bz_ys (α := α) (β := β) hn ho
          have hl := bz_lt ho
          have hnu : ¬ nu = -9 := by rw [b1]; exact nI_ne9 (by omega)
          have p1 := pw_lt w hα hβ (n := n) (e := e) hb
          have p2 := pw_lt w hα hβ (n := e) (e := n) hb
          rw [if_neg hnu, b2, b3, e1, e2, pk_mul, pk_mul]
          rw [e1, e2] at take
          by_cases q : rpr c α β (shA n) b * rwk c (shA e) b < rpr c α β (shA e) b * rwk c (shA n) b
          · rw [if_pos q] at hs
            obtain ⟨g1, g2⟩ := take hs
            rw [if_neg (nI_ge q (by omega))]
            exact ⟨⟨fun q => absurd q bI_tn, fun _ => ⟨fun q => absurd q hnu, fun _ => ⟨fun q' => absurd q' (nI_ge q (by omega)), fun _ => g1⟩⟩⟩, g2⟩
          · rw [if_neg q] at hs
            have hle : nI (rpr c α β (shA e) b * rwk c (shA n) b) ≤ nI (rpr c α β (shA n) b * rwk c (shA e) b) := nI_le (by omega) (by omega)
            rw [if_pos hle]
            obtain ⟨g1, g2⟩ := ih (n + 1) (by omega) (by omega) nu (nI (rpr c α β (shA e) b)) (nI (rwk c (shA e) b)) (nI (rpr c α β (shA n) b)) (nI (rwk c (shA n) b)) (nI (if n < 6 then 0 else 1)) ac1 N1 Q1 (by rw [hs]; exact ⟨b1, rfl, rfl⟩)
            exact ⟨⟨fun q => absurd q bI_tn, fun _ => ⟨fun q => absurd q hnu, fun _ => ⟨fun _ => g1, fun q' => absurd hle q'⟩⟩⟩, g2⟩
end SB1
section SB2
variable {c : Cl} {pe se pl ow : Int32} {pr mi ri oF oL ho be en co nc : Nat → Int32}
theorem brief_X (R : RX c pe se pl ow pr mi ri oF oL ho be en co nc) {fi la : Nat → Int32} (hf : ∀ s, s < kS c → fi s = nI (kF c s) ∧ la s = nI (kT c s)) {α β b : Nat} (hα : α ≤ 9) (hβ : β ≤ 9) (hb : Bg c b) (p wks rp rw te : Int32) (nx wk rk at' ac N Q : Nat → Int32) (w1 w2 w3 w4 w5 w6 w7 w8 w9 : Int32) :
    ok_X7_seek p wks rp rw nx wk rk at' w1 w2 w3 w4 w5 w6 w7 w8 w9 te ac N Q pe se pl ow pr fi la mi ri oF oL ho be en co nc (nI b) (nI α) (nI β) ∧
    ∃ (nu' p' wks' x y rp' rw' te' : Int32) (nx' wk' rk' at'' ac' N' Q' : Nat → Int32) (v1 v2 v3 v4 v5 v6 v7 v8 v9 : Int32), F_X7_seek p wks rp rw nx wk rk at' w1 w2 w3 w4 w5 w6 w7 w8 w9 te ac N Q pe se pl ow pr fi la mi ri oF oL ho be en co nc (nI b) (nI α) (nI β) = (nu', p', wks', x, y, rp', rw', nx', wk', rk', at'', v1, v2, v3, v4, v5, v6, v7, v8, v9, te', ac', N', Q') ∧ BZ c α β b (bz c α β b NB) nu' p' wks' := by
  obtain ⟨p1, nx', wk', rk', at'', v1, v2, v3, v4, v5, v6, v7, v8, v9, p2, p3⟩ := prep_X R hf nx wk rk at' w1 w2 w3 w4 w5 w6 w7 w8 w9
  obtain ⟨g1, nu', p', wks', rp', rw', te', ac', N', Q', g2, g3⟩ := sb_loop R.1 p3 hα hβ hb FU 0 (Nat.zero_le _) (by have := FU_ge; omega) (-9) p wks rp rw te ac N Q rfl
  rw [nI_0] at g1 g2
  unfold ok_X7_seek F_X7_seek
  rw [p2]
  dsimp only
  unfold ok_X7_seek_b25 F_X7_seek_b25
  rw [g2]
  exact ⟨⟨p1, g1⟩, nu', p', wks', nI α, nI β, rp', rw', te', nx', wk', rk', at'', ac', N', Q', v1, v2, v3, v4, v5, v6, v7, v8, v9, rfl, g3⟩
end SB2
theorem ts_loop {n r : Nat} (hn : n < 366) (hr : r ≤ 3) (x : Int32) (hx : 6 ≤ n → x = nI (n - 6)) : ∀ f h ac, h ≤ 10 → 10 < h + f → ok_X12_tryShort_L8 (nI n) (nI r) x f ac (nI h) ∧ (∀ j, h ≤ j → j < 10 → F_X12_tryShort_L8 (nI n) (nI r) x f ac (nI h) (10 * r + j) = nI (shA n j)) ∧ (∀ i, (i < 10 * r + h ∨ 10 * r + 10 ≤ i) → F_X12_tryShort_L8 (nI n) (nI r) x f ac (nI h) i = ac i) := by
  intro f
  induction f with
  | zero => intro h ac h1 h2; omega
  | succ f ih =>
    intro h ac h1 h2
    rw [ok_X12_tryShort_L8_s, F_X12_tryShort_L8_s]
    by_cases h10 : h = 10
    · subst h10
      rw [if_pos (show (10 : Int32) ≤ nI 10 by decide)]
      exact ⟨fun q => absurd (by decide) q, fun j h3 h4 => by omega, fun i _ => rfl⟩
    · have ei : (10 : Int32) * nI r + nI h = nI (10 * r + h) := by rw [show (10 : Int32) * nI r = nI (10 * r) from pk_mul 10 r, nI_add]
      have ev : (if (6 : Int32) ≤ nI n then (if nI h = x / (36 : Int32) then ((x / (6 : Int32)) - (x / (6 : Int32)) / (6 : Int32) * (6 : Int32)) else (x - x / (6 : Int32) * (6 : Int32))) else nI n) = nI (shA n h) := by
        unfold shA
        by_cases h6 : n < 6
        · rw [if_neg (le_lit (K := 6) 6 rfl h6 (by decide)), if_pos h6]
        · rw [if_pos (show (6 : Int32) ≤ nI n from nI_le (a := 6) (by omega) (by omega)), if_neg h6, hx (by omega), show nI (n - 6) / (36 : Int32) = nI ((n - 6) / 36) from pk_div (d := 36) (by omega) (by decide) (by decide), show nI (n - 6) / (6 : Int32) = nI ((n - 6) / 6) from pk_div (d := 6) (by omega) (by decide) (by decide), rem6 (by omega), show nI (n - 6) - nI ((n - 6) / 6) * (6 : Int32) = nI (n % 6) from by
            rw [show nI ((n - 6) / 6) * (6 : Int32) = nI ((n - 6) / 6 * 6) from pk_mul _ 6, pk_sub (by omega)]
            congr 1; omega]
          by_cases q : h = (n - 6) / 36
          · rw [if_pos (by rw [q]), if_pos q]
          · rw [if_neg (fun q2 => q ((nI_eq (by omega) (by omega)).mp q2)), if_neg q]
      rw [if_neg (le_lit (K := 10) 10 rfl (by omega) (by decide)), ei, nI_clamp (by omega), ev, nI_1]
      obtain ⟨g1, g2, g3⟩ := ih (h + 1) (upd ac (10 * r + h) (nI (shA n h))) (by omega) (by omega)
      refine ⟨fun _ => ⟨vp_in_nI (by omega) (by decide), g1⟩, fun j h3 h4 => ?_, fun i hi => ?_⟩
      · by_cases q : j = h
        · rw [q, g3 _ (by omega), pk_us]
        · exact g2 j (by omega) h4
      · rw [g3 i (by omega), pk_un (by omega)]
theorem try_Y {n r : Nat} (hn : n < 366) (hr : r ≤ 3) (ac : Nat → Int32) : ok_X12_tryShort ac (nI n) (nI r) ∧ (∀ h, h < 10 → F_X12_tryShort ac (nI n) (nI r) (10 * r + h) = nI (shA n h)) ∧ (∀ i, (i < 10 * r ∨ 10 * r + 10 ≤ i) → F_X12_tryShort ac (nI n) (nI r) i = ac i) := by
  obtain ⟨g1, g2, g3⟩ := ts_loop hn hr (nI n - 6) (fun h => pk_sub (b := 6) h) FU 0 ac (Nat.zero_le _) (by have := FU_ge; omega)
  exact ⟨g1, fun h hh => g2 h (Nat.zero_le _) hh, fun i hi => g3 i (by omega)⟩
section SB3
variable {c : Cl} {se ow : Int32} {wh fr to th mi ri op sh ho : Nat → Int32}
theorem bsum_loop {α β m n : Nat} {F G : Nat → Nat} {f g : Nat → Int32} (hn : n ≤ 10) (h : ∀ j, j < n → f j = nI (F j) ∧ g j = nI (G j)) (hb : ∀ j, α * F j + β * G j < 2 ^ 31) (l rr : Int32) (hl : l + rr = nI n) : ∀ u d, m + d ≤ n → n < m + d + u →
    ok_X12_findBrief_L7_40 (nI α) (nI β) l rr f g u (lN (sm (fun j => α * F j + β * G j) m d)) (nI (m + d)) ∧ F_X12_findBrief_L7_40 (nI α) (nI β) l rr f g u (lN (sm (fun j => α * F j + β * G j) m d)) (nI (m + d)) = lN (sm (fun j => α * F j + β * G j) m (n - m)) := by
  intro u
  induction u with
  | zero => intro d h1 h2; omega
  | succ u ih =>
    intro d h1 h2
    rw [ok_X12_findBrief_L7_40_s, F_X12_findBrief_L7_40_s, hl]
    by_cases e : m + d = n
    · rw [if_pos (by rw [e]; exact Int32.le_refl _), show n - m = d by omega]
      exact ⟨fun q => absurd (by rw [e]; exact Int32.le_refl _) q, rfl⟩
    · obtain ⟨e1, e2⟩ := h (m + d) (by omega)
      have hv : vp_in (nI (m + d)) 20 := vp_in_nI (by omega) (by decide)
      rw [if_neg (nI_ge (by omega) (by omega)), nI_clamp (by omega), e1, e2, pk_mul, pk_mul, nI_add, nI_l (hb _), lN_add, nI_1]
      obtain ⟨g1, g2⟩ := ih (d + 1) (by omega) (by omega)
      exact ⟨fun _ => ⟨hv, hv, g1⟩, g2⟩
theorem fb_loop (R : RY c se ow wh fr to th mi ri op sh ho) {α β b : Nat} (hα : α ≤ 9) (hβ : β ≤ 9) (hb : Bg c b) : ∀ f n, n ≤ 366 → 366 < n + f → ∀ (w1 w2 w3 w4 w5 w6 w7 w8 w9 ld rg : Int32) (up low : Int64) (ac N f1 f2 f3 : Nat → Int32) (nu : Int32), BW c α β b (bz c α β b n) nu up low →
    ok_X12_findBrief_L7 se ow wh fr to th mi ri op sh ho (nI b) (nI α) (nI β) f w1 w2 w3 w4 w5 w6 w7 w8 w9 ld rg up low ac N f1 f2 f3 nu (nI n) ∧
    ∃ (v1 v2 v3 v4 v5 v6 v7 v8 v9 ld' rg' : Int32) (up' low' : Int64) (ac' N' f1' f2' f3' : Nat → Int32) (nu' : Int32), F_X12_findBrief_L7 se ow wh fr to th mi ri op sh ho (nI b) (nI α) (nI β) f w1 w2 w3 w4 w5 w6 w7 w8 w9 ld rg up low ac N f1 f2 f3 nu (nI n) = (v1, v2, v3, v4, v5, v6, v7, v8, v9, ld', rg', up', low', ac', N', f1', f2', f3', nu') ∧ BW c α β b (bz c α β b NB) nu' up' low' ∧ ∀ i, i < 30 → ac' i = ac i := by
  have w := R.1
  intro f
  induction f with
  | zero => intro n h1 h2; omega
  | succ f ih =>
    intro n h1 h2 w1 w2 w3 w4 w5 w6 w7 w8 w9 ld rg up low ac N f1 f2 f3 nu hB
    rw [ok_X12_findBrief_L7_s, F_X12_findBrief_L7_s]
    by_cases h366 : n = 366
    · rw [show bz c α β b n = bz c α β b NB by rw [h366, NB_eq]] at hB
      subst h366
      rw [if_pos (show (366 : Int32) ≤ nI 366 by decide)]
      exact ⟨fun q => absurd (by decide) q, w1, w2, w3, w4, w5, w6, w7, w8, w9, ld, rg, up, low, ac, N, f1, f2, f3, nu, rfl, hB, fun i _ => rfl⟩
    · obtain ⟨t1, t2, t3⟩ := try_Y (n := n) (r := 3) (by omega) (by decide) ac
      have t1' : ok_X12_tryShort ac (nI n) 3 := t1
      have t2' : ∀ h, h < 10 → F_X12_tryShort ac (nI n) 3 (10 * 3 + h) = nI (shA n h) := t2
      have t3' : ∀ i, i < 30 → F_X12_tryShort ac (nI n) 3 i = ac i := fun i hi => t3 i (by omega)
      rw [if_neg (le_lit (K := 366) 366 rfl (by omega) (by decide))]
      dsimp only
      generalize F_X12_tryShort ac (nI n) 3 = ac1 at t2' t3'
      have hr := rgp_spec w (A := shA n) hb
      obtain ⟨y1, u1, u2, u3, u4, u5, u6, u7, u8, u9, N1, g1, g2, g3, y2, y3⟩ := never_Y R (r := 3) (by decide) (ac := ac1) (A := shA n) (fun h hh => ⟨t2' h hh, shA_le⟩) hb hr w1 w2 w3 w4 w5 w6 w7 w8 w9 N f1 f2 f3
      have y2' : F_X12_isNever se ow w1 w2 w3 w4 w5 w6 w7 w8 w9 wh fr to th mi ri op sh ho ac1 N f1 f2 f3 3 (nI b) = (bI (nev c (shA n) b), u1, u2, u3, u4, u5, u6, u7, u8, u9, nI (rgp c (shA n) b).1, nI ((rgp c (shA n) b).2 - (rgp c (shA n) b).1), N1, g1, g2, g3) := y2
      have y1' : ok_X12_isNever se ow w1 w2 w3 w4 w5 w6 w7 w8 w9 wh fr to th mi ri op sh ho ac1 N f1 f2 f3 3 (nI b) := y1
      unfold ok_X12_findBrief_7_b22 F_X12_findBrief_7_b22
      rw [y2']
      dsimp only
      unfold ok_X12_findBrief_7_b28 F_X12_findBrief_7_b28
      rw [nI_1]
      refine (fun (z : _ ∧ _) => ⟨fun _ => ⟨t1', y1', z.1⟩, z.2⟩) ?_
      cases hn : nev c (shA n) b with
      | false =>
        rw [if_pos bI_f]
        obtain ⟨k1, v1, v2, v3, v4, v5, v6, v7, v8, v9, ld', rg', up', low', ac', N', f1', f2', f3', nu', k2, k3, k4⟩ := ih (n + 1) (by omega) (by omega) u1 u2 u3 u4 u5 u6 u7 u8 u9 (nI (rgp c (shA n) b).1) (nI ((rgp c (shA n) b).2 - (rgp c (shA n) b).1)) up low ac1 N1 g1 g2 g3 nu (by rw [bz_no hn]; exact hB)
        exact ⟨⟨fun _ => k1, fun q => absurd rfl q⟩, v1, v2, v3, v4, v5, v6, v7, v8, v9, ld', rg', up', low', ac', N', f1', f2', f3', nu', k2, k3, fun i hi => (k4 i hi).trans (t3' i hi)⟩
      | true =>
        have h24 := rpr_le w hα hβ (n := n) hb
        have h10 := rwk_le w (n := n) hb
        have hn10 := hr.2.1
        obtain ⟨s1, s2⟩ := bsum_loop (α := α) (β := β) (m := (rgp c (shA n) b).1) (n := (rgp c (shA n) b).2) (F := fun j => wW c (shA n) nf (xw c (shA n) b j) 10) (G := fun j => wR c (shA n) nf (xw c (shA n) b j) 10) (f := g1) (g := g2) hn10 (fun j hj => ⟨(y3 j hj).1, (y3 j hj).2.1⟩) (fun j => by
          have := wpr_le w hα hβ (A := shA n) (fun h _ => shA_le) (xw_Bg w (A := shA n) hb j) (h := 10) (by decide)
          unfold wpr at this
          exact Nat.lt_of_le_of_lt this (by decide)) (nI (rgp c (shA n) b).1) (nI ((rgp c (shA n) b).2 - (rgp c (shA n) b).1)) (by rw [nI_add]; congr 1; have := hr.1; omega) FU 0 (by have := hr.1; omega) (by have := FU_ge; omega)
        have s2' : F_X12_findBrief_L7_40 (nI α) (nI β) (nI (rgp c (shA n) b).1) (nI ((rgp c (shA n) b).2 - (rgp c (shA n) b).1)) g1 g2 FU 0 (nI (rgp c (shA n) b).1) = lN (rpr c α β (shA n) b) := s2
        have s1' : ok_X12_findBrief_L7_40 (nI α) (nI β) (nI (rgp c (shA n) b).1) (nI ((rgp c (shA n) b).2 - (rgp c (shA n) b).1)) g1 g2 FU 0 (nI (rgp c (shA n) b).1) := s1
        rw [if_neg bI_tn, s2']
        dsimp only
        unfold ok_X12_findBrief_7_b85 F_X12_findBrief_7_b85
        have erw : (nI ((rgp c (shA n) b).2 - (rgp c (shA n) b).1)).toInt64 = lN (rwk c (shA n) b) := nI_l (by unfold rwk at h10; omega)
        have take : bz c α β b (n + 1) = some n → ok_X12_findBrief_7_b113 (ok_X12_findBrief_L7 se ow wh fr to th mi ri op sh ho (nI b) (nI α) (nI β) f) u1 u2 u3 u4 u5 u6 u7 u8 u9 (nI (rgp c (shA n) b).1) (nI ((rgp c (shA n) b).2 - (rgp c (shA n) b).1)) ac1 N1 g1 g2 g3 (nI n) (lN (rpr c α β (shA n) b)) ∧
            ∃ (v1 v2 v3 v4 v5 v6 v7 v8 v9 ld' rg' : Int32) (up' low' : Int64) (ac' N' f1' f2' f3' : Nat → Int32) (nu' : Int32), F_X12_findBrief_7_b113 (F_X12_findBrief_L7 se ow wh fr to th mi ri op sh ho (nI b) (nI α) (nI β) f) u1 u2 u3 u4 u5 u6 u7 u8 u9 (nI (rgp c (shA n) b).1) (nI ((rgp c (shA n) b).2 - (rgp c (shA n) b).1)) ac1 N1 g1 g2 g3 (nI n) (lN (rpr c α β (shA n) b)) = (v1, v2, v3, v4, v5, v6, v7, v8, v9, ld', rg', up', low', ac', N', f1', f2', f3', nu') ∧ BW c α β b (bz c α β b NB) nu' up' low' ∧ ∀ i, i < 30 → ac' i = ac i := by
          intro e
          unfold ok_X12_findBrief_7_b113 F_X12_findBrief_7_b113
          rw [nI_1, erw]
          obtain ⟨k1, v1, v2, v3, v4, v5, v6, v7, v8, v9, ld', rg', up', low', ac', N', f1', f2', f3', nu', k2, k3, k4⟩ := ih (n + 1) (by omega) (by omega) u1 u2 u3 u4 u5 u6 u7 u8 u9 (nI (rgp c (shA n) b).1) (nI ((rgp c (shA n) b).2 - (rgp c (shA n) b).1)) (lN (rpr c α β (shA n) b)) (lN (rwk c (shA n) b)) ac1 N1 g1 g2 g3 (nI n) (by rw [e]; exact ⟨rfl, rfl, rfl⟩)
          exact ⟨k1, v1, v2, v3, v4, v5, v6, v7, v8, v9, ld', rg', up', low', ac', N', f1', f2', f3', nu', k2, k3, fun i hi => (k4 i hi).trans (t3' i hi)⟩
        cases ho : bz c α β b n with
        | none =>
          rw [ho] at hB
          have hB' : nu = -9 := hB
          obtain ⟨k1, k2⟩ := take (bz_yn hn ho)
          rw [if_pos hB']
          exact ⟨⟨fun q => absurd q bI_tn, fun _ => ⟨s1', fun _ => k1, fun q => absurd hB' q⟩⟩, k2⟩
        | some e =>
          rw [ho] at hB
          obtain ⟨b1, b2, b3⟩ := hB
          have hs := bz_ys (α := α) (β := β) hn ho
          have hl := bz_lt ho
          have hnu : ¬ nu = -9 := by rw [b1]; exact nI_ne9 (by omega)
          have p1 := pw_lt w hα hβ (n := n) (e := e) hb
          have p2 := pw_lt w hα hβ (n := e) (e := n) hb
          have hcm : (0 : Int32) ≤ lg_cmp (lN (rpr c α β (shA n) b) * low) (up * (nI ((rgp c (shA n) b).2 - (rgp c (shA n) b).1)).toInt64) ↔ ¬ rpr c α β (shA n) b * rwk c (shA e) b < rpr c α β (shA e) b * rwk c (shA n) b := by
            rw [lg_cmp_ge, erw, b2, b3, lN_mul, lN_mul, pk_lLE (by omega) (by omega)]
            omega
          rw [if_neg hnu]
          by_cases q : rpr c α β (shA n) b * rwk c (shA e) b < rpr c α β (shA e) b * rwk c (shA n) b
          · rw [if_pos q] at hs
            obtain ⟨k1, k2⟩ := take hs
            have hx := fun z => (hcm.mp z) q
            rw [if_neg hx]
            exact ⟨⟨fun q => absurd q bI_tn, fun _ => ⟨s1', fun q => absurd q hnu, fun _ => ⟨fun q' => absurd q' hx, fun _ => k1⟩⟩⟩, k2⟩
          · rw [if_neg q] at hs
            have hx := hcm.mpr q
            rw [if_pos hx, nI_1]
            obtain ⟨k1, v1, v2, v3, v4, v5, v6, v7, v8, v9, ld', rg', up', low', ac', N', f1', f2', f3', nu', k2, k3, k4⟩ := ih (n + 1) (by omega) (by omega) u1 u2 u3 u4 u5 u6 u7 u8 u9 (nI (rgp c (shA n) b).1) (nI ((rgp c (shA n) b).2 - (rgp c (shA n) b).1)) up low ac1 N1 g1 g2 g3 nu (by rw [hs]; exact ⟨b1, b2, b3⟩)
            exact ⟨⟨fun q => absurd q bI_tn, fun _ => ⟨s1', fun q => absurd q hnu, fun _ => ⟨fun _ => k1, fun q' => absurd hx q'⟩⟩⟩, v1, v2, v3, v4, v5, v6, v7, v8, v9, ld', rg', up', low', ac', N', f1', f2', f3', nu', k2, k3, fun i hi => (k4 i hi).trans (t3' i hi)⟩
theorem brief_Y (R : RY c se ow wh fr to th mi ri op sh ho) {α β b : Nat} (hα : α ≤ 9) (hβ : β ≤ 9) (hb : Bg c b) (w1 w2 w3 w4 w5 w6 w7 w8 w9 ld rg : Int32) (up low : Int64) (ac N f1 f2 f3 : Nat → Int32) :
    ok_X12_findBrief se ow w1 w2 w3 w4 w5 w6 w7 w8 w9 ld rg up low wh fr to th mi ri op sh ho ac N f1 f2 f3 (nI b) (nI α) (nI β) ∧
    ∃ (v1 v2 v3 v4 v5 v6 v7 v8 v9 ld' rg' : Int32) (up' low' : Int64) (ac' N' f1' f2' f3' : Nat → Int32) (nu' : Int32), F_X12_findBrief se ow w1 w2 w3 w4 w5 w6 w7 w8 w9 ld rg up low wh fr to th mi ri op sh ho ac N f1 f2 f3 (nI b) (nI α) (nI β) = (nu', v1, v2, v3, v4, v5, v6, v7, v8, v9, ld', rg', up', low', ac', N', f1', f2', f3') ∧ BW c α β b (bz c α β b NB) nu' up' low' ∧ ∀ i, i < 30 → ac' i = ac i := by
  obtain ⟨k1, v1, v2, v3, v4, v5, v6, v7, v8, v9, ld', rg', up', low', ac', N', f1', f2', f3', nu', k2, k3, k4⟩ := fb_loop R hα hβ hb FU 0 (Nat.zero_le _) (by have := FU_ge; omega) w1 w2 w3 w4 w5 w6 w7 w8 w9 ld rg up low ac N f1 f2 f3 (-9) rfl
  rw [nI_0] at k1 k2
  unfold ok_X12_findBrief F_X12_findBrief
  rw [k2]
  exact ⟨k1, v1, v2, v3, v4, v5, v6, v7, v8, v9, ld', rg', up', low', ac', N', f1', f2', f3', nu', rfl, k3, k4⟩
end SB3

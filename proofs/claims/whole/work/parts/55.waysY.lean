/-! ways, by the reference -/
theorem in_N {x a b : Nat} (hx : x < 2 ^ 31) (ha : a < 2 ^ 31) (hb : b < 2 ^ 31) : F_X12_in (lN x) (lN a) (lN b) = bI (decide (a ≤ x) && decide (x ≤ b)) := by
  rw [← nI_l hx, ← nI_l ha, ← nI_l hb]
  exact in_nI hx ha hb
theorem mn_eq {F G : Nat → Nat} (h : ∀ a, F a = G a ∨ (FAR ≤ F a ∧ FAR ≤ G a)) : ∀ n, mn F n = mn G n
  | 0 => rfl
  | n + 1 => by
    have h1 := mn_le F n
    have ih := mn_eq h n
    rw [mn, mn, ← ih]
    rcases h n with e | ⟨e1, e2⟩
    · rw [e]
    · rw [if_neg (by omega), if_neg (by omega)]
/-- the reference's sum -/
def csr (c : Cl) (α β : Nat) (L : Nat → Nat) (h a k : Nat) : Nat := match st c h a k with
  | none => FAR
  | some k' => pri c α β h a k + L k'
theorem csr_mn (c : Cl) (α β : Nat) (L : Nat → Nat) (h k n : Nat) : mn (fun a => csr c α β L h a k) n = mn (fun a => cst c α β L h a k) n := by
  apply mn_eq
  intro a
  unfold csr cst
  cases st c h a k with
  | none => exact Or.inl rfl
  | some k' =>
    show pri c α β h a k + L k' = (if L k' = FAR then FAR else L k' + pri c α β h a k) ∨ (FAR ≤ pri c α β h a k + L k' ∧ FAR ≤ (if L k' = FAR then FAR else L k' + pri c α β h a k))
    by_cases q : L k' = FAR
    · rw [if_pos q]; right; omega
    · rw [if_neg q]; left; omega
theorem lh_np {c : Cl} {α β e h k : Nat} (hh : h < 10) (hp : ps c h k = false) : lh c α β e h k = FAR := by
  rw [lh_step c α β e hh]
  have : ∀ a, cst c α β (lh c α β e (h + 1)) h a k = FAR := fun a => by
    unfold cst st
    rw [hp, Bool.false_and, if_neg nft]
  exact (mn_const (F := fun a => cst c α β (lh c α β e (h + 1)) h a k) (fun a => by rw [this, this]) (by rw [this]; exact Nat.le_refl _) 5).trans (this 0)
theorem ix32 (h k : Nat) : (32 : Int32) * nI h + nI k = nI (32 * h + k) := by
  rw [show (32 : Int32) * nI h = nI (32 * h) from pk_mul 32 h, nI_add]
section WY3
variable {c : Cl} {se ow : Int32} {wh fr to th mi ri op sh ho : Nat → Int32}
theorem go_loop2 {K : Nat} (hK : K ≤ 8) {f l : Nat → Int32} {F T : Nat → Nat} (hf : ∀ s, s < K → f s = nI (F s) ∧ l s = nI (T s) ∧ F s < 10 ∧ T s < 10) {h : Nat} (hh : h < 10) : ∀ n j v, j ≤ K → K < j + n →
    ok_X12_going_L4 (nI K) f l (nI h) n v (nI j) ∧ ∀ i, bt (F_X12_going_L4 (nI K) f l (nI h) n v (nI j)) i = (bt v i || (decide (j ≤ i) && (decide (i < K) && (decide (F i < h) && decide (h ≤ T i))))) := by
  intro n
  induction n with
  | zero => intro j v h1 h2; omega
  | succ n ih =>
    intro j v h1 h2
    rw [ok_X12_going_L4_s, F_X12_going_L4_s]
    by_cases hj : j = K
    · subst hj
      rw [if_pos (Int32.le_refl _)]
      refine ⟨fun q => absurd (Int32.le_refl _) q, fun i => ?_⟩
      by_cases h3 : j ≤ i
      · have : ¬ i < j := by omega
        simp [this]
      · simp [h3]
    · obtain ⟨e1, e2, e3, e4⟩ := hf j (by omega)
      have hv : vp_in (nI j) 8 := vp_in_nI (by omega) (by decide)
      have ev : (if nI h ≤ nI (F j) then (0 : Int32) else (if nI (T j) < nI h then (0 : Int32) else ((1 : Int32) <<< (nI j &&& (31 : Int32))))) = if (decide (F j < h) && decide (h ≤ T j)) = true then (1 : Int32) <<< (nI j &&& 31) else 0 := by
        by_cases h5 : h ≤ F j
        · have : ¬ F j < h := by omega
          rw [if_pos (nI_le h5 (by omega)), if_neg (by simp [this])]
        · rw [if_neg (nI_ge (by omega) (by omega))]
          by_cases h6 : T j < h
          · have : ¬ h ≤ T j := by omega
            rw [if_pos (nI_lt h6 (by omega)), if_neg (by simp [this])]
          · have q1 : F j < h := by omega
            have q2 : h ≤ T j := by omega
            rw [if_neg (nI_nlt (by omega) (by omega)), if_pos (by simp [q1, q2])]
      rw [if_neg (nI_ge (by omega) (by omega)), nI_clamp (by omega), e1, e2, ev]
      dsimp only
      unfold ok_X12_going_4_b42 F_X12_going_4_b42
      rw [nI_1]
      obtain ⟨g1, g2⟩ := ih (j + 1) (v ||| if (decide (F j < h) && decide (h ≤ T j)) = true then (1 : Int32) <<< (nI j &&& 31) else 0) (by omega) (by omega)
      refine ⟨fun _ => ⟨hv, fun _ => hv, g1⟩, fun i => ?_⟩
      rw [g2 i, b_or]
      by_cases hi : i < 32
      · by_cases e : i = j
        · subst e
          have q1 : i < K := by omega
          cases hb : (decide (F i < h) && decide (h ≤ T i)) with
          | false => rw [if_neg nft, b_0]; simp
          | true => rw [if_pos rfl, bt_bit (by omega) hi]; simp [q1]
        · have q1 : (j + 1 ≤ i) ↔ (j ≤ i) := by omega
          have q2 : bt (if (decide (F j < h) && decide (h ≤ T j)) = true then (1 : Int32) <<< (nI j &&& 31) else 0) i = false := by
            cases (decide (F j < h) && decide (h ≤ T j)) with
            | false => rw [if_neg nft, b_0]
            | true => rw [if_pos rfl, bt_bit (by omega) hi]; simp [e]
          rw [q2]
          simp [q1]
      · have : ¬ i < K := by omega
        rw [b_big (x := v) (by omega), b_big (by omega)]
        simp [this]
theorem going_Y (R : RY c se ow wh fr to th mi ri op sh ho) {h : Nat} (hh : h < 10) : ok_X12_going se fr to (nI h) ∧ F_X12_going se fr to (nI h) = gng c h := by
  have wf := R.1
  obtain ⟨g1, g2⟩ := go_loop2 wf.s8 (F := kF c) (T := kT c) (fun s hs => ⟨(R.2.2.2.1 s hs).2.1, (R.2.2.2.1 s hs).2.2, by have := wf.ss hs; omega, by have := wf.ss hs; omega⟩) hh FU 0 0 (Nat.zero_le _) (by have := FU_ge; have := wf.s8; omega)
  rw [R.2.1]
  refine ⟨g1, bt_ext (fun i => ?_)⟩
  rw [bt_gng wf]
  refine (g2 i).trans ?_
  rw [b_0]
  simp
theorem noBegin_Y (R : RY c se ow wh fr to th mi ri op sh ho) {k : Nat} (hk : k < 2 ^ 30) : ok_X12_noBegin (nI k) ∧ F_X12_noBegin (nI (kN c)) th (nI k) = bI (!bgb c k) := by
  have wf := R.1
  have h6 := wf.n6
  have i1 : F_X12_in (nI k).toInt64 0 3 = bI (decide (k < 4)) := by
    rw [nI_l (by omega)]
    refine (in_N (a := 0) (b := 3) (by omega) (by decide) (by decide)).trans ?_
    congr 1
    rw [decide_eq_true (Nat.zero_le k), Bool.true_and]
    congr 1
    apply propext; omega
  have i2 : F_X12_in (nI k).toInt64 10 ((9 : Int32) + nI (kN c)).toInt64 = bI (decide (10 ≤ k) && decide (k < 10 + kN c)) := by
    rw [show (9 : Int32) + nI (kN c) = nI (9 + kN c) from nI_add 9 _, nI_l (by omega), nI_l (by omega)]
    refine (in_N (a := 10) (b := 9 + kN c) (by omega) (by decide) (by omega)).trans ?_
    congr 2
    congr 1
    apply propext; omega
  unfold ok_X12_noBegin F_X12_noBegin bgb
  rw [i1, i2]
  by_cases h4 : k < 4
  · rw [decide_eq_true h4, nI_clamp (by omega), (R.2.2.2.2.1 k h4).1]
    have h10 : ¬ 10 ≤ k := by omega
    refine ⟨fun _ => vp_in_nI h4 (by decide), ?_⟩
    rw [decide_eq_false h10, Bool.false_and, Bool.or_false, Bool.true_and, if_neg bI_tn]
    cases kP c k <;> rfl
  · rw [decide_eq_false h4, Bool.false_and, Bool.false_or, if_pos bI_f]
    refine ⟨fun q => absurd rfl q, ?_⟩
    cases (decide (10 ≤ k) && decide (k < 10 + kN c)) <;> rfl
theorem isPK_Y (R : RY c se ow wh fr to th mi ri op sh ho) {h k : Nat} (hh : h < 10) (hk : k < 32) : ok_X12_isPlaceOfKey (nI (kN c)) se fr to th (nI k) (nI h) ∧ F_X12_isPlaceOfKey (nI (kN c)) se fr to th (nI k) (nI h) = bI (ps c h k) := by
  have wf := R.1
  have h6 := wf.n6
  obtain ⟨o1, o2⟩ := going_Y R hh
  have i2 : F_X12_in (nI k).toInt64 10 ((9 : Int32) + nI (kN c)).toInt64 = bI (decide (10 ≤ k) && decide (k < 10 + kN c)) := by
    rw [show (9 : Int32) + nI (kN c) = nI (9 + kN c) from nI_add 9 _, nI_l (by omega), nI_l (by omega)]
    refine (in_N (a := 10) (b := 9 + kN c) (by omega) (by decide) (by omega)).trans ?_
    congr 2
    congr 1
    apply propext; omega
  have eq : F_X12_isPlaceOfKey (nI (kN c)) se fr to th (nI k) (nI h) = bI (ps c h k) := by
    unfold F_X12_isPlaceOfKey ps bgb
    rw [i2, o2]
    by_cases h4 : k < 4
    · rw [if_neg (le_lit (K := 4) 4 rfl h4 (by decide)), nI_clamp (by omega), (R.2.2.2.2.1 k h4).1, if_neg (by omega), decide_eq_true h4, decide_eq_false (show ¬ 10 ≤ k by omega)]
      simp
    · rw [if_pos (show (4 : Int32) ≤ nI k from nI_le (a := 4) (by omega) (by omega)), decide_eq_false h4, Bool.false_and, Bool.false_or]
      by_cases h20 : k = 20
      · subst h20
        rw [decide_eq_false (show ¬ 20 < 10 + kN c by omega), Bool.and_false, if_pos bI_f, if_pos (show nI 20 = (20 : Int32) from rfl), if_pos rfl]
        by_cases q : gng c h = 0
        · rw [if_pos q, decide_eq_false (fun q2 => q2 q)]; rfl
        · rw [if_neg q, decide_eq_true q]; rfl
      · rw [if_neg h20, if_neg (fun q => h20 ((eq_lit (K := 20) 20 rfl (by omega) (by decide)).mp q))]
        cases (decide (10 ≤ k) && decide (k < 10 + kN c)) <;> rfl
  refine ⟨⟨⟨fun _ _ _ => o1, fun q => vp_in_nI (Nat.lt_of_not_le (fun q2 => q (nI_le (a := 4) q2 (by omega)))) (by decide)⟩, ?_⟩, eq⟩
  unfold F_X12_isPlaceOfKey at eq
  rw [eq]
  exact isB_bI _
theorem step_Y (R : RY c se ow wh fr to th mi ri op sh ho) {h k a : Nat} (α β : Nat) (hh : h < 10) (ha : a ≤ 5) (hp : ps c h k = true) :
    ok_X12_step se ow wh fr to th mi op sh (nI h) (nI k) (nI a) ∧ ∃ (u1 u2 u3 u4 u5 u6 u7 : Int32), F_X12_step se ow wh fr to th mi ri op sh ho (nI h) (nI k) (nI a) (nI α) (nI β) = ((if zn c h (zg c h k) = 0 then nI (pri c α β h a k) else 1000000), nI (zN c h a false (zg c h k)).1, u1, u2, u3, u4, u5, bI (za c h a false (zg c h k)), u6, u7) := by
  have wf := R.1
  obtain ⟨o1, o2⟩ := going_Y R hh
  have hz := ps_ZI wf hp
  obtain ⟨p1, p2⟩ := ps_Y R hh ha hz 0 0 0 0 false rfl
  have hn := zn_le c h (zg c h k)
  unfold ok_X12_step F_X12_step F_X12_start
  dsimp only
  unfold ok_X12_step_b5 F_X12_step_b5
  rw [o2]
  have p2' : F_X12_pass se ow (nI k) (gng c h) 0 0 0 0 wh fr to th mi ri op sh ho (nI h) (nI a) 0 = _ := p2
  rw [p2']
  dsimp only
  unfold F_X12_step_b21
  refine ⟨⟨o1, p1⟩, (zN c h a false (zg c h k)).2.1, (zN c h a false (zg c h k)).2.2, 0 + nI (zw c h a false (zg c h k)), 0 + nI (zr c h (zg c h k)), 0 + nI (zn c h (zg c h k)), zS c h (zg c h k), bI (zm c h a false (zg c h k)), ?_⟩
  congr 1
  rw [Int32.zero_add, Int32.zero_add, pk_mul, pk_mul, nI_add]
  by_cases q : zn c h (zg c h k) = 0
  · rw [q, if_pos (show nI 0 ≤ (0 : Int32) by decide), if_pos rfl]; rfl
  · rw [if_neg (nI_nle (by omega) (by omega)), if_neg q]
end WY3

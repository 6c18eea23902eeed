/-! a club as a text: the reference's sets -/
def CY (c : Cl) (rp rf rs : Int32) (rw rr' rt rth rmi rri rop ros rsh rho : Nat → Int32) : Prop := rp = nI (kN c) ∧ rf = nI (kG c) ∧ rs = nI (kS c) ∧ (∀ s, s < kS c → rw s = nI (kW c s) ∧ rr' s = nI (kF c s) ∧ rt s = nI (kT c s)) ∧ (∀ p, p < 4 → rth p = bI (kP c p) ∧ rmi p = nI (kM c p) ∧ rri p = nI (kR c p) ∧ rop p = bI (t13 c p) ∧ ros p = nI (kO c p) ∧ rsh p = nI (kU c p)) ∧ (∀ i, i < 6 → rho i = if t14 c i = true then nI (kH c i) else -9)
theorem bld {F : Nat → Int32 → Int32 → Int32} {N : Nat} (P : Nat → Bool) (hN : N ≤ 32) (h0 : ∀ n a, F (n + 1) a (nI N) = a) (h1 : ∀ n a i, i < N → F (n + 1) a (nI i) = F n (a ||| (if P i = true then ((1 : Int32) <<< (nI i &&& 31)) else 0)) (nI (i + 1))) : ∀ n i a, i ≤ N → N < i + n → ∀ k, bt (F n a (nI i)) k = (bt a k || (decide (i ≤ k) && (decide (k < N) && P k))) := by
  intro n
  induction n with
  | zero => intro i a h2 h3; omega
  | succ n ih =>
    intro i a h2 h3 k
    by_cases e : i = N
    · rw [e, h0]
      by_cases q : N ≤ k
      · rw [decide_eq_false (show ¬ k < N by omega), Bool.false_and, Bool.and_false, Bool.or_false]
      · rw [decide_eq_false q, Bool.false_and, Bool.or_false]
    · have hi : i < N := by omega
      rw [h1 n a i hi, ih (i + 1) _ (by omega) (by omega) k]
      have hb : bt (a ||| (if P i = true then ((1 : Int32) <<< (nI i &&& 31)) else 0)) k = (bt a k || ((k == i) && P i)) := by
        cases P i with
        | true => rw [if_pos rfl, bt_one (by omega), Bool.and_true]
        | false => rw [if_neg nft, b_or, b_0, Bool.and_false]
      rw [hb]
      by_cases q : k = i
      · rw [q, decide_eq_false (show ¬ i + 1 ≤ i by omega), decide_eq_true (Nat.le_refl i), decide_eq_true hi]; simp
      · have : (k == i) = false := by simp [q]
        rw [this, Bool.false_and, Bool.or_false]
        by_cases q2 : i ≤ k
        · rw [decide_eq_true q2, decide_eq_true (show i + 1 ≤ k by omega)]
        · rw [decide_eq_false q2, decide_eq_false (show ¬ i + 1 ≤ k by omega)]
section CYs
variable {c : Cl} {rp rf rs : Int32} {rw rr' rt rth rmi rri rop ros rsh rho : Nat → Int32}
theorem fr_in (hP : PW c) (R : CY c rp rf rs rw rr' rt rth rmi rri rop ros rsh rho) {s i : Nat} (hs : s < kS c) (hi : i < 6) : ∀ n h (v : Int32), h ≤ kT c s + 1 → kT c s + 1 < h + n →
    ok_X12_free_L6_22 rw rt (nI i) (nI s) n v (nI h) ∧ ∀ k, bt (F_X12_free_L6_22 rw rt (nI i) (nI s) n v (nI h)) k = (bt v k && !((kW c s == i) && (decide (h ≤ k) && decide (k ≤ kT c s)))) := by
  obtain ⟨r1, r2, r3, r4, r5, r6⟩ := R
  obtain ⟨a1, a2, a3⟩ := r4 s hs
  obtain ⟨w1, w2, w3⟩ := hP.2.2.1 s hs
  have h8 := hP.2.1
  have h6 := hP.1
  have hv : vp_in (nI s) 8 := vp_in_nI (by omega) (by decide)
  intro n
  induction n with
  | zero => intro h v h1 h2; omega
  | succ n ih =>
    intro h v h1 h2
    rw [ok_X12_free_L6_22_s]
    have hF : F_X12_free_L6_22 rw rt (nI i) (nI s) (n + 1) v (nI h) = (if nI (kT c s) < nI h then v else (if nI (kW c s) = nI i then F_X12_free_L6_22 rw rt (nI i) (nI s) n (v &&& (((1 : Int32) <<< (nI h &&& 31)) ^^^ (-1))) (nI (h + 1)) else v)) := by
      rw [F_X12_free_L6_22_s, nI_clamp (by omega), a1, a3, nI_1]
    rw [hF, nI_clamp (by omega), a1, a3, nI_1]
    by_cases e : h = kT c s + 1
    · have hlt : nI (kT c s) < nI h := nI_lt (by omega) (by omega)
      rw [if_pos hlt]
      refine ⟨⟨hv, fun q => absurd hlt q⟩, fun k => ?_⟩
      have : (decide (h ≤ k) && decide (k ≤ kT c s)) = false := by
        by_cases q : h ≤ k
        · rw [decide_eq_false (show ¬ k ≤ kT c s by omega), Bool.and_false]
        · rw [decide_eq_false q, Bool.false_and]
      rw [this, Bool.and_false, Bool.not_false, Bool.and_true]
    · have hnl : ¬ nI (kT c s) < nI h := nI_nlt (by omega) (by omega)
      rw [if_neg hnl]
      by_cases q : kW c s = i
      · have z : nI (kW c s) = nI i := by rw [q]
        rw [if_pos z]
        obtain ⟨g1, g2⟩ := ih (h + 1) (v &&& (((1 : Int32) <<< (nI h &&& 31)) ^^^ (-1))) (by omega) (by omega)
        refine ⟨⟨hv, fun _ => ⟨hv, fun _ => g1⟩⟩, fun k => ?_⟩
        rw [g2, bt_andn, show (kW c s == i) = true by simp [q], Bool.true_and, Bool.true_and]
        by_cases hk : k < 32
        · rw [bt_bit (by omega) hk]
          by_cases q1 : k = h
          · rw [decide_eq_true q1, decide_eq_true (show h ≤ k by omega), decide_eq_true (show k ≤ kT c s by omega), Bool.not_true, Bool.and_false, Bool.false_and]; simp
          · rw [decide_eq_false q1, Bool.not_false, Bool.and_true]
            by_cases q2 : h ≤ k
            · rw [decide_eq_true q2, decide_eq_true (show h + 1 ≤ k by omega)]
            · rw [decide_eq_false q2, decide_eq_false (show ¬ h + 1 ≤ k by omega)]
        · rw [b_big (by omega), Bool.false_and, Bool.false_and, Bool.false_and]
      · have z : ¬ nI (kW c s) = nI i := fun y => q ((nI_eq (by omega) (by omega)).mp y)
        rw [if_neg z]
        refine ⟨⟨hv, fun _ => ⟨hv, fun y => absurd y z⟩⟩, fun k => ?_⟩
        rw [show (kW c s == i) = false by simp [q], Bool.false_and, Bool.not_false, Bool.and_true]
theorem fr_out (hP : PW c) (R : CY c rp rf rs rw rr' rt rth rmi rri rop ros rsh rho) {i : Nat} (hi : i < 6) : ∀ n s (v : Int32), s ≤ kS c → kS c < s + n →
    ok_X12_free_L6 rs rw rr' rt (nI i) n v (nI s) ∧ ∀ k, bt (F_X12_free_L6 rs rw rr' rt (nI i) n v (nI s)) k = (bt v k && (lo (fun s => (kW c s == i) && (decide (kF c s ≤ k) && decide (k ≤ kT c s))) s (kS c - s)).isNone) := by
  have h8 := hP.2.1
  have r3 : rs = nI (kS c) := R.2.2.1
  intro n
  induction n with
  | zero => intro s v h1 h2; omega
  | succ n ih =>
    intro s v h1 h2
    rw [ok_X12_free_L6_s, F_X12_free_L6_s]
    by_cases e : s = kS c
    · have hle : rs ≤ nI s := by rw [r3, e]; exact Int32.le_refl _
      rw [if_pos hle, e]
      exact ⟨fun q => absurd (e ▸ hle) q, fun k => by rw [lo_end]; simp⟩
    · have hs : s < kS c := by omega
      have hnl : ¬ rs ≤ nI s := by rw [r3]; exact nI_ge hs (by omega)
      obtain ⟨w1, w2, w3⟩ := hP.2.2.1 s hs
      have hf : rr' s = nI (kF c s) := (R.2.2.2.1 s hs).2.1
      obtain ⟨g1, g2⟩ := fr_in hP R hs hi FU (kF c s) v (by omega) (by have := FU_ge; omega)
      rw [if_neg hnl, nI_clamp (by omega), hf]
      dsimp only
      unfold ok_X12_free_6_b58 F_X12_free_6_b58
      rw [nI_1]
      obtain ⟨j1, j2⟩ := ih (s + 1) (F_X12_free_L6_22 rw rt (nI i) (nI s) FU v (nI (kF c s))) (by omega) (by omega)
      refine ⟨fun _ => ⟨vp_in_nI (by omega) (by decide), g1, j1⟩, fun k => ?_⟩
      rw [j2, g2, lo_at hs]
      cases ((kW c s == i) && (decide (kF c s ≤ k) && decide (k ≤ kT c s)))
      · rw [if_neg nft, Bool.not_false, Bool.and_true]
      · rw [if_pos rfl, Bool.not_true, Bool.and_false]; simp
theorem free_Y (hP : PW c) (R : CY c rp rf rs rw rr' rt rth rmi rri rop ros rsh rho) {i : Nat} (hi : i < 6) : ok_X12_free rs rw rr' rt (nI i) ∧ ∀ k, bt (F_X12_free rs rw rr' rt (nI i)) k = (decide (k < 10) && !bsy c i k) := by
  have h8 := hP.2.1
  obtain ⟨g1, g2⟩ := fr_out hP R hi FU 0 1023 (Nat.zero_le _) (by have := FU_ge; omega)
  refine ⟨g1, fun k => ?_⟩
  have := g2 k
  rw [b_1023, Nat.sub_zero] at this
  refine Eq.trans this ?_
  unfold bsy
  cases lo (fun s => (kW c s == i) && (decide (kF c s ≤ k) && decide (k ≤ kT c s))) 0 (kS c) <;> rfl
theorem free_0 (hP : PW c) (R : CY c rp rf rs rw rr' rt rth rmi rri rop ros rsh rho) {i : Nat} (hi : i < 6) : F_X12_free rs rw rr' rt (nI i) = 0 ↔ hasT c i = false := by
  obtain ⟨-, g2⟩ := free_Y hP R hi
  rw [bt_eq0]
  constructor
  · intro h
    cases e : hasT c i with
    | false => rfl
    | true =>
      obtain ⟨k, k1, k2⟩ := any_t.mp e
      have := h k
      rw [g2, decide_eq_true k1, Bool.true_and, k2] at this
      cases this
  · intro h k
    rw [g2]
    by_cases k1 : k < 10
    · rw [decide_eq_true k1, Bool.true_and]
      cases e : bsy c i k with
      | true => rfl
      | false =>
        have := (any_t (P := fun h => !bsy c i h)).mpr ⟨k, k1, by show (!bsy c i k) = true; rw [e]; rfl⟩
        unfold hasT at h
        rw [h] at this; cases this
    · rw [decide_eq_false k1]; rfl
theorem fp_Y (hP : PW c) (R : CY c rp rf rs rw rr' rt rth rmi rri rop ros rsh rho) : ok_X12_freePeople rp rs rw rr' rt ∧ ∀ k, bt (F_X12_freePeople rp rs rw rr' rt) k = (decide (kS c < 8) && (decide (k < kN c) && hasT c k)) := by
  have h8 := hP.2.1
  have h6 := hP.1
  have r1 : rp = nI (kN c) := R.1
  have r3 : rs = nI (kS c) := R.2.2.1
  by_cases q8 : kS c < 8
  · have hn8 : ¬ (8 : Int32) ≤ rs := by rw [r3]; exact le_lit (K := 8) 8 rfl q8 (by decide)
    have := bld (F := fun n a v => F_X12_freePeople_L4 rp rs rw rr' rt n a v) (N := kN c) (hasT c) (by omega) (fun n a => by
        show F_X12_freePeople_L4 rp rs rw rr' rt (n + 1) a (nI (kN c)) = a
        rw [F_X12_freePeople_L4_s, r1, if_pos (Int32.le_refl _)]) (fun n a i hi => by
        show F_X12_freePeople_L4 rp rs rw rr' rt (n + 1) a (nI i) = F_X12_freePeople_L4 rp rs rw rr' rt n _ (nI (i + 1))
        rw [F_X12_freePeople_L4_s, r1, if_neg (nI_ge hi (by omega)), if_neg hn8, nI_1]
        have f0 := free_0 hP R (i := i) (by omega)
        cases e : hasT c i with
        | false => rw [if_pos (f0.mpr e), if_neg nft]
        | true => rw [if_neg (fun z => by rw [f0.mp z] at e; cases e), if_pos rfl]) FU 0 0 (Nat.zero_le _) (by have := FU_ge; omega)
    refine ⟨?_, fun k => ?_⟩
    · unfold ok_X12_freePeople
      have := ok_all (fun n (a : Int32) v => ok_X12_freePeople_L4 rp rs rw rr' rt n a v) (kN c) (by omega) (fun _ _ => True) (fun n s i hi _ h => by
        show ok_X12_freePeople_L4 rp rs rw rr' rt (n + 1) s (nI i)
        rw [ok_X12_freePeople_L4_s, nI_1]
        exact fun _ _ => ⟨(free_Y hP R (i := i) (by omega)).1, h _ trivial⟩) (fun n s _ => by
        show ok_X12_freePeople_L4 rp rs rw rr' rt (n + 1) s (nI (kN c))
        rw [ok_X12_freePeople_L4_s, r1]
        exact fun q => absurd (Int32.le_refl _) q) 0 trivial
      exact this
    · have t := this k
      rw [nI_0, b_0, Bool.false_or, decide_eq_true (Nat.zero_le k), Bool.true_and] at t
      rw [decide_eq_true q8, Bool.true_and]
      exact t
  · have h8' : (8 : Int32) ≤ rs := by rw [r3]; exact nI_le (a := 8) (by omega) (by omega)
    have e : F_X12_freePeople rp rs rw rr' rt = 0 := by
      unfold F_X12_freePeople F_X12_freePeople_b45
      rw [show FU = (FU - 1) + 1 by have := FU_ge; omega, F_X12_freePeople_L4_s, if_pos h8']
      exact ite_self _
    refine ⟨?_, fun k => ?_⟩
    · unfold ok_X12_freePeople
      rw [show FU = (FU - 1) + 1 by have := FU_ge; omega, ok_X12_freePeople_L4_s]
      exact fun _ q => absurd h8' q
    · rw [e, b_0, decide_eq_false q8]; rfl
theorem pl_Y (R : CY c rp rf rs rw rr' rt rth rmi rri rop ros rsh rho) (b : Bool) : ok_X12_places rth rop (bI b) ∧ ∀ k, bt (F_X12_places rth rop (bI b)) k = (decide (k < 4) && (if b = true then kP c k && !t13 c k else !kP c k)) := by
  have r5 := R.2.2.2.2.1
  have := bld (F := fun n a v => F_X12_places_L4 rth rop (bI b) n a v) (N := 4) (fun k => if b = true then kP c k && !t13 c k else !kP c k) (by decide) (fun n a => by
      show F_X12_places_L4 rth rop (bI b) (n + 1) a (nI 4) = a
      rw [F_X12_places_L4_s, if_pos (le_self (K := 4) 4 rfl)]) (fun n a i hi => by
      show F_X12_places_L4 rth rop (bI b) (n + 1) a (nI i) = F_X12_places_L4 rth rop (bI b) n _ (nI (i + 1))
      obtain ⟨a1, -, -, a4, -⟩ := r5 i hi
      rw [F_X12_places_L4_s, if_neg (le_lit (K := 4) 4 rfl hi (by decide)), nI_clamp (by omega), a1, a4]
      dsimp only
      unfold F_X12_places_4_b55
      rw [nI_1]
      cases b <;> cases kP c i <;> cases t13 c i <;> rfl) FU 0 0 (Nat.zero_le _) (by have := FU_ge; omega)
  refine ⟨?_, fun k => ?_⟩
  · unfold ok_X12_places
    have := ok_all (fun n (a : Int32) v => ok_X12_places_L4 rth rop (bI b) n a v) 4 (by decide) (fun _ _ => True) (fun n s i hi _ h => by
      show ok_X12_places_L4 rth rop (bI b) (n + 1) s (nI i)
      rw [ok_X12_places_L4_s]
      have hv : vp_in (nI i) 4 := vp_in_nI hi (by decide)
      refine fun _ => ⟨⟨fun _ => hv, fun _ => ⟨hv, fun _ => hv⟩⟩, ?_⟩
      dsimp only
      unfold ok_X12_places_4_b55
      rw [nI_1]
      exact h _ trivial) (fun n s _ => by
      show ok_X12_places_L4 rth rop (bI b) (n + 1) s (nI 4)
      rw [ok_X12_places_L4_s]
      exact fun q => absurd (le_self (K := 4) 4 rfl) q) 0 trivial
    exact this
  · have t := this k
    rw [nI_0, b_0, Bool.false_or, decide_eq_true (Nat.zero_le k), Bool.true_and] at t
    exact t
theorem hm_Y (hP : PW c) (R : CY c rp rf rs rw rr' rt rth rmi rri rop ros rsh rho) : ok_X12_homeless rp rho ∧ ∀ k, bt (F_X12_homeless rp rho) k = (decide (k < kN c) && !t14 c k) := by
  have h6 := hP.1
  have r1 : rp = nI (kN c) := R.1
  have r6 := R.2.2.2.2.2
  have := bld (F := fun n a v => F_X12_homeless_L4 rp rho n a v) (N := kN c) (fun k => !t14 c k) (by omega) (fun n a => by
      show F_X12_homeless_L4 rp rho (n + 1) a (nI (kN c)) = a
      rw [F_X12_homeless_L4_s, r1, if_pos (Int32.le_refl _)]) (fun n a i hi => by
      show F_X12_homeless_L4 rp rho (n + 1) a (nI i) = F_X12_homeless_L4 rp rho n _ (nI (i + 1))
      have h9 := hP.2.2.2.2.1 i
      rw [F_X12_homeless_L4_s, r1, if_neg (nI_ge hi (by omega)), nI_clamp (by omega), r6 i (by omega), nI_1]
      cases t14 c i with
      | true => rw [if_pos rfl, if_neg (nI_ne9 (by omega)), if_neg (by decide)]
      | false => rw [if_neg nft, if_pos rfl, if_pos (by decide)]) FU 0 0 (Nat.zero_le _) (by have := FU_ge; omega)
  refine ⟨?_, fun k => ?_⟩
  · unfold ok_X12_homeless
    have := ok_all (fun n (a : Int32) v => ok_X12_homeless_L4 rp rho n a v) (kN c) (by omega) (fun _ _ => True) (fun n s i hi _ h => by
      show ok_X12_homeless_L4 rp rho (n + 1) s (nI i)
      rw [ok_X12_homeless_L4_s, nI_1]
      exact fun _ => ⟨vp_in_nI (by omega) (by decide), h _ trivial⟩) (fun n s _ => by
      show ok_X12_homeless_L4 rp rho (n + 1) s (nI (kN c))
      rw [ok_X12_homeless_L4_s, r1]
      exact fun q => absurd (Int32.le_refl _) q) 0 trivial
    exact this
  · have t := this k
    rw [nI_0, b_0, Bool.false_or, decide_eq_true (Nat.zero_le k), Bool.true_and] at t
    exact t
theorem sp_Y (hP : PW c) (R : CY c rp rf rs rw rr' rt rth rmi rri rop ros rsh rho) {i : Nat} (hi : i < 6) : ∀ n h (v : Int32), h ≤ 10 → 10 < h + n →
    ok_X12_readSession_L38 rs rw rr' rt (nI i) n v (nI h) ∧ ∀ k, bt (F_X12_readSession_L38 rs rw rr' rt (nI i) n v (nI h)) k = (bt v k || (decide (h ≤ k) && (decide (k < 10) && (lo (bsy c i) h (k + 1 - h)).isNone))) := by
  obtain ⟨f1, f2⟩ := free_Y hP R hi
  intro n
  induction n with
  | zero => intro h v h1 h2; omega
  | succ n ih =>
    intro h v h1 h2
    rw [ok_X12_readSession_L38_s, F_X12_readSession_L38_s]
    by_cases e : h = 10
    · have hle : (10 : Int32) ≤ nI h := by rw [e]; decide
      rw [if_pos hle]
      refine ⟨fun q => absurd hle q, fun k => ?_⟩
      by_cases q : h ≤ k
      · rw [decide_eq_false (show ¬ k < 10 by omega), Bool.false_and, Bool.and_false, Bool.or_false]
      · rw [decide_eq_false q, Bool.false_and, Bool.or_false]
    · have hnl : ¬ (10 : Int32) ≤ nI h := le_lit (K := 10) 10 rfl (by omega) (by decide)
      rw [if_neg hnl, tst_if1 (by omega), f2, decide_eq_true (show h < 10 by omega), Bool.true_and, nI_1]
      have hbit := bt_t1 (x := F_X12_free rs rw rr' rt (nI i)) (s := h) (by omega)
      rw [f2, decide_eq_true (show h < 10 by omega), Bool.true_and] at hbit
      obtain ⟨g1, g2⟩ := ih (h + 1) (v ||| ((1 : Int32) <<< (nI h &&& 31))) (by omega) (by omega)
      refine ⟨fun _ => ⟨f1, fun _ => g1⟩, fun k => ?_⟩
      cases eb : bsy c i h with
      | true =>
        rw [if_neg (by decide)]
        by_cases q : h ≤ k
        · have : (lo (bsy c i) h (k + 1 - h)).isNone = false := by
            rw [lo_at (by omega), eb]; rfl
          rw [this, Bool.and_false, Bool.and_false, Bool.or_false]
        · rw [decide_eq_false q, Bool.false_and, Bool.or_false]
      | false =>
        rw [if_pos (by decide), g2, bt_one (by omega)]
        by_cases q : k = h
        · have : (lo (bsy c i) h (k + 1 - h)).isNone = true := non_t.mpr (fun j a b => by rw [show j = h by omega]; exact eb)
          rw [this, decide_eq_true (show h ≤ k by omega), decide_eq_true (show k < 10 by omega), q]; simp
        · rw [show (k == h) = false by simp [q], Bool.or_false]
          by_cases q2 : h ≤ k
          · rw [decide_eq_true q2, decide_eq_true (show h + 1 ≤ k by omega), lo_at (show h < k + 1 by omega), eb, if_neg nft]
          · rw [decide_eq_false q2, decide_eq_false (show ¬ h + 1 ≤ k by omega), Bool.false_and, Bool.false_and]
end CYs

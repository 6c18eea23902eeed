/-! the best way by the reference; the hour that bars it -/
def spc (κ : Nat) : Nat := if κ < 4 then κ else if κ < 10 then 4 else κ - 6
def BY (c : Cl) (α β : Nat) (o : Option Nat) (bb bp : Int32) (ac : Nat → Int32) : Prop := match o with
  | none => bb = -9 ∧ bp = -9
  | some e => bb = nI e ∧ bp = nI (vE c α β e) ∧ ∀ g, g < 10 → ac g = nI (chA c α β e g (wy c α β e g))
theorem bs_spc {c : Cl} (w : WF c) {α β κ : Nat} (hκ : κ < 16) : bs c α β (spc (κ + 1)) = if (bgb c κ && decide (vE c α β κ < bv c α β (bs c α β (spc κ)))) = true then some κ else bs c α β (spc κ) := by
  by_cases h4 : κ < 4
  · have e1 : spc (κ + 1) = spc κ + 1 := by
      unfold spc
      rw [if_pos h4]
      by_cases h : κ + 1 < 4
      · rw [if_pos h]
      · rw [if_neg h, if_pos (by omega)]; omega
    have e2 : kw (spc κ) = κ := by unfold spc kw; rw [if_pos h4, if_pos h4]
    rw [e1, bs, e2]
  · by_cases h10 : κ < 10
    · have e1 : spc (κ + 1) = spc κ := by
        unfold spc
        rw [if_neg h4, if_pos h10, if_neg (by omega)]
        by_cases h : κ + 1 < 10
        · rw [if_pos h]
        · rw [if_neg h]; omega
      have e2 : bgb c κ = false := by
        cases e : bgb c κ with
        | false => rfl
        | true =>
          rcases bgb_iff.mp e with ⟨q, -⟩ | ⟨q, -⟩ <;> omega
      rw [e1, e2, Bool.false_and, if_neg nft]
    · have e1 : spc (κ + 1) = spc κ + 1 := by
        unfold spc
        rw [if_neg h4, if_neg h10, if_neg (by omega), if_neg (by omega)]; omega
      have e2 : kw (spc κ) = κ := by
        unfold spc kw
        rw [if_neg h4, if_neg h10, if_neg (by omega), if_pos (by omega)]; omega
      rw [e1, bs, e2]
/-- where the key may be while nobody stood -/
def rc (c : Cl) : Nat → Nat → Prop
  | 0, k => Bg c k
  | h + 1, k' => ∃ k a, a < 6 ∧ rc c h k ∧ st c h a k = some k'
theorem rc_ps {c : Cl} (w : WF c) : ∀ {h k}, rc c h k → ps c h k = true
  | 0, k, h => by
    have h' : Bg c k := h
    unfold ps
    have := h'.lt16 w
    rw [if_neg (by omega)]
    exact bgb_iff.mpr h'
  | h + 1, k, ⟨k0, a, _, _, e⟩ => (st_some w e).2.2.2
theorem rc_wy {c : Cl} (w : WF c) {α β e : Nat} (he : Bg c e) (hl : lh c α β e 0 e < FAR) : ∀ h, h ≤ 10 → rc c h (wy c α β e h)
  | 0, _ => he
  | h + 1, hh => by
    obtain ⟨h1, h2⟩ := wy_spec w he hl h (by omega)
    obtain ⟨a, k', -, e2, e1, e3, -⟩ := chA_spec w (by omega) h2
    have : wy c α β e (h + 1) = k' := by
      show (st c h (chA c α β e h (wy c α β e h)) (wy c α β e h)).getD 0 = k'
      rw [e1, e3]; rfl
    rw [this]
    exact ⟨wy c α β e h, a, e2, rc_wy w he hl h (by omega), e3⟩
noncomputable def emp (c : Cl) (h : Nat) : Bool := @decide (¬ ∃ k, rc c (h + 1) k) (Classical.propDecidable _)
theorem emp_t {c : Cl} {h : Nat} : emp c h = true ↔ ¬ ∃ k, rc c (h + 1) k := by
  unfold emp
  exact @decide_eq_true_iff _ (Classical.propDecidable _)
section BX1
variable {c : Cl} {nx wk rk at' : Nat → Int32}
theorem ra_loop (w : WF c) (T : TB c nx wk rk at') {h s : Nat} (hh : h < 10) (hs : s < 11) (x : Int32) : ∀ n a v, a ≤ 6 → 6 < a + n →
    ok_X9_reachedAfter_L5_15 nx (nI h) x (nI s) n v (nI a) ∧ ∀ i, i < 32 → (bt (F_X9_reachedAfter_L5_15 nx (nI h) x (nI s) n v (nI a)) i = true ↔ (bt v i = true ∨ (bt x s = true ∧ ∃ a' k', a ≤ a' ∧ a' < 6 ∧ st c h a' (kw s) = some k' ∧ sp k' = i))) := by
  intro n
  induction n with
  | zero => intro a v h1 h2; omega
  | succ n ih =>
    intro a v h1 h2
    rw [ok_X9_reachedAfter_L5_15_s, F_X9_reachedAfter_L5_15_s]
    by_cases h6 : a = 6
    · subst h6
      rw [if_pos (show (6 : Int32) ≤ nI 6 by decide)]
      refine ⟨fun q => absurd (by decide) q, fun i hi => ⟨fun q => Or.inl q, ?_⟩⟩
      rintro (q | ⟨-, a', k', q1, q2, -⟩)
      · exact q
      · omega
    · obtain ⟨s1, s2⟩ := spotAfter_X T hh (Vk_kw hs) (show a < 6 by omega)
      rw [sp_kw hs] at s1 s2
      rw [if_neg (le_lit (K := 6) 6 rfl (by omega) (by decide)), tst_if (by omega), s2, nI_1]
      obtain ⟨g1, g2⟩ := ih (a + 1) v (by omega) (by omega)
      cases hb : bt x s with
      | false =>
        rw [if_neg nft]
        refine ⟨fun _ q => absurd ((bt_t0 (by omega)).mpr hb) q, fun i hi => ⟨fun q => Or.inl q, ?_⟩⟩
        rintro (q | ⟨q, -⟩)
        · exact q
        · cases q
      | true =>
        rw [if_pos rfl]
        cases e : st c h a (kw s) with
        | none =>
          have e9 : sI none < 0 := by decide
          rw [if_pos e9]
          refine ⟨fun _ _ => ⟨s1, fun _ => g1, fun q => absurd e9 q⟩, fun i hi => ?_⟩
          rw [g2 i hi, hb]
          constructor
          · rintro (q | ⟨-, a', k', q1, q2, q3⟩)
            · exact Or.inl q
            · exact Or.inr ⟨rfl, a', k', by omega, q2, q3⟩
          · rintro (q | ⟨-, a', k', q1, q2, q3⟩)
            · exact Or.inl q
            · by_cases q : a' = a
              · rw [q, e] at q3; cases q3.1
              · exact Or.inr ⟨rfl, a', k', by omega, q2, q3⟩
        | some k' =>
          have hsp := sp_le k'
          have e9 : ¬ sI (some k') < 0 := nI_pos (by omega)
          rw [if_neg e9]
          obtain ⟨g3, g4⟩ := ih (a + 1) (v ||| ((1 : Int32) <<< (sI (some k') &&& 31))) (by omega) (by omega)
          refine ⟨fun _ _ => ⟨s1, fun q => absurd q e9, fun _ => g3⟩, fun i hi => ?_⟩
          rw [g4 i hi, b_or, show sI (some k') = nI (sp k') from rfl, bt_bit (by omega) hi, hb, Bool.or_eq_true, decide_eq_true_eq]
          constructor
          · rintro ((q | q) | ⟨-, a', k1, q1, q2, q3⟩)
            · exact Or.inl q
            · exact Or.inr ⟨rfl, a, k', Nat.le_refl _, by omega, e, q.symm⟩
            · exact Or.inr ⟨rfl, a', k1, by omega, q2, q3⟩
          · rintro (q | ⟨-, a', k1, q1, q2, q3, q4⟩)
            · exact Or.inl (Or.inl q)
            · by_cases q : a' = a
              · rw [q, e] at q3
                have := Option.some.inj q3
                exact Or.inl (Or.inr (by rw [← q4, this]))
              · exact Or.inr ⟨rfl, a', k1, by omega, q2, q3, q4⟩
theorem rs_loop (w : WF c) (T : TB c nx wk rk at') {h : Nat} (hh : h < 10) (x : Int32) : ∀ n s v, s ≤ 11 → 11 < s + n →
    ok_X9_reachedAfter_L5 nx (nI h) x n v (nI s) ∧ ∀ i, i < 32 → (bt (F_X9_reachedAfter_L5 nx (nI h) x n v (nI s)) i = true ↔ (bt v i = true ∨ ∃ s' a' k', s ≤ s' ∧ s' < 11 ∧ bt x s' = true ∧ a' < 6 ∧ st c h a' (kw s') = some k' ∧ sp k' = i)) := by
  intro n
  induction n with
  | zero => intro s v h1 h2; omega
  | succ n ih =>
    intro s v h1 h2
    rw [ok_X9_reachedAfter_L5_s, F_X9_reachedAfter_L5_s]
    by_cases h11 : s = 11
    · subst h11
      rw [if_pos (show (11 : Int32) ≤ nI 11 by decide)]
      refine ⟨fun q => absurd (by decide) q, fun i hi => ⟨fun q => Or.inl q, ?_⟩⟩
      rintro (q | ⟨s', a', k', q1, q2, -⟩)
      · exact q
      · omega
    · obtain ⟨a1, a2⟩ := ra_loop w T hh (show s < 11 by omega) x FU 0 v (Nat.zero_le _) (by have := FU_ge; omega)
      rw [nI_0] at a1 a2
      rw [if_neg (le_lit (K := 11) 11 rfl (by omega) (by decide))]
      dsimp only
      unfold ok_X9_reachedAfter_5_b63 F_X9_reachedAfter_5_b63
      rw [nI_1]
      obtain ⟨g1, g2⟩ := ih (s + 1) (F_X9_reachedAfter_L5_15 nx (nI h) x (nI s) FU v 0) (by omega) (by omega)
      refine ⟨fun _ => ⟨a1, g1⟩, fun i hi => ?_⟩
      rw [g2 i hi, a2 i hi]
      constructor
      · rintro ((q | ⟨q1, a', k', -, q2, q3, q4⟩) | ⟨s', a', k', q1, q2⟩)
        · exact Or.inl q
        · exact Or.inr ⟨s, a', k', Nat.le_refl _, by omega, q1, q2, q3, q4⟩
        · exact Or.inr ⟨s', a', k', by omega, q2⟩
      · rintro (q | ⟨s', a', k', q1, q2, q3, q4, q5, q6⟩)
        · exact Or.inl (Or.inl q)
        · by_cases q : s' = s
          · rw [q] at q3 q5
            exact Or.inl (Or.inr ⟨q3, a', k', Nat.zero_le _, q4, q5, q6⟩)
          · exact Or.inr ⟨s', a', k', by omega, q2, q3, q4, q5, q6⟩
def SXs (c : Cl) (h : Nat) (v : Int32) : Prop := ∀ s, bt v s = true ↔ ∃ k, sp k = s ∧ rc c h k
theorem after_X (w : WF c) (T : TB c nx wk rk at') {h : Nat} (hh : h < 10) {x : Int32} (hx : SXs c h x) : ok_X9_reachedAfter nx (nI h) x ∧ SXs c (h + 1) (F_X9_reachedAfter nx (nI h) x) := by
  obtain ⟨a1, a2⟩ := rs_loop w T hh x FU 0 0 (Nat.zero_le _) (by have := FU_ge; omega)
  rw [nI_0] at a1 a2
  refine ⟨a1, fun s => ?_⟩
  have e : F_X9_reachedAfter nx (nI h) x = F_X9_reachedAfter_L5 nx (nI h) x FU 0 0 := rfl
  rw [e]
  by_cases hs : s < 32
  · rw [a2 s hs, b_0]
    constructor
    · rintro (q | ⟨s', a', k', -, q2, q3, q4, q5, q6⟩)
      · cases q
      · obtain ⟨k, q7, q8⟩ := (hx s').mp q3
        have hk := ps_vk w (rc_ps w q8)
        rw [← q7, kw_sp hk] at q5
        exact ⟨k', q6, k, a', q4, q8, q5⟩
    · rintro ⟨k', q6, k, a', q4, q8, q5⟩
      have hk := ps_vk w (rc_ps w q8)
      exact Or.inr ⟨sp k, a', k', Nat.zero_le _, by have := sp_le k; omega, (hx _).mpr ⟨k, rfl, q8⟩, q4, by rw [kw_sp hk]; exact q5, q6⟩
  · rw [b_big (by omega)]
    constructor
    · intro q; cases q
    · rintro ⟨k', q6, -⟩
      have := sp_le k'
      omega
theorem SXs_0 {h : Nat} {v : Int32} (hv : SXs c h v) : v = 0 ↔ ¬ ∃ k, rc c h k := by
  rw [bt_eq0]
  constructor
  · rintro q ⟨k, hk⟩
    have := (hv (sp k)).mpr ⟨k, rfl, hk⟩
    rw [q] at this; cases this
  · intro q i
    cases e : bt v i with
    | false => rfl
    | true =>
      obtain ⟨k, -, hk⟩ := (hv i).mp e
      exact absurd ⟨k, hk⟩ q
theorem ba_loop (w : WF c) (T : TB c nx wk rk at') (w1 w2 w3 w4 w5 w6 w7 w8 w9 : Int32) : ∀ n h v, h ≤ 10 → 10 < h + n → SXs c h v →
    ok_X9_barringHour_L43 nx n v (nI h) ∧ (F_X9_barringHour_L43 (F_X9_barringHour_b68 nx wk rk at' w1 w2 w3 w4 w5 w6 w7 w8 w9) nx wk rk at' w1 w2 w3 w4 w5 w6 w7 w8 w9 n v (nI h)).1 = oV 10 (lo (emp c) h (10 - h)) := by
  intro n
  induction n with
  | zero => intro h v h1 h2; omega
  | succ n ih =>
    intro h v h1 h2 hv
    rw [ok_X9_barringHour_L43_s, F_X9_barringHour_L43_s]
    by_cases h10 : h = 10
    · subst h10
      rw [if_pos (show (10 : Int32) ≤ nI 10 by decide)]
      exact ⟨fun q => absurd (by decide) q, rfl⟩
    · have hh : h < 10 := by omega
      obtain ⟨a1, a2⟩ := after_X w T hh hv
      rw [if_neg (le_lit (K := 10) 10 rfl hh (by decide)), nI_1, lo_at hh]
      obtain ⟨g1, g2⟩ := ih (h + 1) _ (by omega) (by omega) a2
      by_cases q : F_X9_reachedAfter nx (nI h) v = 0
      · rw [if_pos q, if_pos (emp_t.mpr ((SXs_0 a2).mp q))]
        exact ⟨fun _ => ⟨a1, fun q' => absurd q q'⟩, rfl⟩
      · rw [if_neg q, if_neg (fun q' => q ((SXs_0 a2).mpr (emp_t.mp q')))]
        exact ⟨fun _ => ⟨a1, fun _ => g1⟩, g2⟩
end BX1
section BX2
variable {c : Cl} {pe se pl ow : Int32} {pr mi ri oF oL ho be en co nc : Nat → Int32}
theorem bb_loop (R : RX c pe se pl ow pr mi ri oF oL ho be en co nc) : ∀ n s v, s ≤ 10 → 10 < s + n → ok_X9_barringHour_L12 pe pl n v (nI s) ∧ ∀ i, (bt (F_X9_barringHour_L12 pe pl n v (nI s)) i = true ↔ (bt v i = true ∨ (s ≤ i ∧ i < 10 ∧ bgb c (kw i) = true))) := by
  intro n
  induction n with
  | zero => intro s v h1 h2; omega
  | succ n ih =>
    intro s v h1 h2
    rw [ok_X9_barringHour_L12_s, F_X9_barringHour_L12_s]
    by_cases h10 : s = 10
    · subst h10
      rw [if_pos (show (10 : Int32) ≤ nI 10 by decide)]
      refine ⟨fun q => absurd (by decide) q, fun i => ⟨fun q => Or.inl q, ?_⟩⟩
      rintro (q | ⟨q1, q2, -⟩)
      · exact q
      · omega
    · have hs : s < 11 := by omega
      have ewh : F_X11_whereAt (nI s) = nI (kw s) := by
        have := whereAt_X (Vk_kw hs)
        rw [sp_kw hs] at this
        exact this
      have hkw : kw s < 21 := by have := Vk_kw hs; unfold Vk at this; omega
      rw [if_neg (le_lit (K := 10) 10 rfl (by omega) (by decide)), ewh, isBegin_X R (by omega), nI_1]
      obtain ⟨g1, g2⟩ := ih (s + 1) v (by omega) (by omega)
      obtain ⟨g3, g4⟩ := ih (s + 1) (v ||| ((1 : Int32) <<< (nI s &&& 31))) (by omega) (by omega)
      refine ⟨fun _ => ⟨fun _ => g1, fun _ => g3⟩, fun i => ?_⟩
      cases hb : bgb c (kw s) with
      | false =>
        rw [if_pos bI_f, g2 i]
        constructor
        · rintro (q | ⟨q1, q2⟩)
          · exact Or.inl q
          · exact Or.inr ⟨by omega, q2⟩
        · rintro (q | ⟨q1, q2, q3⟩)
          · exact Or.inl q
          · by_cases q : i = s
            · rw [q, hb] at q3; cases q3
            · exact Or.inr ⟨by omega, q2, q3⟩
      | true =>
        rw [if_neg bI_tn, g4 i, b_or, Bool.or_eq_true]
        by_cases hi : i < 32
        · rw [bt_bit (by omega) hi, decide_eq_true_eq]
          constructor
          · rintro ((q | q) | ⟨q1, q2⟩)
            · exact Or.inl q
            · exact Or.inr ⟨by omega, by omega, by rw [q]; exact hb⟩
            · exact Or.inr ⟨by omega, q2⟩
          · rintro (q | ⟨q1, q2, q3⟩)
            · exact Or.inl (Or.inl q)
            · by_cases q : i = s
              · exact Or.inl (Or.inr q)
              · exact Or.inr ⟨by omega, q2, q3⟩
        · rw [b_big (x := (1 : Int32) <<< (nI s &&& 31)) (by omega)]
          constructor
          · rintro ((q | q) | ⟨q1, q2, -⟩)
            · exact Or.inl q
            · cases q
            · omega
          · rintro (q | ⟨q1, q2, q3⟩)
            · exact Or.inl (Or.inl q)
            · omega
/-- the bar, by the class -/
theorem bar_X (R : RX c pe se pl ow pr mi ri oF oL ho be en co nc) {fi la : Nat → Int32} (hf : ∀ s, s < kS c → fi s = nI (kF c s) ∧ la s = nI (kT c s)) (nx wk rk at' : Nat → Int32) (w1 w2 w3 w4 w5 w6 w7 w8 w9 : Int32) :
    ok_X9_barringHour nx wk rk at' w1 w2 w3 w4 w5 w6 w7 w8 w9 pe se pl ow pr fi la mi ri oF oL ho be en co nc ∧ (F_X9_barringHour nx wk rk at' w1 w2 w3 w4 w5 w6 w7 w8 w9 pe se pl ow pr fi la mi ri oF oL ho be en co nc).1 = oV 10 (lo (emp c) 0 10) := by
  have w := R.1
  obtain ⟨p1, nx', wk', rk', at'', v1, v2, v3, v4, v5, v6, v7, v8, v9, p2, p3⟩ := prep_X R hf nx wk rk at' w1 w2 w3 w4 w5 w6 w7 w8 w9
  obtain ⟨b1, b2⟩ := bb_loop R FU 0 0 (Nat.zero_le _) (by have := FU_ge; omega)
  rw [nI_0] at b1 b2
  have hS : SXs c 0 (F_X9_barringHour_L12 pe pl FU 0 0) := by
    intro s
    rw [b2 s, b_0]
    constructor
    · rintro (q | ⟨-, q2, q3⟩)
      · cases q
      · exact ⟨kw s, sp_kw (by omega), bgb_iff.mp q3⟩
    · rintro ⟨k, q1, q2⟩
      have q2' : Bg c k := q2
      have := q2'.sp10 w
      refine Or.inr ⟨Nat.zero_le _, by omega, ?_⟩
      rw [← q1, kw_sp (q2'.vk w)]
      exact bgb_iff.mpr q2'
  obtain ⟨l1, l2⟩ := ba_loop w p3 v1 v2 v3 v4 v5 v6 v7 v8 v9 FU 0 _ (Nat.zero_le _) (by have := FU_ge; omega) hS
  unfold ok_X9_barringHour F_X9_barringHour
  rw [p2]
  dsimp only
  unfold ok_X9_barringHour_b8 F_X9_barringHour_b8
  dsimp only
  unfold ok_X9_barringHour_b41 F_X9_barringHour_b41
  exact ⟨⟨p1, b1, l1⟩, l2⟩
end BX2

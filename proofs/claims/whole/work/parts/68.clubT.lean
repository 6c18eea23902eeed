/-! a club as a text: the middle keeps to itself -/
section PWs
variable {c : Cl}
theorem PW_N (h : PW c) (h0 : kN c = 0) {f : Nat} (h1 : f ≤ 6) : PW (sC c 0 0 f) := by
  obtain ⟨a1, a2, a3, a4, a5, a6, a7, a8, a9, a10, a11⟩ := h
  refine ⟨h1, a2, fun s hs => ?_, a4, a5, a6, a7, fun i hi => ?_, a9, a10, a11⟩
  · have := a3 s hs; omega
  · have := a8 i hi; omega
theorem eH_H (c : Cl) (o f i : Nat) : kH (sC (sC c 10 o f) 14 o 1) i = if i = o then f else kH c i := by
  show sC (sC c 10 o f) 14 o 1 10 i = _
  rw [sC_ne (by decide), sC_at]; rfl
theorem eH_t (c : Cl) (o f i : Nat) : t14 (sC (sC c 10 o f) 14 o 1) i = (t14 c i || (i == o)) := by
  unfold t14
  rw [sC_at, sC_ne (by decide)]
  by_cases q : i = o
  · rw [if_pos q]; simp [q]
  · rw [if_neg q]; simp [q]
theorem PW_H (h : PW c) {o f : Nat} (h1 : o < kN c) (h2 : f ≤ 9) : PW (sC (sC c 10 o f) 14 o 1) := by
  obtain ⟨a1, a2, a3, a4, a5, a6, a7, a8, a9, a10, a11⟩ := h
  refine ⟨a1, a2, a3, a4, fun i => ?_, a6, a7, fun i hi => ?_, a9, a10, fun i hi => ?_⟩
  · rw [eH_H]
    by_cases q : i = o
    · rw [if_pos q]; exact h2
    · rw [if_neg q]; exact a5 i
  · rw [eH_t, Bool.or_eq_true, beq_iff_eq] at hi
    rcases hi with hi | hi
    · exact a8 i hi
    · rw [hi]; exact h1
  · rw [eH_t, Bool.or_eq_false_iff] at hi
    have : ¬ i = o := by simpa using hi.2
    rw [eH_H, if_neg this]
    exact a11 i hi.1
theorem eO_O (c : Cl) (o t f p : Nat) : kO (sC (sC (sC c 8 o t) 9 o f) 13 o 1) p = if p = o then t else kO c p := by
  show sC (sC (sC c 8 o t) 9 o f) 13 o 1 8 p = _
  rw [sC_ne (by decide), sC_ne (by decide), sC_at]; rfl
theorem eO_U (c : Cl) (o t f p : Nat) : kU (sC (sC (sC c 8 o t) 9 o f) 13 o 1) p = if p = o then f else kU c p := by
  show sC (sC (sC c 8 o t) 9 o f) 13 o 1 9 p = _
  rw [sC_ne (by decide), sC_at, sC_ne (by decide)]; rfl
theorem eO_t (c : Cl) (o t f p : Nat) : t13 (sC (sC (sC c 8 o t) 9 o f) 13 o 1) p = (t13 c p || (p == o)) := by
  unfold t13
  rw [sC_at, sC_ne (by decide), sC_ne (by decide)]
  by_cases q : p = o
  · rw [if_pos q]; simp [q]
  · rw [if_neg q]; simp [q]
theorem PW_O (h : PW c) {o t f : Nat} (h1 : kP c o = true) (h2 : t ≤ 9) (h3 : f ≤ 9) : PW (sC (sC (sC c 8 o t) 9 o f) 13 o 1) := by
  obtain ⟨a1, a2, a3, a4, a5, a6, a7, a8, a9, a10, a11⟩ := h
  refine ⟨a1, a2, a3, fun p => ?_, a5, a6, a7, a8, fun p hp => ?_, fun p hp => ?_, a11⟩
  · rw [eO_O, eO_U]
    obtain ⟨b1, b2, b3, b4⟩ := a4 p
    refine ⟨b1, b2, ?_, ?_⟩
    · by_cases q : p = o
      · rw [if_pos q]; exact h2
      · rw [if_neg q]; exact b3
    · by_cases q : p = o
      · rw [if_pos q]; exact h3
      · rw [if_neg q]; exact b4
  · rw [eO_t, Bool.or_eq_true, beq_iff_eq] at hp
    show kP c p = true
    rcases hp with hp | hp
    · exact a9 p hp
    · rw [hp]; exact h1
  · have hp' : kP c p = false := hp
    have : ¬ p = o := fun q => by rw [q, h1] at hp'; cases hp'
    rw [eO_O, eO_U, if_neg this, if_neg this]
    exact a10 p hp'
abbrev addP (c : Cl) (o t f : Nat) : Cl := sC (sC (sC (sC (sC c 5 o 1) 6 o t) 7 o f) 8 o 0) 9 o 9
theorem eP_P (c : Cl) (o t f p : Nat) : kP (addP c o t f) p = (kP c p || (p == o)) := by
  show (addP c o t f 5 p == 1) = _
  unfold addP kP
  rw [sC_ne (by decide), sC_ne (by decide), sC_ne (by decide), sC_ne (by decide), sC_at]
  by_cases q : p = o
  · rw [if_pos q]; simp [q]
  · rw [if_neg q]; simp [q]
theorem eP_M (c : Cl) (o t f p : Nat) : kM (addP c o t f) p = if p = o then t else kM c p := by
  show addP c o t f 6 p = _
  unfold addP
  rw [sC_ne (by decide), sC_ne (by decide), sC_ne (by decide), sC_at, sC_ne (by decide)]; rfl
theorem eP_R (c : Cl) (o t f p : Nat) : kR (addP c o t f) p = if p = o then f else kR c p := by
  show addP c o t f 7 p = _
  unfold addP
  rw [sC_ne (by decide), sC_ne (by decide), sC_at, sC_ne (by decide), sC_ne (by decide)]; rfl
theorem eP_O (c : Cl) (o t f p : Nat) : kO (addP c o t f) p = if p = o then 0 else kO c p := by
  show addP c o t f 8 p = _
  unfold addP
  rw [sC_ne (by decide), sC_at, sC_ne (by decide), sC_ne (by decide), sC_ne (by decide)]; rfl
theorem eP_U (c : Cl) (o t f p : Nat) : kU (addP c o t f) p = if p = o then 9 else kU c p := by
  show addP c o t f 9 p = _
  unfold addP
  rw [sC_at, sC_ne (by decide), sC_ne (by decide), sC_ne (by decide), sC_ne (by decide)]; rfl
theorem PW_P (h : PW c) {o t f : Nat} (h2 : t ≤ 9) (h3 : f ≤ 9) : PW (addP c o t f) := by
  obtain ⟨a1, a2, a3, a4, a5, a6, a7, a8, a9, a10, a11⟩ := h
  refine ⟨a1, a2, a3, fun p => ?_, a5, a6, a7, a8, fun p hp => ?_, fun p hp => ?_, a11⟩
  · rw [eP_M, eP_R, eP_O, eP_U]
    obtain ⟨b1, b2, b3, b4⟩ := a4 p
    by_cases q : p = o
    · rw [if_pos q, if_pos q, if_pos q, if_pos q]; exact ⟨h2, h3, by omega, by omega⟩
    · rw [if_neg q, if_neg q, if_neg q, if_neg q]; exact ⟨b1, b2, b3, b4⟩
  · have hp' : t13 c p = true := hp
    rw [eP_P, a9 p hp']; rfl
  · rw [eP_P, Bool.or_eq_false_iff] at hp
    have : ¬ p = o := by simpa using hp.2
    rw [eP_O, eP_U, if_neg this, if_neg this]
    exact a10 p hp.1
theorem PW_F (h : PW c) {f : Nat} (h1 : f ≤ 9) : PW (sC c 11 0 f) := by
  obtain ⟨a1, a2, a3, a4, a5, a6, a7, a8, a9, a10, a11⟩ := h
  exact ⟨a1, a2, a3, a4, a5, h1, a7, a8, a9, a10, a11⟩
end PWs
theorem CI_stc {s s' : Cs} (hI : CI s) {b : Nat} (h : stc s b = some s') : CI s' := by
  obtain ⟨l, g, o, t, c⟩ := s
  obtain ⟨hP, hI⟩ := hI
  have hP : PW c := hP
  unfold stc at h
  by_cases hl : l = 0
  · rw [if_pos hl] at h
    by_cases hk : okL c b = true
    · rw [if_pos hk] at h
      rw [← Option.some.inj h]
      unfold okL at hk
      refine ⟨hP, Or.inr ?_⟩
      show 0 < nFg b ∧ (b = 70 ∨ b = 72 ∨ b = 78 ∨ b = 79 ∨ b = 80 ∨ b = 82) ∧ (b = 78 → kN c = 0) ∧ (¬ b = 78 → 1 ≤ kN c) ∧ (b = 72 → 1 ≤ 0 → _) ∧ (b = 79 → 1 ≤ 0 → _) ∧ (b = 79 → 2 ≤ 0 → _) ∧ (b = 80 → 1 ≤ 0 → _) ∧ (b = 80 → 2 ≤ 0 → _) ∧ (b = 82 → kS c < 8 ∧ (1 ≤ 0 → _) ∧ (2 ≤ 0 → _))
      have hn : 0 < nFg b := by
        unfold nFg
        split
        · decide
        · split
          · decide
          · split <;> decide
      by_cases h0 : kN c = 0
      · rw [if_pos h0, beq_iff_eq] at hk
        exact ⟨hn, by omega, fun _ => h0, fun q => absurd hk q, fun _ q => by omega, fun _ q => by omega, fun _ q => by omega, fun _ q => by omega, fun _ q => by omega, fun q => by omega⟩
      · rw [if_neg h0] at hk
        by_cases q1 : b = 70
        · exact ⟨hn, by omega, fun q => by omega, fun _ => by omega, fun _ q => by omega, fun _ q => by omega, fun _ q => by omega, fun _ q => by omega, fun _ q => by omega, fun q => by omega⟩
        · rw [if_neg q1] at hk
          by_cases q2 : b = 72
          · exact ⟨hn, by omega, fun q => by omega, fun _ => by omega, fun _ q => by omega, fun _ q => by omega, fun _ q => by omega, fun _ q => by omega, fun _ q => by omega, fun q => by omega⟩
          · rw [if_neg q2] at hk
            by_cases q3 : b = 79
            · exact ⟨hn, by omega, fun q => by omega, fun _ => by omega, fun _ q => by omega, fun _ q => by omega, fun _ q => by omega, fun _ q => by omega, fun _ q => by omega, fun q => by omega⟩
            · rw [if_neg q3] at hk
              by_cases q4 : b = 80
              · exact ⟨hn, by omega, fun q => by omega, fun _ => by omega, fun _ q => by omega, fun _ q => by omega, fun _ q => by omega, fun _ q => by omega, fun _ q => by omega, fun q => by omega⟩
              · rw [if_neg q4] at hk
                by_cases q5 : b = 82
                · rw [if_pos q5, Bool.and_eq_true, decide_eq_true_eq] at hk
                  exact ⟨hn, by omega, fun q => by omega, fun _ => by omega, fun _ q => by omega, fun _ q => by omega, fun _ q => by omega, fun _ q => by omega, fun _ q => by omega, fun _ => ⟨hk.1, fun q => by omega, fun q => by omega⟩⟩
                · rw [if_neg q5] at hk; cases hk
    · rw [if_neg hk] at h; cases h
  · rw [if_neg hl] at h
    rcases hI with hI | hI
    · exact absurd hI hl
    obtain ⟨i1, i2, i3, i4, i5, i6, i7, i8, i9, i10'⟩ := hI
    have i1 : g < nFg l := i1
    have i2 : l = 70 ∨ l = 72 ∨ l = 78 ∨ l = 79 ∨ l = 80 ∨ l = 82 := i2
    have i3 : l = 78 → kN c = 0 := i3
    have i4 : ¬ l = 78 → 1 ≤ kN c := i4
    have i5 : l = 72 → 1 ≤ g → o < kN c ∧ t14 c o = false := i5
    have i6 : l = 79 → 1 ≤ g → o < 4 ∧ kP c o = true ∧ t13 c o = false := i6
    have i7 : l = 79 → 2 ≤ g → t ≤ 9 := i7
    have i8 : l = 80 → 1 ≤ g → o < 4 ∧ kP c o = false := i8
    have i9 : l = 80 → 2 ≤ g → t ≤ 9 := i9
    have i10' : l = 82 → kS c < 8 ∧ (1 ≤ g → o < kN c) ∧ (2 ≤ g → t ≤ 9) := i10'
    by_cases hk : (dig b && rgt l g o t c (b - 48)) = true
    · have h' : some (if g + 1 = nFg l then (0, g + 1, o, t, enp l o t c (b - 48)) else if g = 0 then (l, 1, b - 48, t, c) else (l, g + 1, o, b - 48, c)) = some s' := by
        rw [if_pos hk] at h; exact h
      rw [← Option.some.inj h']
      rw [Bool.and_eq_true] at hk
      obtain ⟨hd, hr⟩ := hk
      obtain ⟨d1, d2⟩ := dig_t.mp hd
      have hf : b - 48 ≤ 9 := by omega
      by_cases hg : g + 1 = nFg l
      · rw [if_pos hg]
        refine ⟨?_, Or.inl rfl⟩
        show PW (enp l o t c (b - 48))
        unfold enp
        unfold nFg at hg
        unfold rgt at hr
        by_cases q1 : l = 72
        · rw [if_pos q1]
          rw [if_neg (by omega), if_pos q1] at hg
          exact PW_H hP (i5 q1 (by omega)).1 hf
        · rw [if_neg q1] at hr ⊢
          by_cases q2 : l = 78
          · rw [if_pos q2]
            rw [if_pos q2, Bool.and_eq_true, decide_eq_true_eq, decide_eq_true_eq] at hr
            exact PW_N hP (i3 q2) hr.2
          · rw [if_neg q2] at hr ⊢
            by_cases q3 : l = 79
            · rw [if_pos q3]
              rw [if_neg (by omega), if_neg (by omega), if_neg (by omega)] at hg
              exact PW_O hP (i6 q3 (by omega)).2.1 (i7 q3 (by omega)) hf
            · rw [if_neg q3] at hr ⊢
              by_cases q4 : l = 80
              · rw [if_pos q4]
                rw [if_neg (by omega), if_neg (by omega), if_neg (by omega)] at hg
                exact PW_P hP (i9 q4 (by omega)) hf
              · rw [if_neg q4] at hr ⊢
                by_cases q5 : l = 82
                · rw [if_pos q5]
                  rw [if_neg (by omega), if_neg (by omega), if_neg (by omega)] at hg
                  obtain ⟨k1, k2, k3⟩ := i10' q5
                  rw [if_pos q5, if_neg (by omega), if_neg (by omega), Bool.and_eq_true, decide_eq_true_eq] at hr
                  exact PW_addS hP k1 (k2 (by omega)) hr.1 hf
                · rw [if_neg q5]
                  exact PW_F hP hf
      · rw [if_neg hg]
        have hg' : g + 1 < nFg l := by omega
        unfold rgt at hr
        by_cases h0 : g = 0
        · rw [if_pos h0]
          refine ⟨hP, Or.inr ?_⟩
          show 1 < nFg l ∧ (l = 70 ∨ l = 72 ∨ l = 78 ∨ l = 79 ∨ l = 80 ∨ l = 82) ∧ (l = 78 → kN c = 0) ∧ (¬ l = 78 → 1 ≤ kN c) ∧ (l = 72 → 1 ≤ 1 → b - 48 < kN c ∧ t14 c (b - 48) = false) ∧ (l = 79 → 1 ≤ 1 → b - 48 < 4 ∧ kP c (b - 48) = true ∧ t13 c (b - 48) = false) ∧ (l = 79 → 2 ≤ 1 → t ≤ 9) ∧ (l = 80 → 1 ≤ 1 → b - 48 < 4 ∧ kP c (b - 48) = false) ∧ (l = 80 → 2 ≤ 1 → t ≤ 9) ∧ (l = 82 → kS c < 8 ∧ (1 ≤ 1 → b - 48 < kN c) ∧ (2 ≤ 1 → t ≤ 9))
          refine ⟨by omega, i2, i3, i4, fun q _ => ?_, fun q _ => ?_, fun _ q => by omega, fun q _ => ?_, fun _ q => by omega, fun q => ⟨(i10' q).1, fun _ => ?_, fun q => by omega⟩⟩
          · rw [if_pos q, if_pos h0, Bool.and_eq_true, decide_eq_true_eq, Bool.not_eq_true'] at hr
            exact hr
          · rw [if_neg (by omega), if_neg (by omega), if_pos q, if_pos h0, Bool.and_eq_true, Bool.and_eq_true, decide_eq_true_eq, Bool.not_eq_true'] at hr
            exact hr
          · rw [if_neg (by omega), if_neg (by omega), if_neg (by omega), if_pos q, if_pos h0, Bool.and_eq_true, decide_eq_true_eq, Bool.not_eq_true'] at hr
            exact hr
          · rw [if_neg (by omega), if_neg (by omega), if_neg (by omega), if_neg (by omega), if_pos q, if_pos h0, Bool.and_eq_true, decide_eq_true_eq] at hr
            exact hr.1
        · rw [if_neg h0]
          refine ⟨hP, Or.inr ?_⟩
          exact ⟨hg', i2, i3, i4, fun q _ => i5 q (by omega), fun q _ => i6 q (by omega), fun _ _ => hf, fun q _ => i8 q (by omega), fun _ _ => hf, fun q => ⟨(i10' q).1, fun _ => (i10' q).2.1 (by omega), fun _ => hf⟩⟩
    · rw [if_neg hk] at h; cases h

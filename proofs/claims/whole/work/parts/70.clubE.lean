/-! a club as a text: the class's ends -/
abbrev D15 : Type := Int32 × Int32 × (Nat → Int32) × Int32 × Int32 × Int32 × Int32 × (Nat → Int32) × (Nat → Int32) × (Nat → Int32) × (Nat → Int32) × (Nat → Int32) × (Nat → Int32) × (Nat → Int32) × (Nat → Int32)
def CQ (c : Cl) (q : D15) : Prop := CX c q.2.2.2.1 q.2.2.2.2.1 q.2.2.2.2.2.1 q.2.2.2.2.2.2.1 q.1 q.2.1 q.2.2.1 q.2.2.2.2.2.2.2.1 q.2.2.2.2.2.2.2.2.1 q.2.2.2.2.2.2.2.2.2.1 q.2.2.2.2.2.2.2.2.2.2.1 q.2.2.2.2.2.2.2.2.2.2.2.1 q.2.2.2.2.2.2.2.2.2.2.2.2.1 q.2.2.2.2.2.2.2.2.2.2.2.2.2.1 q.2.2.2.2.2.2.2.2.2.2.2.2.2.2
theorem upd_if (f : Nat → Int32) (k : Nat) (x : Int32) (j : Nat) : upd f k x j = if j = k then x else f j := rfl
theorem bt_one {x : Int32} {o : Nat} (ho : o < 32) (i : Nat) : bt (x ||| ((1 : Int32) <<< (nI o &&& 31))) i = (bt x i || (i == o)) := by
  by_cases hi : i < 32
  · rw [b_or, bt_bit ho hi]
    by_cases q : i = o
    · rw [decide_eq_true q, q]; simp
    · rw [decide_eq_false q]; simp [q]
  · have : ¬ i = o := by omega
    rw [b_big (by omega), b_big (by omega)]; simp [this]
theorem fig_X {l : Nat} (hl : l < 128) : F_X2_figuresOf (nI l) = nI (nFg l) := by
  unfold F_X2_figuresOf nFg
  have e70 := lt_k (l := l) (k := 70) hl (by decide) 70 rfl
  have e72 := lt_k (l := l) (k := 72) hl (by decide) 72 rfl
  have e78 := lt_k (l := l) (k := 78) hl (by decide) 78 rfl
  by_cases q70 : l = 70
  · rw [if_pos (e70.mpr q70), if_pos q70]; rfl
  · rw [if_neg (fun z => q70 (e70.mp z)), if_neg q70]
    by_cases q72 : l = 72
    · rw [if_pos (e72.mpr q72), if_pos q72]; rfl
    · rw [if_neg (fun z => q72 (e72.mp z)), if_neg q72]
      by_cases q78 : l = 78
      · rw [if_pos (e78.mpr q78), if_pos q78]; rfl
      · rw [if_neg (fun z => q78 (e78.mp z)), if_neg q78]; rfl
section CX3
variable {c : Cl} {pe se pl fo ot ht : Int32} {bu pr fi la mi ri oF oL hm : Nat → Int32}
theorem ep_X {l g o t : Nat} (hI : CI (l, g, o, t, c)) (hl : ¬ l = 0) (R : CX c pe se pl fo ot ht bu pr fi la mi ri oF oL hm) {oI' tI : Int32} (ho : 1 ≤ g → oI' = nI o) (ht2 : 2 ≤ g → tI = nI t) {f : Nat} (hf : f ≤ 9) (hg : g + 1 = nFg l) (hr : rgt l g o t c f = true) :
    ok_X2_endPart (nI l) oI' tI pe se pl pr fi la (nI f) ∧ CQ (enp l o t c f) (F_X2_endPart (nI l) oI' tI ot ht bu pe se pl fo pr fi la mi ri oF oL hm (nI f)) := by
  obtain ⟨hP, hI⟩ := hI
  have hP : PW c := hP
  rcases hI with hI | hI
  · exact absurd hI hl
  obtain ⟨i1, i2, i3, i4, i5, i6, i7, i8, i9, i10'⟩ := hI
  have i2 : l = 70 ∨ l = 72 ∨ l = 78 ∨ l = 79 ∨ l = 80 ∨ l = 82 := i2
  have i3 : l = 78 → kN c = 0 := i3
  have i5 : l = 72 → 1 ≤ g → o < kN c ∧ t14 c o = false := i5
  have i6 : l = 79 → 1 ≤ g → o < 4 ∧ kP c o = true ∧ t13 c o = false := i6
  have i7 : l = 79 → 2 ≤ g → t ≤ 9 := i7
  have i8 : l = 80 → 1 ≤ g → o < 4 ∧ kP c o = false := i8
  have i9 : l = 80 → 2 ≤ g → t ≤ 9 := i9
  have i10' : l = 82 → kS c < 8 ∧ (1 ≤ g → o < kN c) ∧ (2 ≤ g → t ≤ 9) := i10'
  have h6 := hP.1
  have e72 := lt_k (l := l) (k := 72) (by omega) (by decide) 72 rfl
  have e78 := lt_k (l := l) (k := 78) (by omega) (by decide) 78 rfl
  have e79 := lt_k (l := l) (k := 79) (by omega) (by decide) 79 rfl
  have e80 := lt_k (l := l) (k := 80) (by omega) (by decide) 80 rfl
  have e82 := lt_k (l := l) (k := 82) (by omega) (by decide) 82 rfl
  obtain ⟨r1, r2, r3, r4, r5, r6, r7, r8, r9, r10, r11⟩ := R
  unfold ok_X2_endPart F_X2_endPart enp
  unfold nFg at hg
  unfold rgt at hr
  by_cases q72 : l = 72
  · have z := e72.mpr q72
    rw [if_neg (by omega), if_pos q72] at hg
    have o1 := (i5 q72 (by omega)).1
    rw [if_pos z, if_pos q72, ho (by omega), r1, isPerson_b h6 (by omega), decide_eq_true o1, if_neg bI_tn, nI_clamp (by omega)]
    refine ⟨⟨fun _ _ => vp_in_nI (by omega) (by decide), fun q => absurd z q⟩, ?_⟩
    refine ⟨rfl, r2, r3, r4, r5, fun i => ?_, r7, r8, r9, r10, fun i hi => ?_⟩
    · show bt (ht ||| _) i = _
      rw [bt_one (by omega), r6, eH_t]
    · show upd hm o (nI f) i = _
      rw [upd_if, eH_H]
      by_cases q : i = o
      · rw [if_pos q, if_pos q]
      · rw [if_neg q, if_neg q]; exact r11 i hi
  · have z72 : ¬ nI l = 72 := fun z => q72 (e72.mp z)
    rw [if_neg z72, if_neg q72]
    rw [if_neg q72] at hr
    by_cases q78 : l = 78
    · have z := e78.mpr q78
      rw [if_pos z, if_pos q78]
      refine ⟨⟨fun q => absurd q z72, fun _ q => absurd z q⟩, ?_⟩
      exact ⟨rfl, r2, r3, r4, r5, r6, r7, r8, r9, r10, r11⟩
    · have z78 : ¬ nI l = 78 := fun z => q78 (e78.mp z)
      rw [if_neg z78, if_neg q78]
      rw [if_neg q78] at hr
      by_cases q79 : l = 79
      · have z := e79.mpr q79
        rw [if_neg (by omega), if_neg (by omega), if_neg (by omega)] at hg
        obtain ⟨o1, o2, o3⟩ := i6 q79 (by omega)
        have t9 := i7 q79 (by omega)
        rw [if_pos z, if_pos q79, ho (by omega), ht2 (by omega)]
        unfold ok_X1_openBetween F_X1_openBetween
        rw [isPlace_b r3 (by omega), decide_eq_true o1, o2, Bool.and_true, if_neg bI_tn, nI_clamp (by omega)]
        refine ⟨⟨fun q => absurd q z72, fun _ _ => ⟨fun _ _ => ⟨vp_in_nI o1 (by decide), vp_in_nI o1 (by decide)⟩, fun q => absurd z q⟩⟩, ?_⟩
        refine ⟨r1, r2, r3, r4, fun i => ?_, r6, r7, r8, fun p hp hk => ?_, fun p hp hk => ?_, r11⟩
        · show bt (ot ||| _) i = _
          rw [bt_one (by omega), r5, eO_t]
          by_cases q : i = o
          · rw [q, decide_eq_true o1]; simp
          · rw [show (i == o) = false by simp [q], Bool.or_false, Bool.or_false]
        · have hk' : kP c p = true := hk
          obtain ⟨b1, b2, b3, b4⟩ := r9 p hp hk'
          refine ⟨b1, b2, ?_, ?_⟩
          · show upd oF o (nI t) p = _
            rw [upd_if, eO_O]
            by_cases q : p = o
            · rw [if_pos q, if_pos q]
            · rw [if_neg q, if_neg q]; exact b3
          · show upd oL o (nI f) p = _
            rw [upd_if, eO_U]
            by_cases q : p = o
            · rw [if_pos q, if_pos q]
            · rw [if_neg q, if_neg q]; exact b4
        · have hk' : kP c p = false := hk
          have : ¬ p = o := fun q => by rw [q, o2] at hk'; cases hk'
          show upd oL o (nI f) p = _
          rw [upd_if, if_neg this]
          exact r10 p hp hk'
      · have z79 : ¬ nI l = 79 := fun z => q79 (e79.mp z)
        rw [if_neg z79, if_neg q79]
        rw [if_neg q79] at hr
        by_cases q80 : l = 80
        · have z := e80.mpr q80
          rw [if_neg (by omega), if_neg (by omega), if_neg (by omega)] at hg
          obtain ⟨o1, o2⟩ := i8 q80 (by omega)
          have t9 := i9 q80 (by omega)
          rw [if_pos z, if_pos q80, ho (by omega), ht2 (by omega)]
          unfold ok_X1_addPlace F_X1_addPlace
          rw [if_neg (nI_pos (by omega)), if_neg (le_lit (K := 4) 4 rfl o1 (by decide)), nI_clamp (by omega)]
          have hv : vp_in (nI o) 4 := vp_in_nI o1 (by decide)
          refine ⟨⟨fun q => absurd q z72, fun _ _ => ⟨fun q => absurd q z79, fun _ => ⟨fun _ _ _ => ⟨hv, hv, hv, hv⟩, fun q => absurd z q⟩⟩⟩, ?_⟩
          refine ⟨r1, r2, fun i => ?_, r4, r5, r6, r7, r8, fun p hp hk => ?_, fun p hp hk => ?_, r11⟩
          · show bt (pl ||| _) i = (decide (i < 4) && kP (addP c o t f) i)
            rw [bt_one (by omega), r3, eP_P]
            by_cases q : i = o
            · rw [q, decide_eq_true o1]; simp
            · rw [show (i == o) = false by simp [q], Bool.or_false, Bool.or_false]
          · have hk' : kP (addP c o t f) p = true := hk
            show upd mi o (nI t) p = nI (kM (addP c o t f) p) ∧ upd ri o (nI f) p = nI (kR (addP c o t f) p) ∧ upd oF o 0 p = nI (kO (addP c o t f) p) ∧ upd oL o 9 p = nI (kU (addP c o t f) p)
            rw [eP_M, eP_R, eP_O, eP_U, upd_if, upd_if, upd_if, upd_if]
            by_cases q : p = o
            · rw [if_pos q, if_pos q, if_pos q, if_pos q, if_pos q, if_pos q, if_pos q, if_pos q]; exact ⟨rfl, rfl, rfl, rfl⟩
            · rw [if_neg q, if_neg q, if_neg q, if_neg q, if_neg q, if_neg q, if_neg q, if_neg q]
              rw [eP_P, show (p == o) = false by simp [q], Bool.or_false] at hk'
              exact r9 p hp hk'
          · have hk' : kP (addP c o t f) p = false := hk
            rw [eP_P, Bool.or_eq_false_iff] at hk'
            have : ¬ p = o := by simpa using hk'.2
            show upd oL o 9 p = _
            rw [upd_if, if_neg this]
            exact r10 p hp hk'.1
        · have z80 : ¬ nI l = 80 := fun z => q80 (e80.mp z)
          rw [if_neg z80, if_neg q80]
          rw [if_neg q80] at hr
          by_cases q82 : l = 82
          · have z := e82.mpr q82
            rw [if_neg (by omega), if_neg (by omega), if_neg (by omega)] at hg
            obtain ⟨k1, k2, k3⟩ := i10' q82
            have o1 := k2 (by omega)
            have t9 := k3 (by omega)
            rw [if_pos q82, if_neg (by omega), if_neg (by omega), Bool.and_eq_true, decide_eq_true_eq] at hr
            rw [if_pos z, if_pos q82, ho (by omega), ht2 (by omega), r2]
            unfold ok_X1_addSession F_X1_addSession ok_X2_endPart_b85 F_X2_endPart_b85
            rw [if_neg (le_lit (K := 8) 8 rfl k1 (by decide)), nI_clamp (by omega), r1, isPerson_b h6 (by omega), decide_eq_true o1, nI_clamp (by omega), nI_1]
            dsimp only
            rw [if_neg bI_tn]
            have hv : vp_in (nI (kS c)) 8 := vp_in_nI k1 (by decide)
            have hv' : vp_in (nI o) 6 := vp_in_nI (by omega) (by decide)
            refine ⟨⟨fun q => absurd q z72, fun _ _ => ⟨fun q => absurd q z79, fun _ => ⟨fun q => absurd q z80, fun _ _ => ⟨fun _ => ⟨hv, hv, hv⟩, fun _ => ⟨hv', hv'⟩⟩⟩⟩⟩, ?_⟩
            refine ⟨rfl, rfl, r3, r4, r5, r6, fun i h hi => ?_, fun s hs => ?_, r9, r10, r11⟩
            · show bt (upd bu o (bu o ||| F_X2_hoursBetween (nI t) (nI f)) i) h = bsy (addS c o t f) i h
              rw [upd_if, addS_bsy]
              by_cases q : i = o
              · rw [if_pos q, b_or, q, r7 o h (by omega), show (o == o) = true by simp, Bool.true_and]
                by_cases hh : h < 32
                · rw [hbt t (by omega) f (by omega) hr.1 h hh]
                · rw [b_big (by omega), decide_eq_false (show ¬ h ≤ f by omega), Bool.and_false]
              · rw [if_neg q, r7 i h hi, show (o == i) = false by simp; omega, Bool.false_and, Bool.or_false]
            · have hs' : s < kS c + 1 := hs
              show upd pr (kS c) (nI o) s = nI (kW (addS c o t f) s) ∧ upd fi (kS c) (nI t) s = nI (kF (addS c o t f) s) ∧ upd la (kS c) (nI f) s = nI (kT (addS c o t f) s)
              rw [addS_W, addS_F, addS_T, upd_if, upd_if, upd_if]
              by_cases q : s = kS c
              · rw [if_pos q, if_pos q, if_pos q, if_pos q, if_pos q, if_pos q]; exact ⟨rfl, rfl, rfl⟩
              · rw [if_neg q, if_neg q, if_neg q, if_neg q, if_neg q, if_neg q]; exact r8 s (by omega)
          · have z82 : ¬ nI l = 82 := fun z => q82 (e82.mp z)
            rw [if_neg z82, if_neg q82]
            refine ⟨⟨fun q => absurd q z72, fun _ _ => ⟨fun q => absurd q z79, fun _ => ⟨fun q => absurd q z80, fun _ q => absurd q z82⟩⟩⟩, ?_⟩
            exact ⟨r1, r2, r3, rfl, r5, r6, r7, r8, r9, r10, r11⟩
end CX3

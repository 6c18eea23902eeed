/-! rules as texts -/
def sb (b : Nat) : Int32 := (nI b).toInt8.toInt32
/-- the text, as class and reference have it -/
def TX (tx : Nat → Nat) (L : Nat) (xs ys : Nat → Int32) : Prop := L ≤ 64 ∧ ∀ i, i < L → tx i < 256 ∧ xs i = sb (tx i) ∧ ys i = nI (tx i)
theorem sb_l72 : ∀ b, b < 256 → decide (sb b = 72) = decide (b = 72) := by decide +kernel
theorem sb_l78 : ∀ b, b < 256 → decide (sb b = 78) = decide (b = 78) := by decide +kernel
theorem sb_l80 : ∀ b, b < 256 → decide (sb b = 80) = decide (b = 80) := by decide +kernel
theorem dec_iff {p q : Prop} {i : Decidable p} {j : Decidable q} (h : @decide p i = @decide q j) : p ↔ q := by
  constructor
  · intro z; exact of_decide_eq_true (h ▸ decide_eq_true z)
  · intro z; exact of_decide_eq_true (h ▸ decide_eq_true z)
theorem sb_72 {b : Nat} (h : b < 256) : sb b = 72 ↔ b = 72 := dec_iff (sb_l72 b h)
theorem sb_78 {b : Nat} (h : b < 256) : sb b = 78 ↔ b = 78 := dec_iff (sb_l78 b h)
theorem sb_80 {b : Nat} (h : b < 256) : sb b = 80 ↔ b = 80 := dec_iff (sb_l80 b h)
def dig (b : Nat) : Bool := decide (48 ≤ b) && decide (b ≤ 57)
theorem dig_t {b : Nat} : dig b = true ↔ 48 ≤ b ∧ b ≤ 57 := by unfold dig; simp only [Bool.and_eq_true, decide_eq_true_eq]
theorem sb_dig : ∀ b, b < 256 → F_X11_isHour (sb b - 48) = bI (dig b) := by decide +kernel
theorem sb_val : ∀ b, b < 256 → dig b = true → sb b - 48 = nI (b - 48) := by decide +kernel
theorem nb_dig : ∀ b, b < 256 → F_X11_isHour (nI b - 48) = bI (dig b) := by decide +kernel
theorem nb_val {b : Nat} (h : 48 ≤ b) : nI b - 48 = nI (b - 48) := pk_sub (b := 48) h
theorem nb_03 : ∀ b, b < 256 → F_X12_in (nI b - 48).toInt64 (0 : Int32).toInt64 (3 : Int32).toInt64 = bI (decide (48 ≤ b) && decide (b ≤ 51)) := by decide +kernel
theorem sb_neg : ∀ b, b < 256 → decide (sb b - 48 < 0 ∨ ¬ sb b - 48 < 4) = !(decide (48 ≤ b) && decide (b ≤ 51)) := by decide +kernel
/-- ended, a place is wanted, the hour, exceptions, acts -/
abbrev Rs : Type := Bool × Bool × Option Nat × Nat × (Nat → Option Nat)
def ena (s : Rs) (v : Nat) : Rs := match s.2.2.1 with
  | none => (true, false, none, s.2.2.2.1, fun j => match s.2.2.2.2 j with | none => some v | some x => some x)
  | some h => (false, false, none, s.2.2.2.1 + 1, fun j => if j = h then some v else s.2.2.2.2 j)
def stp (s : Rs) (b : Nat) : Option Rs := if s.1 = true then none else if s.2.1 = true then (if 48 ≤ b ∧ b ≤ 51 then some (ena s (b - 48)) else none)
  else if b = 72 then some (ena s 4) else if b = 78 then some (ena s 5) else if b = 80 then some (false, true, s.2.2) else (match s.2.2.1 with
    | some _ => none
    | none => if dig b = true then (match s.2.2.2.2 (b - 48) with
      | none => some (false, false, some (b - 48), s.2.2.2)
      | some _ => none) else none)
def rr (tx : Nat → Nat) (L : Nat) : Nat → Rs → Option Nat × Rs
  | 0, s => (if s.1 = true then none else some L, s)
  | d + 1, s => match stp s (tx (L - (d + 1))) with
    | none => (some (L - (d + 1)), s)
    | some s' => rr tx L d s'
def r0 : Rs := (false, false, none, 0, fun _ => none)
def aI : Option Nat → Int32
  | none => -9
  | some v => nI v
def Ra (a : Nat → Option Nat) (ac : Nat → Int32) : Prop := ∀ j, j < 10 → ac j = aI (a j)
/-- acts are small, the hour is one -/
def Rk (s : Rs) : Prop := (∀ j v, s.2.2.2.2 j = some v → v ≤ 5) ∧ (∀ h, s.2.2.1 = some h → h < 10 ∧ s.2.2.2.2 h = none) ∧ s.2.2.2.1 ≤ 64
theorem aI_n {o : Option Nat} (h : ∀ v, o = some v → v ≤ 5) : aI o = -9 ↔ o = none := by
  cases o with
  | none => exact ⟨fun _ => rfl, fun _ => rfl⟩
  | some v =>
    have := h v rfl
    constructor
    · intro q; exact absurd q (nI_ne9 (by omega))
    · intro q; cases q
theorem ena_X {s : Rs} (hk : Rk s) (hm : s.2.2.2.1 < 64) {ac : Nat → Int32} (hr : Ra s.2.2.2.2 ac) (he : s.1 = false) {v : Nat} (hv : v ≤ 5) (x : Int32) (hx : x = nI v) :
    ok_X6_endAct (oI s.2.2.1) ac x ∧ ∃ ac', F_X6_endAct 0 (oI s.2.2.1) (nI s.2.2.2.1) ac x = (bI (ena s v).1, oI (ena s v).2.2.1, nI (ena s v).2.2.2.1, ac') ∧ Ra (ena s v).2.2.2.2 ac' ∧ Rk (ena s v) := by
  obtain ⟨e, w, ho, m, a⟩ := s
  subst hx
  obtain ⟨k1, k2, k3⟩ := hk
  unfold ok_X6_endAct F_X6_endAct
  cases ho with
  | none =>
    obtain ⟨o1, o2⟩ := ot_X ac (nI v)
    have e9 : oI none = -9 := rfl
    rw [if_pos e9, o2]
    refine ⟨⟨fun _ => o1, fun q => absurd e9 q⟩, _, rfl, fun j hj => ?_, ?_, ?_, k3⟩
    · have hj' : ac j = aI (a j) := hr j hj
      show (if j < 10 ∧ ac j = -9 then nI v else ac j) = aI (match a j with | none => some v | some x => some x)
      rw [hj']
      cases ha : a j with
      | none => rw [if_pos ⟨hj, rfl⟩]; rfl
      | some x => rw [if_neg (fun q => by have := (aI_n (o := some x) (fun v hv' => k1 j v (by rw [← hv']; exact ha))).mp q.2; cases this)]
    · intro j u hu
      have hu' : (match a j with | none => some v | some x => some x) = some u := hu
      cases ha : a j with
      | none => rw [ha] at hu'; have := Option.some.inj hu'; omega
      | some x => rw [ha] at hu'; have := Option.some.inj hu'; rw [← this]; exact k1 j x ha
    · intro h q; cases q
  | some h =>
    obtain ⟨h10, hn⟩ := k2 h rfl
    have e9 : ¬ oI (some h) = -9 := nI_ne9 (by omega)
    have eo : oI (some h) = nI h := rfl
    rw [if_neg e9, eo]
    unfold ok_X5_except F_X5_except
    rw [isHour_nI h10, if_neg i10, nI_clamp (by omega), nI_1]
    refine ⟨⟨fun q => absurd q e9, fun _ _ => vp_in_nI h10 (by decide)⟩, _, rfl, fun j hj => ?_, ?_, ?_, ?_⟩
    · show upd ac h (nI v) j = aI (if j = h then some v else a j)
      by_cases q : j = h
      · rw [q, pk_us, if_pos rfl]; rfl
      · rw [pk_un q, if_neg q]; exact hr j hj
    · intro j u hu
      have hu' : (if j = h then some v else a j) = some u := hu
      by_cases q : j = h
      · rw [if_pos q] at hu'; have := Option.some.inj hu'; omega
      · rw [if_neg q] at hu'; exact k1 j u hu'
    · intro h q; cases q
    · show m + 1 ≤ 64
      have : m < 64 := hm
      omega
theorem tk_X {s : Rs} (hk : Rk s) (hm : s.2.2.2.1 < 64) {ac : Nat → Int32} (hr : Ra s.2.2.2.2 ac) {b : Nat} (hb : b < 256) :
    ok_X6_takes (bI s.1) (bI s.2.1) (oI s.2.2.1) (nI s.2.2.2.1) ac (sb b) ∧
    (stp s b = none → (F_X6_takes (bI s.1) (bI s.2.1) (oI s.2.2.1) (nI s.2.2.2.1) ac (sb b)).1 = 0) ∧
    (∀ s', stp s b = some s' → ∃ ac', F_X6_takes (bI s.1) (bI s.2.1) (oI s.2.2.1) (nI s.2.2.2.1) ac (sb b) = (1, bI s'.1, bI s'.2.1, oI s'.2.2.1, nI s'.2.2.2.1, ac') ∧ Ra s'.2.2.2.2 ac' ∧ Rk s') := by
  unfold ok_X6_takes F_X6_takes stp
  cases he : s.1 with
  | true =>
    rw [if_neg bI_tn, if_pos rfl]
    exact ⟨fun q => absurd q bI_tn, fun _ => rfl, fun s' q => by cases q⟩
  | false =>
    rw [if_pos bI_f, if_neg nft]
    cases hw : s.2.1 with
    | true =>
      rw [if_neg bI_tn, if_pos rfl]
      unfold ok_X6_takesPlace F_X6_takesPlace
      have hn := sb_neg b hb
      by_cases q : 48 ≤ b ∧ b ≤ 51
      · have hd : dig b = true := dig_t.mpr ⟨q.1, by omega⟩
        have ev := sb_val b hb hd
        have e1 : ¬ nI (b - 48) < 0 := nI_pos (by omega)
        have e2 : nI (b - 48) < (4 : Int32) := nI_lt (b := 4) (by omega) (by decide)
        obtain ⟨n1, ac', n2, n3, n4⟩ := ena_X hk hm hr he (v := b - 48) (by omega) _ rfl
        have n2' : F_X6_endAct (bI false) (oI s.2.2.1) (nI s.2.2.2.1) ac (nI (b - 48)) = _ := n2
        rw [ev, if_neg e1, if_pos e2, if_pos q, n2']
        dsimp only
        unfold F_X6_takesPlace_b22
        dsimp only
        unfold ok_X6_takes_b25 F_X6_takes_b25
        refine ⟨fun _ => ⟨fun q' => absurd q' bI_tn, fun _ => ⟨fun _ _ => n1, isB_1⟩⟩, fun q' => (by cases q'), fun s' q' => ?_⟩
        have := Option.some.inj q'
        rw [← this]
        refine ⟨ac', ?_, n3, n4⟩
        congr 2
        unfold ena
        cases s.2.2.1 <;> rfl
      · have hq : (sb b - 48 < 0 ∨ ¬ sb b - 48 < 4) := by
          have : (decide (48 ≤ b) && decide (b ≤ 51)) = false := by
            cases h : (decide (48 ≤ b) && decide (b ≤ 51)) with
            | false => rfl
            | true => rw [Bool.and_eq_true, decide_eq_true_eq, decide_eq_true_eq] at h; exact absurd h q
          rw [this] at hn
          exact of_decide_eq_true hn
        rw [if_neg q]
        have ef : (if sb b - 48 < 0 then ((0 : Int32), bI false, bI true, oI s.2.2.1, nI s.2.2.2.1, ac) else (if sb b - 48 < 4 then ((fun (q : Int32 × Int32 × Int32 × (Nat → Int32)) => (F_X6_takesPlace_b22 q.1 0 q.2.1 q.2.2.1 q.2.2.2)) (F_X6_endAct (bI false) (oI s.2.2.1) (nI s.2.2.2.1) ac (sb b - 48))) else (0, bI false, bI true, oI s.2.2.1, nI s.2.2.2.1, ac))) = (0, bI false, bI true, oI s.2.2.1, nI s.2.2.2.1, ac) := by
          rcases hq with hq | hq
          · rw [if_pos hq]
          · rw [if_neg hq, ite_self]
        rw [ef]
        dsimp only
        unfold ok_X6_takes_b25 F_X6_takes_b25
        exact ⟨fun _ => ⟨fun q' => absurd q' bI_tn, fun _ => ⟨fun a1 a2 => by
          rcases hq with hq | hq
          · exact absurd hq a1
          · exact absurd a2 hq, isB_0⟩⟩, fun _ => rfl, fun s' q' => (by cases q')⟩
    | false =>
      rw [if_pos bI_f, if_neg nft]
      by_cases q72 : b = 72
      · obtain ⟨n1, ac', n2, n3, n4⟩ := ena_X hk hm hr he (v := 4) (by decide) 4 rfl
        have e72 := (sb_72 hb).mpr q72
        rw [if_pos e72, if_pos q72]
        have n2' : F_X6_endAct (bI false) (oI s.2.2.1) (nI s.2.2.2.1) ac 4 = _ := n2
        rw [n2']
        dsimp only
        unfold F_X6_takes_b73
        refine ⟨fun _ => ⟨fun _ => ⟨fun _ => n1, fun q' => absurd e72 q'⟩, fun q' => absurd rfl q'⟩, fun q' => (by cases q'), fun s' q' => ?_⟩
        have := Option.some.inj q'
        rw [← this]
        refine ⟨ac', ?_, n3, n4⟩
        congr 2
        unfold ena
        cases s.2.2.1 <;> rfl
      · have e72 : ¬ sb b = 72 := fun z => q72 ((sb_72 hb).mp z)
        rw [if_neg e72, if_neg q72]
        by_cases q78 : b = 78
        · obtain ⟨n1, ac', n2, n3, n4⟩ := ena_X hk hm hr he (v := 5) (by decide) 5 rfl
          have e78 := (sb_78 hb).mpr q78
          rw [if_pos e78, if_pos q78]
          have n2' : F_X6_endAct (bI false) (oI s.2.2.1) (nI s.2.2.2.1) ac 5 = _ := n2
          rw [n2']
          dsimp only
          unfold F_X6_takes_b81
          refine ⟨fun _ => ⟨fun _ => ⟨fun q' => absurd q' e72, fun _ => ⟨fun _ => n1, fun q' => absurd e78 q'⟩⟩, fun q' => absurd rfl q'⟩, fun q' => (by cases q'), fun s' q' => ?_⟩
          have := Option.some.inj q'
          rw [← this]
          refine ⟨ac', ?_, n3, n4⟩
          congr 2
          unfold ena
          cases s.2.2.1 <;> rfl
        · have e78 : ¬ sb b = 78 := fun z => q78 ((sb_78 hb).mp z)
          rw [if_neg e78, if_neg q78]
          by_cases q80 : b = 80
          · have e80 := (sb_80 hb).mpr q80
            rw [if_pos e80, if_pos q80]
            refine ⟨fun _ => ⟨fun _ => ⟨fun q' => absurd q' e72, fun _ => ⟨fun q' => absurd q' e78, fun _ q' => absurd e80 q'⟩⟩, fun q' => absurd rfl q'⟩, fun q' => (by cases q'), fun s' q' => ?_⟩
            have := Option.some.inj q'
            rw [← this]
            exact ⟨ac, rfl, hr, hk⟩
          · have e80 : ¬ sb b = 80 := fun z => q80 ((sb_80 hb).mp z)
            rw [if_neg e80, if_neg q80]
            unfold ok_X6_takesHour F_X6_takesHour
            cases hh : s.2.2.1 with
            | some h =>
              have e9 : ¬ oI (some h) = -9 := nI_ne9 (by have := (hk.2.1 h hh).1; omega)
              rw [if_neg e9]
              dsimp only
              unfold ok_X6_takes_b92 F_X6_takes_b92
              exact ⟨fun _ => ⟨fun _ => ⟨fun q' => absurd q' e72, fun _ => ⟨fun q' => absurd q' e78, fun _ _ => ⟨fun q' => absurd q' e9, isB_0⟩⟩⟩, fun q' => absurd rfl q'⟩, fun _ => rfl, fun s' q' => (by cases q')⟩
            | none =>
              have e9 : oI none = -9 := rfl
              rw [if_pos e9, sb_dig b hb]
              cases hd : dig b with
              | false =>
                rw [if_pos bI_f, if_neg nft]
                dsimp only
                unfold ok_X6_takes_b92 F_X6_takes_b92
                exact ⟨fun _ => ⟨fun _ => ⟨fun q' => absurd q' e72, fun _ => ⟨fun q' => absurd q' e78, fun _ _ => ⟨fun _ q' => absurd rfl q', isB_0⟩⟩⟩, fun q' => absurd rfl q'⟩, fun _ => rfl, fun s' q' => (by cases q')⟩
              | true =>
                obtain ⟨d1, d2⟩ := dig_t.mp hd
                have hx : b - 48 < 10 := by omega
                rw [if_neg bI_tn, if_pos rfl, sb_val b hb hd]
                unfold ok_X5_isTold F_X5_isTold
                rw [isHour_nI hx, if_neg i10, nI_clamp (by omega), hr _ hx]
                have hv : vp_in (nI (b - 48)) 10 := vp_in_nI hx (by decide)
                cases ha : s.2.2.2.2 (b - 48) with
                | none =>
                  have ea : aI none = -9 := rfl
                  rw [if_pos ea, if_pos rfl]
                  dsimp only
                  unfold ok_X6_takes_b92 F_X6_takes_b92
                  refine ⟨fun _ => ⟨fun _ => ⟨fun q' => absurd q' e72, fun _ => ⟨fun q' => absurd q' e78, fun _ _ => ⟨fun _ _ _ => hv, isB_1⟩⟩⟩, fun q' => absurd rfl q'⟩, fun q' => (by cases q'), fun s' q' => ?_⟩
                  have := Option.some.inj q'
                  rw [← this]
                  exact ⟨ac, rfl, hr, hk.1, fun h q => by have := Option.some.inj q; rw [← this]; exact ⟨hx, ha⟩, hk.2.2⟩
                | some x =>
                  have ea : ¬ aI (some x) = -9 := nI_ne9 (by have := hk.1 _ _ ha; omega)
                  rw [if_neg ea, if_neg i10]
                  dsimp only
                  unfold ok_X6_takes_b92 F_X6_takes_b92
                  exact ⟨fun _ => ⟨fun _ => ⟨fun q' => absurd q' e72, fun _ => ⟨fun q' => absurd q' e78, fun _ _ => ⟨fun _ _ _ => hv, isB_0⟩⟩⟩, fun q' => absurd rfl q'⟩, fun _ => rfl, fun s' q' => (by cases q')⟩

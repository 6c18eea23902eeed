/-! moving a session -/
theorem lt0_toInt {x : Int32} : x < 0 ↔ x.toInt < 0 := Int32.lt_iff_toInt_lt
theorem in_0 (x : Int32) {K : Nat} (hK : K < 2 ^ 30) : F_X12_in x.toInt64 0 (lN K) = (if x < 0 then 0 else if nI (K + 1) ≤ x then 0 else 1) := by
  by_cases h0 : x < 0
  · rw [if_pos h0]
    unfold F_X12_in
    have : x.toInt64 < 0 := by
      rw [Int64.lt_iff_toInt_lt, Int32.toInt_toInt64]
      exact lt0_toInt.mp h0
    rw [if_pos ((lg_cmp_lt _ _).mpr this)]
  · obtain ⟨j, hj, rfl⟩ := nI_of h0
    rw [if_neg h0, nI_l hj]
    refine (in_N (a := 0) hj (by decide) (by omega)).trans ?_
    by_cases q : K + 1 ≤ j
    · rw [if_pos (nI_le q hj), decide_eq_false (show ¬ j ≤ K by omega)]; simp [bI]
    · rw [if_neg (nI_ge (by omega) (by omega)), decide_eq_true (show j ≤ K by omega), decide_eq_true (Nat.zero_le _)]; rfl
theorem in_09 (x : Int32) : F_X12_in x.toInt64 0 9 = F_X11_isHour x := by
  refine (in_0 x (K := 9) (by decide)).trans ?_
  unfold F_X11_isHour
  rfl
def mvc (c : Cl) (s h : Nat) : Cl := fun f i => if f = 3 ∧ i = s then h else if f = 4 ∧ i = s then h + (kT c s - kF c s) else c f i
theorem mvc_F (c : Cl) (s h i : Nat) : kF (mvc c s h) i = if i = s then h else kF c i := by
  unfold kF mvc
  by_cases q : i = s
  · rw [if_pos ⟨rfl, q⟩, if_pos q]
  · rw [if_neg (fun z => q z.2), if_neg (fun z => q z.2), if_neg q]
theorem mvc_T (c : Cl) (s h i : Nat) : kT (mvc c s h) i = if i = s then h + (kT c s - kF c s) else kT c i := by
  show mvc c s h 4 i = _
  unfold mvc
  by_cases q : i = s
  · rw [if_neg (fun z => by omega), if_pos ⟨rfl, q⟩, if_pos q]
  · rw [if_neg (fun z => q z.2), if_neg (fun z => q z.2), if_neg q]; rfl
theorem WF_mvc {c : Cl} (w : WF c) {s h : Nat} (hs : s < kS c) (he : h + (kT c s - kF c s) ≤ 9) : WF (mvc c s h) := by
  refine ⟨w.1, w.2.1, fun i hi => ?_, w.2.2.2.1, w.2.2.2.2.1, w.2.2.2.2.2⟩
  have hi' : i < kS c := hi
  obtain ⟨a, b, d⟩ := w.ss hi'
  refine ⟨a, ?_⟩
  rw [mvc_F, mvc_T]
  by_cases q : i = s
  · rw [if_pos q, if_pos q]; omega
  · rw [if_neg q, if_neg q]; exact ⟨b, d⟩
theorem mvc_back {c : Cl} (w : WF c) {s h : Nat} (hs : s < kS c) : mvc (mvc c s h) s (kF c s) = c := by
  have hw := w.ss hs
  funext f i
  show (if f = 3 ∧ i = s then kF c s else if f = 4 ∧ i = s then kF c s + (kT (mvc c s h) s - kF (mvc c s h) s) else mvc c s h f i) = c f i
  by_cases q3 : f = 3 ∧ i = s
  · rw [if_pos q3, q3.1, q3.2]; rfl
  · rw [if_neg q3]
    by_cases q4 : f = 4 ∧ i = s
    · rw [if_pos q4, mvc_F, mvc_T, if_pos rfl, if_pos rfl, q4.1, q4.2]
      show _ = kT c s
      omega
    · rw [if_neg q4]
      show (if f = 3 ∧ i = s then h else if f = 4 ∧ i = s then _ else c f i) = c f i
      rw [if_neg q3, if_neg q4]
/-- a session bars a move -/
def cfl (c : Cl) (s h o : Nat) : Bool := decide (¬ o = s) && (decide (kW c o = kW c s) && (decide (kF c o ≤ h + (kT c s - kF c s)) && decide (h ≤ kT c o)))
def mb (c : Cl) (s h : Nat) : Bool := decide (h + (kT c s - kF c s) ≤ 9) && (lo (cfl c s h) 0 (kS c)).isNone
theorem Nx_congr {f g : Nat → Int32} (h : ∀ j, j < 10 → f j = g j) (i : Nat) : Nx f i = Nx g i := by
  unfold Nx
  have e : lo (fun j => decide (¬ f (j % 10) = -9)) i (20 - i) = lo (fun j => decide (¬ g (j % 10) = -9)) i (20 - i) := lo_congr (fun j _ _ => by rw [h (j % 10) (Nat.mod_lt _ (by decide))])
  rw [e]
  cases lo (fun j => decide (¬ g (j % 10) = -9)) i (20 - i) with
  | none => rfl
  | some j => exact h (j % 10) (Nat.mod_lt _ (by decide))
def Fx (c : Cl) (fi la : Nat → Int32) : Prop := ∀ s, s < kS c → fi s = nI (kF c s) ∧ la s = nI (kT c s)
/-- what arrange lays -/
def Ar (c : Cl) (be en co nc : Nat → Int32) : Prop := ∀ h, h < 10 → be h = beg c h ∧ en h = fin c h ∧ co h = pv (fun s => nI (kW c s)) (fa c h) ∧ nc h = Nx (fun h => pv (fun s => nI (kW c s)) (fa c h)) (h + 1)
theorem arr_X {c : Cl} (w : WF c) {pr fi la : Nat → Int32} (hp : ∀ s, s < kS c → pr s = nI (kW c s)) (hf : Fx c fi la) (be en co nc : Nat → Int32) : ok_X1_arrange (nI (kS c)) pr fi la be en co nc ∧ ∃ be' en' co' nc', F_X1_arrange (nI (kS c)) pr fi la be en co nc = (be', en', co', nc') ∧ Ar c be' en' co' nc' := by
  obtain ⟨a1, a2, a3, a4⟩ := arr_eq w.s8 pr fi la be en co nc (kF c) (kT c) (fun s hs => ⟨(hf s hs).1, by have := w.ss hs; omega⟩) (fun s hs => ⟨(hf s hs).2, by have := w.ss hs; omega⟩)
  generalize hq : F_X1_arrange (nI (kS c)) pr fi la be en co nc = q at a1 a2 a3 a4
  refine ⟨arr_ok w.s8 pr fi la be en co nc, q.1, q.2.1, q.2.2.1, q.2.2.2, rfl, fun h hh => ?_⟩
  have e3 : ∀ j, j < 10 → q.2.2.1 j = pv (fun s => nI (kW c s)) (fa c j) := by
    intro j hj
    rw [a3 j hj]
    show pv pr (fa c j) = _
    cases e : fa c j with
    | none => rfl
    | some s => exact hp s (fa_some e).1
  refine ⟨?_, ?_, e3 h hh, ?_⟩
  · exact bt_ext (fun i => by rw [a1 h hh i, bt_beg w])
  · exact bt_ext (fun i => by rw [a2 h hh i, bt_fin w])
  · rw [a4 h hh]
    exact Nx_congr e3 (h + 1)
section MX1
variable {c : Cl} {pe se pl ow : Int32} {pr mi ri oF oL ho be en co nc : Nat → Int32}
theorem isSession_nI {n s : Nat} (hn : n ≤ 8) (hs : s < n) : F_X1_isSession (nI n) (nI s) = 1 := by
  unfold F_X1_isSession
  rw [if_neg (nI_pos (by omega)), if_neg (nI_ge hs (by omega)), if_neg (le_lit (K := 8) 8 rfl (by omega) (by decide))]
theorem mb_loop {c : Cl} (w : WF c) {pr fi la : Nat → Int32} (hp : ∀ s, s < kS c → pr s = nI (kW c s)) (hf : Fx c fi la) {s h : Nat} (hs : s < kS c) (hh : h < 10) (kx : Int32) : ∀ n o, o ≤ kS c → kS c < o + n →
    ok_X1_mayBegin_L44 (nI (kS c)) pr fi la (nI s) (nI h) (nI (h + (kT c s - kF c s))) n (nI o) ∧ F_X1_mayBegin_L44 (nI (kS c)) pr fi la (nI s) (nI h) kx (nI (h + (kT c s - kF c s))) n (nI o) = if (lo (cfl c s h) o (kS c - o)).isNone = true then kx else 0 := by
  have hS := w.s8
  have hN := w.n6
  have hws := w.ss hs
  intro n
  induction n with
  | zero => intro o h1 h2; omega
  | succ n ih =>
    intro o h1 h2
    rw [ok_X1_mayBegin_L44_s, F_X1_mayBegin_L44_s]
    by_cases e : o = kS c
    · subst e
      rw [if_pos (Int32.le_refl _), lo_end, if_pos (show (none : Option Nat).isNone = true from rfl)]
      exact ⟨fun q => absurd (Int32.le_refl _) q, rfl⟩
    · have ho : o < kS c := by omega
      have hwo := w.ss ho
      obtain ⟨g1, g2⟩ := ih (o + 1) (by omega) (by omega)
      have hv : vp_in (nI o) 8 := vp_in_nI (by omega) (by decide)
      have hv2 : vp_in (nI s) 8 := vp_in_nI (by omega) (by decide)
      rw [if_neg (nI_ge ho (by omega)), nI_1, nI_clamp (by omega), nI_clamp (by omega), hp o ho, hp s hs, (hf o ho).1, (hf o ho).2, g2, lo_at ho]
      refine ⟨fun _ => ⟨fun _ => g1, fun _ => ⟨hv, hv2, fun _ => ⟨hv, fun _ => g1, fun _ => ⟨hv, fun _ => g1⟩⟩, fun _ => g1⟩⟩, ?_⟩
      have hno : cfl c s h o = false → (if (lo (cfl c s h) (o + 1) (kS c - (o + 1))).isNone = true then kx else 0) = if (if cfl c s h o = true then some o else lo (cfl c s h) (o + 1) (kS c - (o + 1))).isNone = true then kx else 0 := fun q => by rw [q, if_neg nft]
      by_cases q1 : o = s
      · rw [if_pos (by rw [q1])]
        exact hno (by unfold cfl; simp [q1])
      · rw [if_neg (fun z => q1 ((nI_eq (by omega) (by omega)).mp z))]
        by_cases q2 : kW c o = kW c s
        · rw [if_pos (by rw [q2])]
          by_cases q3 : kF c o ≤ h + (kT c s - kF c s)
          · rw [if_neg (nI_nlt q3 (by omega))]
            by_cases q4 : h ≤ kT c o
            · rw [if_neg (nI_nlt q4 (by omega))]
              have : cfl c s h o = true := by unfold cfl; simp [q1, q2, q3, q4]
              rw [if_pos this, if_neg (by simp)]
            · rw [if_pos (nI_lt (by omega) (by omega))]
              exact hno (by unfold cfl; simp [q4])
          · rw [if_pos (nI_lt (by omega) (by omega))]
            exact hno (by unfold cfl; simp [q3])
        · rw [if_neg (fun z => q2 ((nI_eq (by omega) (by omega)).mp z))]
          exact hno (by unfold cfl; simp [q2])
theorem mb_X {c : Cl} (w : WF c) {pr fi la : Nat → Int32} (hp : ∀ s, s < kS c → pr s = nI (kW c s)) (hf : Fx c fi la) {s : Nat} (hs : s < kS c) {h : Nat} (hh : h < 10) : ok_X1_mayBegin (nI (kS c)) pr fi la (nI s) (nI h) ∧ F_X1_mayBegin (nI (kS c)) pr fi la (nI s) (nI h) = bI (mb c s h) := by
  have hS := w.s8
  have hws := w.ss hs
  have hv : vp_in (nI s) 8 := vp_in_nI (by omega) (by decide)
  obtain ⟨g1, g2⟩ := mb_loop w hp hf hs hh 1 FU 0 (Nat.zero_le _) (by have := FU_ge; omega)
  rw [nI_0, Nat.sub_zero] at g2
  rw [nI_0] at g1
  have ee : nI h + la s - fi s = nI (h + (kT c s - kF c s)) := by
    rw [(hf s hs).1, (hf s hs).2, nI_add, pk_sub (by omega)]
    congr 1; omega
  unfold ok_X1_mayBegin F_X1_mayBegin F_X1_mayBegin_b105 mb
  rw [isSession_nI hS hs, isHour_nI hh, if_neg i10, if_neg i10, nI_clamp (by omega), ee, g2]
  refine ⟨fun _ _ => ⟨hv, hv, fun _ => g1⟩, ?_⟩
  by_cases q : h + (kT c s - kF c s) ≤ 9
  · rw [if_pos (show nI (h + (kT c s - kF c s)) < (10 : Int32) from nI_lt (b := 10) (by omega) (by decide)), decide_eq_true q, Bool.true_and]
    cases (lo (cfl c s h) 0 (kS c)).isNone <;> rfl
  · rw [if_neg (show ¬ nI (h + (kT c s - kF c s)) < (10 : Int32) from nI_nlt (b := 10) (by omega) (by omega)), decide_eq_false q]; rfl
theorem mb_Xn {se : Int32} {pr fi la : Nat → Int32} {x1 x : Int32} (h : F_X11_isHour x = 0) : ok_X1_mayBegin se pr fi la x1 x ∧ F_X1_mayBegin se pr fi la x1 x = 0 := by
  unfold ok_X1_mayBegin F_X1_mayBegin
  rw [h, if_pos rfl, ite_self]
  exact ⟨fun _ q => absurd rfl q, rfl⟩
theorem beg_X (R : RX c pe se pl ow pr mi ri oF oL ho be en co nc) {fi la : Nat → Int32} (hf : Fx c fi la) {s h : Nat} (hs : s < kS c) (he : h + (kT c s - kF c s) ≤ 9) :
    ok_X1_beginAt se pr fi la be en co nc (nI s) (nI h) ∧ ∃ fi' la' be' en' co' nc', F_X1_beginAt se pr fi la be en co nc (nI s) (nI h) = (fi', la', be', en', co', nc') ∧ RX (mvc c s h) pe se pl ow pr mi ri oF oL ho be' en' co' nc' ∧ Fx (mvc c s h) fi' la' := by
  have w := R.1
  have hS := w.s8
  have hws := w.ss hs
  have w' := WF_mvc w hs he
  have hv : vp_in (nI s) 8 := vp_in_nI (by omega) (by decide)
  have el : la s + (nI h - fi s) = nI (h + (kT c s - kF c s)) := by
    rw [(hf s hs).1, (hf s hs).2]
    have : nI (kT c s) + (nI h - nI (kF c s)) = nI (kT c s) + nI h - nI (kF c s) := by
      rw [Int32.sub_eq_add_neg, Int32.sub_eq_add_neg, Int32.add_assoc]
    rw [this, nI_add, pk_sub (by omega)]
    congr 1; omega
  have hf' : Fx (mvc c s h) (upd fi s (nI h)) (upd la s (nI (h + (kT c s - kF c s)))) := by
    intro i hi
    rw [mvc_F, mvc_T]
    by_cases q : i = s
    · rw [q, pk_us, pk_us, if_pos rfl, if_pos rfl]; exact ⟨rfl, rfl⟩
    · rw [pk_un q, pk_un q, if_neg q, if_neg q]; exact hf i hi
  obtain ⟨a1, be', en', co', nc', a2, a3⟩ := arr_X w' (pr := pr) (fun i hi => R.2.2.2.2.2.1 i hi) hf' be en co nc
  have a2' : F_X1_arrange (nI (kS c)) pr (upd fi s (nI h)) (upd la s (nI (h + (kT c s - kF c s)))) be en co nc = (be', en', co', nc') := a2
  unfold ok_X1_beginAt F_X1_beginAt
  rw [R.2.2.1, isSession_nI hS hs, if_neg i10, nI_clamp (by omega), el, a2']
  refine ⟨fun _ => ⟨hv, hv, hv, hv, a1⟩, _, _, be', en', co', nc', rfl, ⟨w', R.2.1, rfl, R.2.2.2.1, R.2.2.2.2.1, R.2.2.2.2.2.1, R.2.2.2.2.2.2.1, R.2.2.2.2.2.2.2.1, R.2.2.2.2.2.2.2.2.1, a3⟩, hf'⟩
end MX1
section MY1
variable {c : Cl} {se ow : Int32} {wh fr to th mi ri op sh ho : Nat → Int32}
theorem my_loop (R : RY c se ow wh fr to th mi ri op sh ho) {s h : Nat} (hs : s < kS c) (hh : h < 10) : ∀ n o, o ≤ kS c → kS c < o + n →
    ok_X12_mayBegin_L42 se wh fr to (nI s) (nI h) (nI (h + (kT c s - kF c s))) n (bI (lo (cfl c s h) 0 o).isNone) (nI o) ∧ F_X12_mayBegin_L42 se wh fr to (nI s) (nI h) (nI (h + (kT c s - kF c s))) n (bI (lo (cfl c s h) 0 o).isNone) (nI o) = bI (lo (cfl c s h) 0 (kS c)).isNone := by
  have w := R.1
  have hS := w.s8
  have hN := w.n6
  have hws := w.ss hs
  intro n
  induction n with
  | zero => intro o h1 h2; omega
  | succ n ih =>
    intro o h1 h2
    rw [ok_X12_mayBegin_L42_s, F_X12_mayBegin_L42_s, R.2.1]
    by_cases e : o = kS c
    · subst e
      rw [if_pos (Int32.le_refl _)]
      exact ⟨fun q => absurd (Int32.le_refl _) q, rfl⟩
    · have ho : o < kS c := by omega
      have hwo := w.ss ho
      obtain ⟨g1, g2⟩ := ih (o + 1) (by omega) (by omega)
      have hv : vp_in (nI o) 8 := vp_in_nI (by omega) (by decide)
      have hv2 : vp_in (nI s) 8 := vp_in_nI (by omega) (by decide)
      obtain ⟨x1, x2, x3⟩ := R.2.2.2.1 o ho
      obtain ⟨z1, z2, z3⟩ := R.2.2.2.1 s hs
      have ev : (if bI (lo (cfl c s h) 0 o).isNone = 0 then (0 : Int32) else (if nI o = nI s then 1 else (if nI (kW c o) = nI (kW c s) then (if nI (kT c o) < nI h then 1 else (if nI (kF c o) ≤ nI (h + (kT c s - kF c s)) then 0 else 1)) else 1))) = bI (lo (cfl c s h) 0 (o + 1)).isNone := by
        cases el : lo (cfl c s h) 0 o with
        | some t => rw [lo_ss _ el]; rfl
        | none =>
          rw [lo_sn _ el]
          have e1 : ¬ bI (none : Option Nat).isNone = 0 := by decide
          rw [if_neg e1]
          by_cases q1 : o = s
          · rw [if_pos (by rw [q1]), if_neg (by unfold cfl; simp [q1])]; rfl
          · rw [if_neg (fun z => q1 ((nI_eq (by omega) (by omega)).mp z))]
            by_cases q2 : kW c o = kW c s
            · rw [if_pos (by rw [q2])]
              by_cases q4 : h ≤ kT c o
              · rw [if_neg (nI_nlt q4 (by omega))]
                by_cases q3 : kF c o ≤ h + (kT c s - kF c s)
                · rw [if_pos (nI_le q3 (by omega)), if_pos (by unfold cfl; simp [q1, q2, q3, q4])]; rfl
                · rw [if_neg (nI_ge (by omega) (by omega)), if_neg (by unfold cfl; simp [q3])]; rfl
              · rw [if_pos (nI_lt (by omega) (by omega)), if_neg (by unfold cfl; simp [q4])]; rfl
            · rw [if_neg (fun z => q2 ((nI_eq (by omega) (by omega)).mp z)), if_neg (by unfold cfl; simp [q2])]; rfl
      rw [if_neg (nI_ge ho (by omega)), nI_clamp (by omega), nI_clamp (by omega), x1, x2, x3, z1, ev]
      dsimp only
      unfold ok_X12_mayBegin_42_b107 F_X12_mayBegin_42_b107
      rw [nI_1]
      rw [R.2.1] at g1 g2
      exact ⟨fun _ => ⟨fun _ _ => ⟨hv, hv2, fun _ => ⟨hv, fun _ => hv⟩⟩, g1⟩, g2⟩
theorem mb_Y (R : RY c se ow wh fr to th mi ri op sh ho) {s : Nat} (hs : s < kS c) {h : Nat} (hh : h < 10) : ok_X12_mayBegin se wh fr to (nI s) (nI h) ∧ F_X12_mayBegin se wh fr to (nI s) (nI h) = bI (mb c s h) := by
  have w := R.1
  have hS := w.s8
  have hws := w.ss hs
  have hv : vp_in (nI s) 8 := vp_in_nI (by omega) (by decide)
  obtain ⟨g1, g2⟩ := my_loop R hs hh FU 0 (Nat.zero_le _) (by have := FU_ge; omega)
  have g2' : F_X12_mayBegin_L42 se wh fr to (nI s) (nI h) (nI (h + (kT c s - kF c s))) FU 1 0 = bI (lo (cfl c s h) 0 (kS c)).isNone := g2
  have g1' : ok_X12_mayBegin_L42 se wh fr to (nI s) (nI h) (nI (h + (kT c s - kF c s))) FU 1 0 := g1
  have ee : nI h + to s - fr s = nI (h + (kT c s - kF c s)) := by
    rw [(R.2.2.2.1 s hs).2.1, (R.2.2.2.1 s hs).2.2, nI_add, pk_sub (by omega)]
    congr 1; omega
  unfold ok_X12_mayBegin F_X12_mayBegin mb
  rw [in_09, isHour_nI hh, if_neg i10, nI_clamp (by omega), ee, g2']
  dsimp only
  unfold ok_X12_mayBegin_b113 F_X12_mayBegin_b113
  refine ⟨⟨hv, hv, fun _ _ => ⟨g1', isB_bI _⟩⟩, ?_⟩
  by_cases q : h + (kT c s - kF c s) ≤ 9
  · rw [if_pos (show nI (h + (kT c s - kF c s)) ≤ (9 : Int32) from nI_le (b := 9) q (by decide)), decide_eq_true q, Bool.true_and]
  · rw [if_neg (show ¬ nI (h + (kT c s - kF c s)) ≤ (9 : Int32) from nI_ge (a := 9) (by omega) (by omega)), decide_eq_false q]; rfl
theorem mb_Yn {s : Nat} (hs : s < 8) {x : Int32} (h : F_X11_isHour x = 0) : ok_X12_mayBegin se wh fr to (nI s) x ∧ F_X12_mayBegin se wh fr to (nI s) x = 0 := by
  have hv : vp_in (nI s) 8 := vp_in_nI hs (by decide)
  unfold ok_X12_mayBegin F_X12_mayBegin
  rw [in_09, h, if_pos rfl]
  exact ⟨⟨hv, hv, fun q => absurd rfl q⟩, rfl⟩
theorem put_Y (R : RY c se ow wh fr to th mi ri op sh ho) {s h : Nat} (hs : s < kS c) (he : h + (kT c s - kF c s) ≤ 9) : ok_X12_putAt (nI s) ∧ ∃ fr' to', F_X12_putAt fr to (nI s) (nI h) = (fr', to') ∧ RY (mvc c s h) se ow wh fr' to' th mi ri op sh ho := by
  have w := R.1
  have hS := w.s8
  have hws := w.ss hs
  have w' := WF_mvc w hs he
  have hv : vp_in (nI s) 8 := vp_in_nI (by omega) (by decide)
  have el : to s + (nI h - fr s) = nI (h + (kT c s - kF c s)) := by
    rw [(R.2.2.2.1 s hs).2.1, (R.2.2.2.1 s hs).2.2]
    have : nI (kT c s) + (nI h - nI (kF c s)) = nI (kT c s) + nI h - nI (kF c s) := by
      rw [Int32.sub_eq_add_neg, Int32.sub_eq_add_neg, Int32.add_assoc]
    rw [this, nI_add, pk_sub (by omega)]
    congr 1; omega
  unfold ok_X12_putAt F_X12_putAt
  rw [nI_clamp (by omega), el]
  refine ⟨⟨hv, hv, hv, hv⟩, _, _, rfl, w', R.2.1, R.2.2.1, fun i hi => ?_, R.2.2.2.2.1, R.2.2.2.2.2⟩
  obtain ⟨a, b, d⟩ := R.2.2.2.1 i hi
  rw [mvc_F, mvc_T]
  refine ⟨a, ?_⟩
  by_cases q : i = s
  · rw [q, pk_us, pk_us, if_pos rfl, if_pos rfl]; exact ⟨rfl, rfl⟩
  · rw [pk_un q, pk_un q, if_neg q, if_neg q]; exact ⟨b, d⟩
end MY1

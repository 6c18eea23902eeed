/-! steps while nobody has stood -/
def bgb (c : Cl) (k : Nat) : Bool := (decide (k < 4) && kP c k) || (decide (10 ≤ k) && decide (k < 10 + kN c))
theorem bgb_iff {c : Cl} {k : Nat} : bgb c k = true ↔ Bg c k := by
  unfold bgb Bg
  simp only [Bool.or_eq_true, Bool.and_eq_true, decide_eq_true_eq]
def zg (c : Cl) (h k : Nat) : Zt := (k, gng c h, 0)
def ps (c : Cl) (h k : Nat) : Bool := if k = 20 then decide (¬ gng c h = 0) else bgb c k
theorem ps_ZI {c : Cl} (w : WF c) {h k : Nat} (hp : ps c h k = true) : ZI c (zg c h k) := by
  refine ⟨?_, Sb_gng w h, Sb_0 c⟩
  unfold ps at hp
  by_cases q : k = 20
  · rw [if_pos q, decide_eq_true_eq] at hp
    exact Or.inr ⟨q, hp⟩
  · rw [if_neg q] at hp
    exact Or.inl (bgb_iff.mp hp)
theorem ps_vk {c : Cl} (w : WF c) {h k : Nat} (hp : ps c h k = true) : Vk k := by
  unfold ps at hp
  by_cases q : k = 20
  · exact Or.inr (Or.inr q)
  · rw [if_neg q] at hp
    exact (bgb_iff.mp hp).vk w
theorem ZI_ps {c : Cl} (w : WF c) {h : Nat} {z : Zt} (hz : ZI c z) (e : z.2.1 = gng c h) : ps c h z.1 = true := by
  unfold ps
  rcases hz.1 with q | ⟨q, q2⟩
  · have := q.lt16 w
    rw [if_neg (by omega)]
    exact bgb_iff.mpr q
  · rw [if_pos q, decide_eq_true_eq, ← e]; exact q2
theorem zn0 {c : Cl} (w : WF c) {h : Nat} {z : Zt} (hz : ZI c z) (h0 : zn c h z = 0) : zS c h z = 0 := by
  have hs : Sb c (zS c h z) := (cin_ZI w (h := h) hz).2.2
  apply bt_eq0.mpr
  intro i
  cases hb : bt (zS c h z) i with
  | false => rfl
  | true =>
    have := pcn_zero.mp h0 i (hs.b8 w i hb)
    rw [this] at hb; cases hb
theorem st_zg {c : Cl} (w : WF c) {h a k : Nat} {fg : Bool} (hp : ps c h k = true) (h0 : zn c h (zg c h k) = 0) : zN c h a fg (zg c h k) = zg c (h + 1) (zN c h a fg (zg c h k)).1 ∧ ps c (h + 1) (zN c h a fg (zg c h k)).1 = true := by
  have hz := ps_ZI w hp
  have hS := zn0 w hz h0
  have ho : (zN c h a fg (zg c h k)).2.2 = 0 := by
    show zS c h (zg c h k) &&& (fin c h ^^^ (-1)) = 0
    rw [hS]
    exact bt_ext (fun i => by rw [b_and, b_0]; rfl)
  have hi : (zN c h a fg (zg c h k)).2.1 = gng c (h + 1) := by
    have e := zN_or c h a fg (zg c h k)
    rw [ho, or_zero] at e
    rw [e]
    show ((gng c h ||| 0) ||| beg c h) &&& (fin c h ^^^ (-1)) = _
    rw [or_zero, gng_step w]
  refine ⟨?_, ZI_ps w (zN_ZI w hz) hi⟩
  exact Prod.ext rfl (Prod.ext hi ho)
/-- where the key is then, if nobody stood -/
def st (c : Cl) (h a k : Nat) : Option Nat := if (ps c h k && decide (zn c h (zg c h k) = 0)) = true then some (zN c h a false (zg c h k)).1 else none
def sI : Option Nat → Int32
  | none => -9
  | some k => nI (sp k)
def pz (c : Cl) (h a k : Nat) : Nat := zw c h a false (zg c h k)
def rz (c : Cl) (h k : Nat) : Nat := zr c h (zg c h k)
def aq (c : Cl) (h k : Nat) : Bool := ps c h k && za c h 0 false (zg c h k)
theorem st_some {c : Cl} (w : WF c) {h a k k' : Nat} (e : st c h a k = some k') : ps c h k = true ∧ zn c h (zg c h k) = 0 ∧ zN c h a false (zg c h k) = zg c (h + 1) k' ∧ ps c (h + 1) k' = true := by
  unfold st at e
  by_cases q : (ps c h k && decide (zn c h (zg c h k) = 0)) = true
  · rw [if_pos q] at e
    rw [Bool.and_eq_true, decide_eq_true_eq] at q
    have e' := Option.some.inj e
    obtain ⟨g1, g2⟩ := st_zg w (a := a) (fg := false) q.1 q.2
    rw [e'] at g1 g2
    exact ⟨q.1, q.2, g1, g2⟩
  · rw [if_neg q] at e; cases e
theorem st_na {c : Cl} {h k : Nat} (e : za c h 0 false (zg c h k) = false) (a a' : Nat) : st c h a k = st c h a' k ∧ pz c h a k = pz c h a' k := by
  have e1 : za c h a false (zg c h k) = false := by rw [za_ind c h a 0 false false]; exact e
  obtain ⟨g1, g2⟩ := zN_na (a' := a') (fg' := false) e1
  unfold st pz
  rw [g1, g2]
  exact ⟨rfl, rfl⟩
def kw (s : Nat) : Nat := if s < 4 then s else if s < 10 then s + 6 else 20
theorem kw_all : ∀ s, s < 11 → (kw s < 4 ∨ (10 ≤ kw s ∧ kw s < 16) ∨ kw s = 20) ∧ sp (kw s) = s := by decide
theorem Vk_kw {s : Nat} (h : s < 11) : Vk (kw s) := (kw_all s h).1
theorem sp_kw {s : Nat} (h : s < 11) : sp (kw s) = s := (kw_all s h).2
theorem kw_sp {k : Nat} (h : Vk k) : kw (sp k) = k := sp_inj (Vk_kw (by have := sp_le k; omega)) h (sp_kw (by have := sp_le k; omega))
/-- an entry of the class's table -/
def EN (c : Cl) (i : Nat) (nx wk rk at' : Nat → Int32) : Prop := (∀ a, a < 6 → nx (i * 6 + a) = sI (st c (i / 11) a (kw (i % 11))) ∧ (ps c (i / 11) (kw (i % 11)) = true → wk (i * 6 + a) = nI (pz c (i / 11) a (kw (i % 11))))) ∧ (ps c (i / 11) (kw (i % 11)) = true → rk i = nI (rz c (i / 11) (kw (i % 11)))) ∧ at' i = bI (aq c (i / 11) (kw (i % 11)))
def FR (i : Nat) (nx wk rk at' nx' wk' rk' at'' : Nat → Int32) : Prop := ∀ j, ¬ j = i → (∀ a, a < 6 → nx' (j * 6 + a) = nx (j * 6 + a) ∧ wk' (j * 6 + a) = wk (j * 6 + a)) ∧ rk' j = rk j ∧ at'' j = at' j
theorem EN_FR {c : Cl} {i j : Nat} {nx wk rk at' nx' wk' rk' at'' : Nat → Int32} (h : FR i nx wk rk at' nx' wk' rk' at'') (hj : ¬ j = i) (e : EN c j nx wk rk at') : EN c j nx' wk' rk' at'' := by
  obtain ⟨f1, f2, f3⟩ := h j hj
  obtain ⟨e1, e2, e3⟩ := e
  refine ⟨fun a ha => ?_, fun q => ?_, ?_⟩
  · rw [(f1 a ha).1, (f1 a ha).2]; exact e1 a ha
  · rw [f2]; exact e2 q
  · rw [f3]; exact e3
theorem FR_refl (i : Nat) (nx wk rk at' : Nat → Int32) : FR i nx wk rk at' nx wk rk at' := fun j _ => ⟨fun a _ => ⟨rfl, rfl⟩, rfl, rfl⟩
theorem FR_trans {i : Nat} {nx wk rk at' nx1 wk1 rk1 at1 nx2 wk2 rk2 at2 : Nat → Int32} (h1 : FR i nx wk rk at' nx1 wk1 rk1 at1) (h2 : FR i nx1 wk1 rk1 at1 nx2 wk2 rk2 at2) : FR i nx wk rk at' nx2 wk2 rk2 at2 := fun j hj => by
  obtain ⟨a1, a2, a3⟩ := h1 j hj
  obtain ⟨b1, b2, b3⟩ := h2 j hj
  refine ⟨fun a ha => ⟨(b1 a ha).1.trans (a1 a ha).1, (b1 a ha).2.trans (a1 a ha).2⟩, b2.trans a2, b3.trans a3⟩
theorem FR_upd {i a : Nat} (ha : a < 6) (nx wk rk at' : Nat → Int32) (x y u v : Int32) : FR i nx wk rk at' (upd nx (i * 6 + a) x) (upd wk (i * 6 + a) y) (upd rk i u) (upd at' i v) := fun j hj => by
  refine ⟨fun b hb => ?_, pk_un hj, pk_un hj⟩
  rw [pk_un (by omega), pk_un (by omega)]
  exact ⟨rfl, rfl⟩
theorem FR_upd2 {i a : Nat} (ha : a < 6) (nx wk rk at' : Nat → Int32) (x y : Int32) : FR i nx wk rk at' (upd nx (i * 6 + a) x) (upd wk (i * 6 + a) y) rk at' := fun j hj => by
  refine ⟨fun b hb => ?_, rfl, rfl⟩
  rw [pk_un (by omega), pk_un (by omega)]
  exact ⟨rfl, rfl⟩
theorem FR_upd1 {i a : Nat} (ha : a < 6) (nx wk rk at' : Nat → Int32) (x : Int32) : FR i nx wk rk at' (upd nx (i * 6 + a) x) wk rk at' := fun j hj => by
  refine ⟨fun b hb => ?_, rfl, rfl⟩
  rw [pk_un (by omega)]
  exact ⟨rfl, rfl⟩
theorem FR_updA {i : Nat} (nx wk rk at' : Nat → Int32) (x : Int32) : FR i nx wk rk at' nx wk rk (upd at' i x) := fun j hj => ⟨fun b hb => ⟨rfl, rfl⟩, rfl, pk_un hj⟩
theorem nar_b (b : Bool) : vp_nar .boolean (bI b) = bI b := by cases b <;> rfl
theorem gng_ne9 {c : Cl} (w : WF c) (h : Nat) : ¬ gng c h = (-9 : Int32) := by
  obtain ⟨n, h1, h2⟩ := small8 ((Sb_gng w h).b8 w)
  rw [h2]
  exact nI_ne9 (by omega)
section ST1
variable {c : Cl} {pe se pl ow : Int32} {pr mi ri oF oL ho be en co nc : Nat → Int32}
theorem isBegin_X (R : RX c pe se pl ow pr mi ri oF oL ho be en co nc) {k : Nat} (hk : k < 2 ^ 30) : F_X1_isBegin pe pl (nI k) = bI (bgb c k) := by
  have wf := R.1
  have h6 := wf.n6
  unfold F_X1_isBegin bgb
  rw [isPlace_X R (by omega)]
  cases hq : (decide (k < 4) && kP c k) with
  | true => rw [if_neg bI_tn, Bool.true_or]; rfl
  | false =>
    rw [if_pos bI_f, Bool.false_or]
    by_cases h10 : 10 ≤ k
    · rw [if_neg (show ¬ nI k < (10 : Int32) from nI_nlt (b := 10) h10 (by omega)), show nI k - (10 : Int32) = nI (k - 10) from pk_sub (b := 10) h10, R.2.1]
      unfold F_X1_isPerson
      rw [if_neg (nI_pos (by omega)), decide_eq_true h10, Bool.true_and]
      by_cases hN : k < 10 + kN c
      · rw [if_neg (nI_ge (by omega) (by omega)), if_neg (le_lit (K := 6) 6 rfl (by omega) (by decide)), if_neg i10, decide_eq_true hN]; rfl
      · rw [if_pos (nI_le (by omega) (by omega)), if_pos rfl, decide_eq_false hN]; rfl
    · rw [if_pos (show nI k < (10 : Int32) from nI_lt (b := 10) (by omega) (by decide)), decide_eq_false h10]; rfl
theorem un_loop {K : Nat} (hK : K ≤ 8) {f l : Nat → Int32} {F T : Nat → Nat} (hf : ∀ s, s < K → f s = nI (F s) ∧ l s = nI (T s) ∧ F s < 10 ∧ T s < 10) {h : Nat} (hh : h < 10) : ∀ n j v, j ≤ K → K < j + n →
    ok_X1_under_L4 (nI K) f l (nI h) n v (nI j) ∧ ∀ i, bt (F_X1_under_L4 (nI K) f l (nI h) n v (nI j)) i = (bt v i || (decide (j ≤ i) && (decide (i < K) && (decide (F i < h) && decide (h ≤ T i))))) := by
  intro n
  induction n with
  | zero => intro j v h1 h2; omega
  | succ n ih =>
    intro j v h1 h2
    rw [ok_X1_under_L4_s, F_X1_under_L4_s]
    by_cases hj : j = K
    · subst hj
      rw [if_pos (Int32.le_refl _)]
      refine ⟨fun q => absurd (Int32.le_refl _) q, fun i => ?_⟩
      by_cases h3 : j ≤ i
      · have : ¬ i < j := by omega
        simp [this]
      · simp [h3]
    · obtain ⟨e1, e2, e3, e4⟩ := hf j (by omega)
      have hv : vp_in (nI j) 8 := vp_in_nI (by omega) (by decide)
      rw [if_neg (nI_ge (by omega) (by omega)), nI_clamp (by omega), nI_1, e1, e2]
      have hno : ∀ i, (F j < h ∧ h ≤ T j → False) → (bt v i || (decide (j + 1 ≤ i) && (decide (i < K) && (decide (F i < h) && decide (h ≤ T i))))) = (bt v i || (decide (j ≤ i) && (decide (i < K) && (decide (F i < h) && decide (h ≤ T i))))) := by
        intro i hq
        by_cases e : i = j
        · subst e
          have : (decide (F i < h) && decide (h ≤ T i)) = false := by
            rw [← Bool.decide_and]; exact decide_eq_false hq
          rw [this]; simp
        · have : (j + 1 ≤ i) ↔ (j ≤ i) := by omega
          simp [this]
      obtain ⟨g1, g2⟩ := ih (j + 1) v (by omega) (by omega)
      obtain ⟨g3, g4⟩ := ih (j + 1) (v ||| ((1 : Int32) <<< (nI j &&& 31))) (by omega) (by omega)
      refine ⟨fun _ => ⟨hv, fun _ => g1, fun _ => ⟨hv, fun _ => g1, fun _ => g3⟩⟩, fun i => ?_⟩
      by_cases h5 : h ≤ F j
      · rw [if_pos (nI_le h5 (by omega)), g2 i]
        exact hno i (fun q => by omega)
      · rw [if_neg (nI_ge (by omega) (by omega))]
        by_cases h6 : T j < h
        · rw [if_pos (nI_lt h6 (by omega)), g2 i]
          exact hno i (fun q => by omega)
        · rw [if_neg (nI_nlt (by omega) (by omega)), g4 i, b_or]
          by_cases hi : i < 32
          · rw [bt_bit (by omega) hi]
            by_cases e : i = j
            · subst e
              have q1 : i < K := by omega
              have q2 : F i < h := by omega
              have q3 : h ≤ T i := by omega
              simp [q1, q2, q3]
            · have : (j + 1 ≤ i) ↔ (j ≤ i) := by omega
              simp [e, this]
          · have : ¬ i < K := by omega
            rw [b_big (x := v) (by omega), b_big (by omega)]
            simp [this]
theorem under_X (R : RX c pe se pl ow pr mi ri oF oL ho be en co nc) {fi la : Nat → Int32} (hf : ∀ s, s < kS c → fi s = nI (kF c s) ∧ la s = nI (kT c s)) {h : Nat} (hh : h < 10) : ok_X1_under se fi la (nI h) ∧ F_X1_under se fi la (nI h) = gng c h := by
  have wf := R.1
  obtain ⟨g1, g2⟩ := un_loop wf.s8 (F := kF c) (T := kT c) (fun s hs => ⟨(hf s hs).1, (hf s hs).2, by have := wf.ss hs; omega, by have := wf.ss hs; omega⟩) hh FU 0 0 (Nat.zero_le _) (by have := FU_ge; have := wf.s8; omega)
  rw [R.2.2.1]
  refine ⟨g1, bt_ext (fun i => ?_)⟩
  rw [bt_gng wf]
  refine (g2 i).trans ?_
  rw [b_0]
  simp
end ST1

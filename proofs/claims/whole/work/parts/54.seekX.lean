/-! ways, by the class -/
section WX4
variable {c : Cl} {nx wk rk at' : Nat → Int32}
/-- what is left stands there from an hour on, and for the first spots of the hour ahead of it -/
def PG (c : Cl) (α β e h s : Nat) (pg : Nat → Int32) : Prop := (∀ g t, h < g → g ≤ 10 → t < 11 → pg (g * 11 + t) = nI (lh c α β e g (kw t))) ∧ (∀ t, t < s → pg (h * 11 + t) = nI (lh c α β e h (kw t)))
theorem al_loop (w : WF c) (T : TB c nx wk rk at') {α β e : Nat} (hα : α ≤ 9) (hβ : β ≤ 9) {h : Nat} (hh : h < 10) : ∀ n s pg, s ≤ 11 → 11 < s + n → PG c α β e h s pg →
    ok_X9_priceAllTo_L22_28 (nI α) (nI β) nx wk rk at' (nI h) n pg (nI s) ∧ PG c α β e h 11 (F_X9_priceAllTo_L22_28 (nI α) (nI β) nx wk rk at' (nI h) n pg (nI s)) := by
  intro n
  induction n with
  | zero => intro s pg h1 h2; omega
  | succ n ih =>
    intro s pg h1 h2 hP
    rw [ok_X9_priceAllTo_L22_28_s, F_X9_priceAllTo_L22_28_s]
    by_cases h11 : s = 11
    · subst h11
      rw [if_pos (show (11 : Int32) ≤ nI 11 by decide)]
      exact ⟨fun q => absurd (by decide) q, hP⟩
    · have hs : s < 11 := by omega
      obtain ⟨l1, l2⟩ := leastAt_X w T hα hβ hh (pg := pg) (L := lh c α β e (h + 1)) (fun k hk => by
        have := hP.1 (h + 1) (sp k) (by omega) (by omega) (by have := sp_le k; omega)
        rw [kw_sp hk] at this
        exact this) (fun k => lh_le _ _ _ _ _ _) (Vk_kw hs)
      rw [sp_kw hs] at l1 l2
      rw [if_neg (le_lit (K := 11) 11 rfl hs (by decide)), ix11, nI_clamp (by omega), l2, nI_1, ← lh_step c α β e hh]
      obtain ⟨g1, g2⟩ := ih (s + 1) (upd pg (h * 11 + s) (nI (lh c α β e h (kw s)))) (by omega) (by omega) ⟨fun g t q1 q2 q3 => by
        rw [pk_un (by omega)]; exact hP.1 g t q1 q2 q3, fun t ht => by
        by_cases q : t = s
        · rw [q, pk_us]
        · rw [pk_un (by omega)]; exact hP.2 t (by omega)⟩
      exact ⟨fun _ => ⟨l1, vp_in_nI (by omega) (by decide), g1⟩, g2⟩
theorem ah_loop (w : WF c) (T : TB c nx wk rk at') {α β e : Nat} (hα : α ≤ 9) (hβ : β ≤ 9) : ∀ n j pg, j ≤ 10 → j < n → (∀ g t, j ≤ g → g ≤ 10 → t < 11 → pg (g * 11 + t) = nI (lh c α β e g (kw t))) →
    ok_X9_priceAllTo_L22 (nI α) (nI β) nx wk rk at' n pg (nI j - 1) ∧ (∀ g t, g ≤ 10 → t < 11 → F_X9_priceAllTo_L22 (nI α) (nI β) nx wk rk at' n pg (nI j - 1) (g * 11 + t) = nI (lh c α β e g (kw t))) := by
  intro n
  induction n with
  | zero => intro j pg h1 h2; omega
  | succ n ih =>
    intro j pg h1 h2 hP
    rw [ok_X9_priceAllTo_L22_s, F_X9_priceAllTo_L22_s]
    cases j with
    | zero =>
      rw [if_pos ((m1_lt 0 (by decide)).mpr rfl)]
      exact ⟨fun q => absurd ((m1_lt 0 (by decide)).mpr rfl) q, fun g t h3 h4 => hP g t (Nat.zero_le _) h3 h4⟩
    | succ j =>
      rw [nI_pred, if_neg (nI_pos (by omega))]
      obtain ⟨g1, g2⟩ := al_loop w T (e := e) hα hβ (h := j) (by omega) FU 0 pg (Nat.zero_le _) (by have := FU_ge; omega) ⟨fun g t q1 q2 q3 => hP g t (by omega) q2 q3, fun t ht => by omega⟩
      rw [nI_0] at g1 g2
      dsimp only
      unfold ok_X9_priceAllTo_22_b57 F_X9_priceAllTo_22_b57
      rw [nI_m1]
      obtain ⟨k1, k2⟩ := ih j (F_X9_priceAllTo_L22_28 (nI α) (nI β) nx wk rk at' (nI j) FU pg 0) (by omega) (by omega) (fun g t q1 q2 q3 => by
        by_cases q : g = j
        · rw [q]; exact g2.2 t q3
        · exact g2.1 g t (by omega) q2 q3)
      exact ⟨fun _ => ⟨g1, k1⟩, k2⟩
theorem all_X (w : WF c) (T : TB c nx wk rk at') {α β e : Nat} (hα : α ≤ 9) (hβ : β ≤ 9) (he : Vk e) (pg : Nat → Int32) :
    ok_X9_priceAllTo (nI α) (nI β) nx wk rk at' pg (nI (sp e)) ∧ (∀ g t, g ≤ 10 → t < 11 → F_X9_priceAllTo (nI α) (nI β) nx wk rk at' pg (nI (sp e)) (g * 11 + t) = nI (lh c α β e g (kw t))) := by
  have hs := sp_le e
  have e110 : (110 : Int32) + nI (sp e) = nI (110 + sp e) := nI_add 110 _
  obtain ⟨g1, g2⟩ := ah_loop w T (e := e) hα hβ FU 10 (upd (fun j => if j < 121 then 1000000 else pg j) (110 + sp e) 0) (Nat.le_refl _) (by have := FU_ge; omega) (fun g t q1 q2 q3 => by
    have hg : g = 10 := by omega
    subst hg
    rw [lh_10]
    by_cases q : t = sp e
    · rw [q, show 10 * 11 + sp e = 110 + sp e by omega, pk_us, kw_sp he, if_pos rfl]; rfl
    · rw [pk_un (by omega), if_pos (by omega), if_neg (fun q2 => q (by rw [← q2, sp_kw q3]))]; rfl)
  unfold ok_X9_priceAllTo F_X9_priceAllTo
  rw [fill_eq 121 (by decide)]
  dsimp only
  unfold ok_X9_priceAllTo_b9 F_X9_priceAllTo_b9
  rw [e110, nI_clamp (by omega)]
  exact ⟨⟨fill_ok 121 (by decide) _ _, vp_in_nI (by omega) (by decide), g1⟩, g2⟩
/-- what is left, as the class has it -/
def PA (c : Cl) (α β e : Nat) (pg : Nat → Int32) : Prop := ∀ g t, g ≤ 10 → t < 11 → pg (g * 11 + t) = nI (lh c α β e g (kw t))
theorem PA.at {α β e : Nat} {pg : Nat → Int32} (h : PA c α β e pg) {g k : Nat} (hg : g ≤ 10) (hk : Vk k) : pg (g * 11 + sp k) = nI (lh c α β e g k) := by
  have := h g (sp k) hg (by have := sp_le k; omega)
  rw [kw_sp hk] at this
  exact this
theorem ca_loop (w : WF c) (T : TB c nx wk rk at') {α β e : Nat} (hα : α ≤ 9) (hβ : β ≤ 9) {pg : Nat → Int32} (hP : PA c α β e pg) {h k x : Nat} (hh : h < 10) (hk : Vk k) : ∀ n a, a < 6 → 6 < a + n → lo (fun a => decide (cst c α β (lh c α β e (h + 1)) h a k = lh c α β e h k)) a (6 - a) = some x →
    ok_X9_chooseActs_L4_20 (nI α) (nI β) nx wk rk pg (nI (sp k)) (nI h) n (nI a) (nI (a + 1)) ∧ F_X9_chooseActs_L4_20 (nI α) (nI β) nx wk rk pg (nI (sp k)) (nI h) n (nI a) (nI (a + 1)) = nI x := by
  have hs := sp_le k
  intro n
  induction n with
  | zero => intro a h1 h2; omega
  | succ n ih =>
    intro a h1 h2 hx
    rw [ok_X9_chooseActs_L4_20_s, F_X9_chooseActs_L4_20_s]
    rw [lo_at (by omega)] at hx
    by_cases h5 : a = 5
    · subst h5
      rw [if_pos (show (6 : Int32) ≤ nI (5 + 1) by decide)]
      refine ⟨fun q => absurd (by decide) q, ?_⟩
      by_cases q : cst c α β (lh c α β e (h + 1)) h 5 k = lh c α β e h k
      · rw [if_pos (by simp [q])] at hx
        have := Option.some.inj hx
        rw [this]
      · rw [if_neg (by simp [q])] at hx
        cases hx
    · obtain ⟨p1, p2⟩ := priceBy_X w T hα hβ hh (pg := pg) (L := lh c α β e (h + 1)) (fun k hk => hP.at (by omega) hk) (fun k => lh_le _ _ _ _ _ _) hk h1
      have hc := cst_le w hα hβ (L := lh c α β e (h + 1)) (fun k => lh_le _ _ _ _ _ _) (h := h) (a := a) (k := k) (by omega)
      have hl := lh_le c α β e h k
      unfold FAR at hc hl
      have hv : vp_in (nI (h * 11 + sp k)) 121 := vp_in_nI (by omega) (by decide)
      have heq : (nI (cst c α β (lh c α β e (h + 1)) h a k) = nI (lh c α β e h k)) ↔ cst c α β (lh c α β e (h + 1)) h a k = lh c α β e h k := nI_eq (by omega) (by omega)
      rw [if_neg (le_lit (K := 6) 6 rfl (by omega) (by decide)), p2, ix11, nI_clamp (by omega), hP.at (by omega) hk]
      by_cases q : cst c α β (lh c α β e (h + 1)) h a k = lh c α β e h k
      · rw [if_pos (by simp [q])] at hx
        have := Option.some.inj hx
        rw [if_pos (heq.mpr q), this]
        exact ⟨fun _ => ⟨this ▸ p1, hv, fun q' => absurd (this ▸ heq.mpr q) q'⟩, rfl⟩
      · rw [if_neg (by simp [q])] at hx
        rw [if_neg (fun q' => q (heq.mp q')), nI_1]
        obtain ⟨g1, g2⟩ := ih (a + 1) (by omega) (by omega) hx
        exact ⟨fun _ => ⟨p1, hv, fun _ => g1⟩, g2⟩
theorem cw_loop (w : WF c) (T : TB c nx wk rk at') {α β e : Nat} (hα : α ≤ 9) (hβ : β ≤ 9) {pg : Nat → Int32} (hP : PA c α β e pg) (he : Bg c e) (hl : lh c α β e 0 e < FAR) : ∀ n h ac, h ≤ 10 → 10 < h + n → (∀ g, g < h → ac g = nI (chA c α β e g (wy c α β e g))) →
    ok_X9_chooseActs_L4 (nI α) (nI β) nx wk rk pg n ac (nI (sp (wy c α β e h))) (nI h) ∧ (∀ g, g < 10 → F_X9_chooseActs_L4 (nI α) (nI β) nx wk rk pg n ac (nI (sp (wy c α β e h))) (nI h) g = nI (chA c α β e g (wy c α β e g))) := by
  intro n
  induction n with
  | zero => intro h ac h1 h2; omega
  | succ n ih =>
    intro h ac h1 h2 hac
    rw [ok_X9_chooseActs_L4_s, F_X9_chooseActs_L4_s]
    have hs := sp_le (wy c α β e h)
    by_cases h10 : h = 10
    · subst h10
      rw [if_pos (show (10 : Int32) ≤ nI 10 by decide)]
      exact ⟨fun q => absurd (by decide) q, hac⟩
    · have hh : h < 10 := by omega
      obtain ⟨y1, y2⟩ := wy_spec w he hl h (by omega)
      obtain ⟨a, k', e1, e2, e3, e4, e5, -⟩ := chA_spec w hh y2
      have hk := ps_vk w y1
      obtain ⟨c1, c2⟩ := ca_loop w T hα hβ hP hh hk FU 0 (by decide) (by have := FU_ge; omega) e1
      rw [nI_0, show nI (0 + 1) = (1 : Int32) from rfl] at c1 c2
      obtain ⟨s1, s2⟩ := spotAfter_X T hh hk e2
      have ewy : wy c α β e (h + 1) = k' := by
        show (st c h (chA c α β e h (wy c α β e h)) (wy c α β e h)).getD 0 = k'
        rw [e3, e4]; rfl
      have es : sI (st c h a (wy c α β e h)) = nI (sp (wy c α β e (h + 1))) := by rw [e4, ewy]; rfl
      rw [if_neg (le_lit (K := 10) 10 rfl hh (by decide)), if_neg (nI_pos (by omega)), c2]
      dsimp only
      unfold ok_X9_chooseActs_4_b59 F_X9_chooseActs_4_b59
      rw [s2, es, nI_clamp (by omega), nI_1]
      obtain ⟨g1, g2⟩ := ih (h + 1) (upd ac h (nI a)) (by omega) (by omega) (fun g hg => by
        by_cases q : g = h
        · rw [q, pk_us, e3]
        · rw [pk_un q]; exact hac g (by omega))
      exact ⟨fun _ _ => ⟨c1, vp_in_nI hh (by decide), s1, g1⟩, g2⟩
/-- what is kept of the best -/
def BX (c : Cl) (α β : Nat) (o : Option Nat) (p b : Int32) (ac : Nat → Int32) : Prop := match o with
  | none => p = -9 ∧ b = -9 ∧ ∀ g, g < 10 → ac g = -9
  | some e => p = nI (vE c α β e) ∧ b = nI e ∧ ∀ g, g < 10 → ac g = nI (chA c α β e g (wy c α β e g))
end WX4
section WX5
variable {c : Cl} {pe se pl ow : Int32} {pr mi ri oF oL ho be en co nc : Nat → Int32}
variable {nx wk rk at' : Nat → Int32}
theorem se_loop (R : RX c pe se pl ow pr mi ri oF oL ho be en co nc) (T : TB c nx wk rk at') {α β : Nat} (hα : α ≤ 9) (hβ : β ≤ 9) : ∀ n s p b ac pg, s ≤ 10 → 10 < s + n → BX c α β (bs c α β s) p b ac →
    ok_X9_seek_L46 pe pl (nI α) (nI β) nx wk rk at' n p b ac pg (nI (bv c α β (bs c α β s))) (nI s) ∧
    ∃ p' b' ac' pg', F_X9_seek_L46 pe pl (nI α) (nI β) nx wk rk at' n p b ac pg (nI (bv c α β (bs c α β s))) (nI s) = (p', b', ac', pg') ∧ BX c α β (bs c α β 10) p' b' ac' := by
  have w := R.1
  intro n
  induction n with
  | zero => intro s p b ac pg h1 h2; omega
  | succ n ih =>
    intro s p b ac pg h1 h2 hB
    rw [ok_X9_seek_L46_s, F_X9_seek_L46_s]
    by_cases h10 : s = 10
    · subst h10
      rw [if_pos (show (10 : Int32) ≤ nI 10 by decide)]
      exact ⟨fun q => absurd (by decide) q, p, b, ac, pg, rfl, hB⟩
    · have hs : s < 11 := by omega
      have ewh : F_X11_whereAt (nI s) = nI (kw s) := by
        have := whereAt_X (Vk_kw hs)
        rw [sp_kw hs] at this
        exact this
      have hkw : kw s < 21 := by have := Vk_kw hs; unfold Vk at this; omega
      rw [if_neg (le_lit (K := 10) 10 rfl (by omega) (by decide)), ewh, isBegin_X R (by omega)]
      cases hb : bgb c (kw s) with
      | false =>
        have e : bs c α β (s + 1) = bs c α β s := by rw [bs, hb, Bool.false_and, if_neg nft]
        rw [if_pos bI_f, nI_1]
        obtain ⟨g1, g2⟩ := ih (s + 1) p b ac pg (by omega) (by omega) (by rw [e]; exact hB)
        rw [e] at g1 g2
        exact ⟨fun _ => ⟨fun _ => g1, fun q => absurd rfl q⟩, g2⟩
      | true =>
        have hBg := bgb_iff.mp hb
        obtain ⟨a1, a2⟩ := all_X w T hα hβ (Vk_kw hs) pg
        rw [sp_kw hs] at a1 a2
        have a2' : PA c α β (kw s) (F_X9_priceAllTo (nI α) (nI β) nx wk rk at' pg (nI s)) := a2
        rw [if_neg bI_tn]
        dsimp only
        generalize F_X9_priceAllTo (nI α) (nI β) nx wk rk at' pg (nI s) = pg1 at a2'
        have ev : pg1 s = nI (vE c α β (kw s)) := by
          have := a2' 0 s (by omega) hs
          rw [Nat.zero_mul, Nat.zero_add] at this
          exact this
        have hv1 : vE c α β (kw s) ≤ FAR := lh_le _ _ _ _ _ _
        have hv2 : bv c α β (bs c α β s) ≤ FAR := by
          cases bs c α β s with
          | none => exact Nat.le_refl _
          | some e => exact lh_le _ _ _ _ _ _
        unfold ok_X9_seek_46_b74 F_X9_seek_46_b74
        have hvs : vp_in (nI s) 121 := vp_in_nI (by omega) (by decide)
        rw [nI_clamp (by omega), ev, ewh, nI_1]
        unfold FAR at hv1 hv2
        by_cases q : vE c α β (kw s) < bv c α β (bs c α β s)
        · have e : bs c α β (s + 1) = some (kw s) := by rw [bs, hb, Bool.true_and, if_pos (by simp [q])]
          obtain ⟨g1, g2⟩ := cw_loop w T hα hβ a2' hBg (show lh c α β (kw s) 0 (kw s) < FAR by unfold FAR; unfold vE at q hv1; omega) FU 0 ac (Nat.zero_le _) (by have := FU_ge; omega) (fun g hg => by omega)
          have g1' : ok_X9_chooseActs (nI α) (nI β) ac nx wk rk pg1 (nI s) := by
            unfold ok_X9_chooseActs
            have e0 : nI (sp (wy c α β (kw s) 0)) = nI s := by show nI (sp (kw s)) = _; rw [sp_kw hs]
            rw [e0, nI_0] at g1
            exact g1
          have g2' : ∀ g, g < 10 → F_X9_chooseActs (nI α) (nI β) ac nx wk rk pg1 (nI s) g = nI (chA c α β (kw s) g (wy c α β (kw s) g)) := by
            intro g hg
            have e0 : nI (sp (wy c α β (kw s) 0)) = nI s := by show nI (sp (kw s)) = _; rw [sp_kw hs]
            have := g2 g hg
            rw [e0, nI_0] at this
            exact this
          rw [if_neg (nI_ge q (by omega))]
          dsimp only
          unfold ok_X9_seek_46_b116 F_X9_seek_46_b116
          rw [nI_1]
          obtain ⟨k1, k2⟩ := ih (s + 1) (nI (vE c α β (kw s))) (nI (kw s)) (F_X9_chooseActs (nI α) (nI β) ac nx wk rk pg1 (nI s)) pg1 (by omega) (by omega) (by
            rw [e]
            exact ⟨rfl, rfl, g2'⟩)
          rw [e] at k1 k2
          exact ⟨fun _ => ⟨fun q' => absurd q' bI_tn, fun _ => ⟨a1, hvs, fun q' => absurd q' (nI_ge q (by omega)), fun _ => ⟨hvs, g1', k1⟩⟩⟩, k2⟩
        · have e : bs c α β (s + 1) = bs c α β s := by rw [bs, hb, Bool.true_and, if_neg (by simp; omega)]
          rw [if_pos (nI_le (by omega) (by omega))]
          obtain ⟨k1, k2⟩ := ih (s + 1) p b ac pg1 (by omega) (by omega) (by rw [e]; exact hB)
          rw [e] at k1 k2
          exact ⟨fun _ => ⟨fun q' => absurd q' bI_tn, fun _ => ⟨a1, hvs, fun _ => k1, fun q' => absurd (nI_le (by omega) (by omega)) q'⟩⟩, k2⟩
/-- the best way, by the class -/
theorem seek_X (R : RX c pe se pl ow pr mi ri oF oL ho be en co nc) {fi la : Nat → Int32} (hf : ∀ s, s < kS c → fi s = nI (kF c s) ∧ la s = nI (kT c s)) {α β : Nat} (hα : α ≤ 9) (hβ : β ≤ 9) (ac nx wk rk at' pg : Nat → Int32) (w1 w2 w3 w4 w5 w6 w7 w8 w9 : Int32) :
    ok_X9_seek ac nx wk rk at' w1 w2 w3 w4 w5 w6 w7 w8 w9 pg pe se pl ow pr fi la mi ri oF oL ho be en co nc (nI α) (nI β) ∧
    ∃ (p b x y : Int32) (ac' nx' wk' rk' at'' pg' : Nat → Int32) (v1 v2 v3 v4 v5 v6 v7 v8 v9 : Int32), F_X9_seek ac nx wk rk at' w1 w2 w3 w4 w5 w6 w7 w8 w9 pg pe se pl ow pr fi la mi ri oF oL ho be en co nc (nI α) (nI β) = (p, b, x, y, ac', nx', wk', rk', at'', v1, v2, v3, v4, v5, v6, v7, v8, v9, pg') ∧ BX c α β (bs c α β 10) p b ac' := by
  obtain ⟨p1, nx', wk', rk', at'', v1, v2, v3, v4, v5, v6, v7, v8, v9, p2, p3⟩ := prep_X R hf nx wk rk at' w1 w2 w3 w4 w5 w6 w7 w8 w9
  have hB0 : BX c α β (bs c α β 0) (-9) (-9) (fun j => if j < 10 then -9 else ac j) := ⟨rfl, rfl, fun g hg => if_pos hg⟩
  obtain ⟨g1, p', b', ac', pg', g2, g3⟩ := se_loop R p3 hα hβ FU 0 (-9) (-9) (fun j => if j < 10 then -9 else ac j) pg (Nat.zero_le _) (by have := FU_ge; omega) hB0
  have g2' : F_X9_seek_L46 pe pl (nI α) (nI β) nx' wk' rk' at'' FU (-9) (-9) (fun j => if j < 10 then -9 else ac j) pg 1000000 0 = (p', b', ac', pg') := g2
  unfold ok_X9_seek F_X9_seek
  rw [fill_eq 10 (by decide)]
  dsimp only
  unfold ok_X9_seek_b31 F_X9_seek_b31
  rw [p2]
  dsimp only
  unfold ok_X9_seek_b39 F_X9_seek_b39
  rw [g2']
  exact ⟨⟨fill_ok 10 (by decide) _ _, p1, g1⟩, p', b', nI α, nI β, ac', nx', wk', rk', at'', pg', v1, v2, v3, v4, v5, v6, v7, v8, v9, rfl, g3⟩
end WX5

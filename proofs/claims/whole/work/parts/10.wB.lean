abbrev wd_X2_hasTime (cy : Nat → ClassId) (a_t : Nat) (a_t_busy : Nat) (a_p2 : Nat) (z_t_letter : Value) (z_t_figures : Value) (z_t_one : Value) (z_t_two : Value) (z_t_openTold : Value) (z_t_homesTold : Value) (z_p2_sessions : Value) (z_p2_places : Value) (z_p2_forgetTenths : Value) (z_p2_ownKeys : Value) (z_p2_person : Value) (z_p2_first : Value) (z_p2_last : Value) (z_p2_minutes : Value) (z_p2_risk : Value) (z_p2_openFirst : Value) (z_p2_openLast : Value) (z_p2_homeMinutes : Value) (z_p2_beginning : Value) (z_p2_ending : Value) (z_p2_comer : Value) (z_p2_nextComer : Value) (t_busy : Nat → Int32) (p2_people : Int32) : va_W := [(a_t, .inr (2, [z_t_letter, z_t_figures, z_t_one, z_t_two, z_t_openTold, z_t_homesTold, .ref a_t_busy])), (a_t_busy, .inl (cy 1, 6, .inl t_busy)), (a_p2, .inr (1, [.int p2_people, z_p2_sessions, z_p2_places, z_p2_forgetTenths, z_p2_ownKeys, z_p2_person, z_p2_first, z_p2_last, z_p2_minutes, z_p2_risk, z_p2_openFirst, z_p2_openLast, z_p2_homeMinutes, z_p2_beginning, z_p2_ending, z_p2_comer, z_p2_nextComer]))]
noncomputable def F_X2_hasTime (t_busy : Nat → Int32) (p2_people : Int32) (x1 : Int32) : Int32 := (if (F_X1_isPerson p2_people x1) = (0 : Int32) then (0 : Int32) else (if (t_busy x1.toNatClampNeg) = (1023 : Int32) then (0 : Int32) else (1 : Int32)))
def ok_X2_hasTime (p2_people : Int32) (x1 : Int32) : Prop := (¬ ((F_X1_isPerson p2_people x1) = (0 : Int32)) → (vp_in x1 6))
set_option maxHeartbeats 4000000 in
set_option maxRecDepth 100000 in
theorem w_X2_hasTime {p : Program} {l : Launch} {e : Env} {s : State} {m : MethodId} {args : Array Value} {below : List Frame} {meth : Method} {c : Code} {D : va_G} {cy : Nat → ClassId} {QQ : State → Prop} {FV : Int32} (a_t : Nat) (a_t_busy : Nat) (a_p2 : Nat) (z_t_letter : Value) (z_t_figures : Value) (z_t_one : Value) (z_t_two : Value) (z_t_openTold : Value) (z_t_homesTold : Value) (z_p2_sessions : Value) (z_p2_places : Value) (z_p2_forgetTenths : Value) (z_p2_ownKeys : Value) (z_p2_person : Value) (z_p2_first : Value) (z_p2_last : Value) (z_p2_minutes : Value) (z_p2_risk : Value) (z_p2_openFirst : Value) (z_p2_openLast : Value) (z_p2_homeMinutes : Value) (z_p2_beginning : Value) (z_p2_ending : Value) (z_p2_comer : Value) (z_p2_nextComer : Value) (t_busy : Nat → Int32) (p2_people : Int32) (x1 : Int32) (hx : p.tables.exec = Jvm.exec) (hb : c.code = cX2_hasTime) (hml : c.maxLocals = 3) (hown : s.vm.findClass RX2 = some m.cls) (hts : ∀ w ∈ Cond.code yX2_hasTime cX2_hasTime 3 (some .boolean) :: LW, w.before args s = true) (hG : GW D cy s) (hret : ∀ (r : Int32) (ls : Array Slot) (pc : Nat), FV = r → narrow .boolean (.int r) = .int r → decode cX2_hasTime pc = .ok (.ireturn, 1) → W p l e (rmk 1 21) s m args below meth c s.heap [] 0 0 QQ (F0 m pc ls [.int r])) (ls : Array Slot) (hl : lv_has ls 3 [(0, .ref a_t), (1, .int x1), (2, .ref a_p2)]) (hP : va_P D vwCl (wd_X2_hasTime cy a_t a_t_busy a_p2 z_t_letter z_t_figures z_t_one z_t_two z_t_openTold z_t_homesTold z_p2_sessions z_p2_places z_p2_forgetTenths z_p2_ownKeys z_p2_person z_p2_first z_p2_last z_p2_minutes z_p2_risk z_p2_openFirst z_p2_openLast z_p2_homeMinutes z_p2_beginning z_p2_ending z_p2_comer z_p2_nextComer t_busy p2_people) s.heap) (hok : (ok_X2_hasTime p2_people x1)) (hR : FV = (F_X2_hasTime t_busy p2_people x1)) : W p l e (rmk 1 21) s m args below meth c s.heap [] 0 0 QQ (F0 m 0 ls []) := by
  have hw : ∀ w ∈ LW, w.before args s = true := fun w h => hts w (List.mem_cons_of_mem _ h)
  have hK := hG.1
  unfold F_X2_hasTime at hR
  unfold ok_X2_hasTime at hok
  refine lv_aload_n hx hb dX2_hasTime_0 rfl (lv_at hl 2 rfl) ?_
  refine lv_iload_n hx hb dX2_hasTime_1 rfl (lv_at hl 1 rfl) ?_
  refine rdIV (As := [.int x1]) (rest := []) hx hb hml hown hts hG hP k_X2_81 (c_X1_isPerson (l := l) (D := D) (cy := cy) a_p2 z_p2_sessions z_p2_places z_p2_forgetTenths z_p2_ownKeys z_p2_person z_p2_first z_p2_last z_p2_minutes z_p2_risk z_p2_openFirst z_p2_openLast z_p2_homeMinutes z_p2_beginning z_p2_ending z_p2_comer z_p2_nextComer p2_people x1) ⟨Nat.le_of_ble_eq_true rfl, Nat.le_of_ble_eq_true rfl⟩ [2] rfl 2 rfl rfl rfl rfl hl.1 rfl (Nat.le_of_ble_eq_true rfl) ⟨Nat.zero_le _, Nat.zero_le _⟩ dX2_hasTime_2 ?_
  have K_5 : W p l e (rmk 1 21) s m args below meth c s.heap [] 0 0 QQ (F0 m 25 ls [.int (if (F_X1_isPerson p2_people x1) = (0 : Int32) then (0 : Int32) else (if (t_busy x1.toNatClampNeg) = (1023 : Int32) then (0 : Int32) else (1 : Int32)))]) := by
    exact hret (if (F_X1_isPerson p2_people x1) = (0 : Int32) then (0 : Int32) else (if (t_busy x1.toNatClampNeg) = (1023 : Int32) then (0 : Int32) else (1 : Int32))) _ _ hR (isB.nar (isB_ite isB_0 (isB_ite isB_0 isB_1))) dX2_hasTime_25
  refine lv_if_eq (tgt := 24) hx hb dX2_hasTime_5 (by decide) (fun c_5 => ?_) (fun c_5 => ?_)
  · refine lv_iconst (v := 0) hx hb dX2_hasTime_24 (by decide) ?_
    exact W.eq (congrArg (fun z => F0 m 25 ls (Value.int z :: [])) (if_pos c_5).symm) K_5
  · replace hok := hok c_5
    refine lv_aload_n hx hb dX2_hasTime_8 rfl (lv_at hl 0 rfl) ?_
    refine g_X2_30 hx hb hw hown hK hP 0 rfl rfl dX2_hasTime_9 ?_
    refine lv_iload_n hx hb dX2_hasTime_12 rfl (lv_at hl 1 rfl) ?_
    have h_13_0 := hok
    refine va_iald hx hb hK hP 1 1 rfl rfl h_13_0 dX2_hasTime_13 ?_
    refine lv_sipush (v := 1023) hx hb dX2_hasTime_14 (by decide) ?_
    refine lv_icmp_eq (tgt := 24) hx hb dX2_hasTime_17 (by decide) (fun c_17 => ?_) (fun c_17 => ?_)
    · refine lv_iconst (v := 0) hx hb dX2_hasTime_24 (by decide) ?_
      exact W.eq (congrArg (fun z => F0 m 25 ls (Value.int z :: [])) ((if_neg c_5).trans (if_pos c_17)).symm) K_5
    · refine lv_iconst (v := 1) hx hb dX2_hasTime_20 (by decide) ?_
      refine lv_goto (tgt := 25) hx hb dX2_hasTime_21 (by decide) ?_
      exact W.eq (congrArg (fun z => F0 m 25 ls (Value.int z :: [])) ((if_neg c_5).trans (if_neg c_17)).symm) K_5
set_option maxHeartbeats 1000000 in
set_option maxRecDepth 100000 in
theorem c_X2_hasTime {l : Launch} {D : va_G} {cy : Nat → ClassId} (a_t : Nat) (a_t_busy : Nat) (a_p2 : Nat) (z_t_letter : Value) (z_t_figures : Value) (z_t_one : Value) (z_t_two : Value) (z_t_openTold : Value) (z_t_homesTold : Value) (z_p2_sessions : Value) (z_p2_places : Value) (z_p2_forgetTenths : Value) (z_p2_ownKeys : Value) (z_p2_person : Value) (z_p2_first : Value) (z_p2_last : Value) (z_p2_minutes : Value) (z_p2_risk : Value) (z_p2_openFirst : Value) (z_p2_openLast : Value) (z_p2_homeMinutes : Value) (z_p2_beginning : Value) (z_p2_ending : Value) (z_p2_comer : Value) (z_p2_nextComer : Value) (t_busy : Nat → Int32) (p2_people : Int32) (x1 : Int32) (hok : (ok_X2_hasTime p2_people x1)) : RdI l yX2_hasTime cX2_hasTime 3 (some .boolean) 1 21 D cy [.ref a_t, .int x1, .ref a_p2] (wd_X2_hasTime cy a_t a_t_busy a_p2 z_t_letter z_t_figures z_t_one z_t_two z_t_openTold z_t_homesTold z_p2_sessions z_p2_places z_p2_forgetTenths z_p2_ownKeys z_p2_person z_p2_first z_p2_last z_p2_minutes z_p2_risk z_p2_openFirst z_p2_openLast z_p2_homeMinutes z_p2_beginning z_p2_ending z_p2_comer z_p2_nextComer t_busy p2_people) (F_X2_hasTime t_busy p2_people x1) := by
  refine Met.ofW (cc := cX2_hasTime) (maxL := 3) (ret := (some .boolean)) (by decide) rfl ?_
  intro p e s m args below meth c s₁ B hml hv
  obtain ⟨rfl, hP, hG⟩ := hv
  have hr := B.returns
  have hlocks := B.notSynchronized
  have hl := lv_entry ([.ref a_t, .int x1, .ref a_p2]) (n := 3) (Nat.le_of_ble_eq_true rfl)
  rw [lg_entry_eq]
  generalize (lg_sl ([.ref a_t, .int x1, .ref a_p2]) ++ List.replicate (3 - (lg_sl ([.ref a_t, .int x1, .ref a_p2])).length) Slot.unset).toArray = ls at hl ⊢
  exact w_X2_hasTime a_t a_t_busy a_p2 z_t_letter z_t_figures z_t_one z_t_two z_t_openTold z_t_homesTold z_p2_sessions z_p2_places z_p2_forgetTenths z_p2_ownKeys z_p2_person z_p2_first z_p2_last z_p2_minutes z_p2_risk z_p2_openFirst z_p2_openLast z_p2_homeMinutes z_p2_beginning z_p2_ending z_p2_comer z_p2_nextComer t_busy p2_people x1 B.exec B.bytes hml (findClass_of_methodNamed B.named) (atoms_spec (ws := Cond.code yX2_hasTime cX2_hasTime 3 (some .boolean) :: LW) B.pre) hG (fun r ls pc hF hn hdg => W.zret (v := r) B.exec B.bytes hr hn (fun t ht hW => ⟨r, rfl, hF.symm, ht⟩) (fun _ h => absurd h List.not_mem_nil) hdg) ls hl hP hok rfl
abbrev wd_X2_somebodyHasTime (cy : Nat → ClassId) (a_t : Nat) (a_t_busy : Nat) (a_p1 : Nat) (z_t_letter : Value) (z_t_figures : Value) (z_t_one : Value) (z_t_two : Value) (z_t_openTold : Value) (z_t_homesTold : Value) (z_p1_sessions : Value) (z_p1_places : Value) (z_p1_forgetTenths : Value) (z_p1_ownKeys : Value) (z_p1_person : Value) (z_p1_first : Value) (z_p1_last : Value) (z_p1_minutes : Value) (z_p1_risk : Value) (z_p1_openFirst : Value) (z_p1_openLast : Value) (z_p1_homeMinutes : Value) (z_p1_beginning : Value) (z_p1_ending : Value) (z_p1_comer : Value) (z_p1_nextComer : Value) (t_busy : Nat → Int32) (p1_people : Int32) : va_W := [(a_t, .inr (2, [z_t_letter, z_t_figures, z_t_one, z_t_two, z_t_openTold, z_t_homesTold, .ref a_t_busy])), (a_t_busy, .inl (cy 1, 6, .inl t_busy)), (a_p1, .inr (1, [.int p1_people, z_p1_sessions, z_p1_places, z_p1_forgetTenths, z_p1_ownKeys, z_p1_person, z_p1_first, z_p1_last, z_p1_minutes, z_p1_risk, z_p1_openFirst, z_p1_openLast, z_p1_homeMinutes, z_p1_beginning, z_p1_ending, z_p1_comer, z_p1_nextComer]))]
noncomputable def F_X2_somebodyHasTime_b27 : Int32 := (0 : Int32)
noncomputable def F_X2_somebodyHasTime_L2 (t_busy : Nat → Int32) (p1_people : Int32) (kx : Int32) (n : Nat) : Int32 → Int32 := Nat.rec (motive := fun _ => Int32 → Int32) (fun _ => (0 : Int32)) (fun _ ih v2 => (if p1_people ≤ v2 then kx else (if (F_X2_hasTime t_busy p1_people v2) = (0 : Int32) then (ih (v2 + (1 : Int32))) else (1 : Int32)))) n
theorem F_X2_somebodyHasTime_L2_s {t_busy : Nat → Int32} {p1_people : Int32} {kx : Int32} {n : Nat} {v2 : Int32} : F_X2_somebodyHasTime_L2 t_busy p1_people kx (n + 1) v2 = (if p1_people ≤ v2 then kx else (if (F_X2_hasTime t_busy p1_people v2) = (0 : Int32) then ((F_X2_somebodyHasTime_L2 t_busy p1_people kx n) (v2 + (1 : Int32))) else (1 : Int32))) := rfl
def ok_X2_somebodyHasTime_L2 (t_busy : Nat → Int32) (p1_people : Int32) (n : Nat) : Int32 → Prop := Nat.rec (motive := fun _ => Int32 → Prop) (fun _ => False) (fun _ oih v2 => (¬ (p1_people ≤ v2) → ((ok_X2_hasTime p1_people v2)) ∧ ((F_X2_hasTime t_busy p1_people v2) = (0 : Int32) → (oih (v2 + (1 : Int32)))))) n
theorem ok_X2_somebodyHasTime_L2_s {t_busy : Nat → Int32} {p1_people : Int32} {n : Nat} {v2 : Int32} : ok_X2_somebodyHasTime_L2 t_busy p1_people (n + 1) v2 ↔ ((¬ (p1_people ≤ v2) → ((ok_X2_hasTime p1_people v2)) ∧ ((F_X2_hasTime t_busy p1_people v2) = (0 : Int32) → ((ok_X2_somebodyHasTime_L2 t_busy p1_people n) (v2 + (1 : Int32)))))) := Iff.rfl
noncomputable def F_X2_somebodyHasTime (t_busy : Nat → Int32) (p1_people : Int32) : Int32 := (F_X2_somebodyHasTime_L2 t_busy p1_people (F_X2_somebodyHasTime_b27) FU (0 : Int32))
def ok_X2_somebodyHasTime (t_busy : Nat → Int32) (p1_people : Int32) : Prop := (ok_X2_somebodyHasTime_L2 t_busy p1_people FU (0 : Int32))
set_option maxHeartbeats 4000000 in
set_option maxRecDepth 100000 in
theorem w_X2_somebodyHasTime {p : Program} {l : Launch} {e : Env} {s : State} {m : MethodId} {args : Array Value} {below : List Frame} {meth : Method} {c : Code} {D : va_G} {cy : Nat → ClassId} {QQ : State → Prop} {FV : Int32} (a_t : Nat) (a_t_busy : Nat) (a_p1 : Nat) (z_t_letter : Value) (z_t_figures : Value) (z_t_one : Value) (z_t_two : Value) (z_t_openTold : Value) (z_t_homesTold : Value) (z_p1_sessions : Value) (z_p1_places : Value) (z_p1_forgetTenths : Value) (z_p1_ownKeys : Value) (z_p1_person : Value) (z_p1_first : Value) (z_p1_last : Value) (z_p1_minutes : Value) (z_p1_risk : Value) (z_p1_openFirst : Value) (z_p1_openLast : Value) (z_p1_homeMinutes : Value) (z_p1_beginning : Value) (z_p1_ending : Value) (z_p1_comer : Value) (z_p1_nextComer : Value) (t_busy : Nat → Int32) (p1_people : Int32) (hx : p.tables.exec = Jvm.exec) (hb : c.code = cX2_somebodyHasTime) (hml : c.maxLocals = 3) (hown : s.vm.findClass RX2 = some m.cls) (hts : ∀ w ∈ Cond.code yX2_somebodyHasTime cX2_somebodyHasTime 3 (some .boolean) :: LW, w.before args s = true) (hG : GW D cy s) (hret : ∀ (r : Int32) (ls : Array Slot) (pc : Nat), FV = r → narrow .boolean (.int r) = .int r → decode cX2_somebodyHasTime pc = .ok (.ireturn, 1) → W p l e (rmk 2 43) s m args below meth c s.heap [] 0 0 QQ (F0 m pc ls [.int r])) (ls : Array Slot) (hl : lv_has ls 3 [(0, .ref a_t), (1, .ref a_p1)]) (hP : va_P D vwCl (wd_X2_somebodyHasTime cy a_t a_t_busy a_p1 z_t_letter z_t_figures z_t_one z_t_two z_t_openTold z_t_homesTold z_p1_sessions z_p1_places z_p1_forgetTenths z_p1_ownKeys z_p1_person z_p1_first z_p1_last z_p1_minutes z_p1_risk z_p1_openFirst z_p1_openLast z_p1_homeMinutes z_p1_beginning z_p1_ending z_p1_comer z_p1_nextComer t_busy p1_people) s.heap) (hok : (ok_X2_somebodyHasTime t_busy p1_people)) (hR : FV = (F_X2_somebodyHasTime t_busy p1_people)) : W p l e (rmk 2 43) s m args below meth c s.heap [] 0 0 QQ (F0 m 0 ls []) := by
  have hw : ∀ w ∈ LW, w.before args s = true := fun w h => hts w (List.mem_cons_of_mem _ h)
  have hK := hG.1
  unfold F_X2_somebodyHasTime at hR
  unfold ok_X2_somebodyHasTime at hok
  refine lv_iconst (v := 0) hx hb dX2_somebodyHasTime_0 (by decide) ?_
  refine lv_istore_n (lv' := [(2, .int (0 : Int32)), (0, .ref a_t), (1, .ref a_p1)]) hx hb dX2_somebodyHasTime_1 rfl hl (Nat.le_of_ble_eq_true rfl) rfl (fun ls hl => ?_)
  have L_2 : ∀ (n_2 : Nat) (v2_2 : Int32) (ls : Array Slot), lv_has ls 3 [(0, .ref a_t), (1, .ref a_p1), (2, .int v2_2)] → (ok_X2_somebodyHasTime_L2 t_busy p1_people n_2 v2_2) → FV = (F_X2_somebodyHasTime_L2 t_busy p1_people (F_X2_somebodyHasTime_b27) n_2 v2_2) → (∀  (ls : Array Slot), lv_has ls 3 [] → FV = F_X2_somebodyHasTime_b27 → W p l e (rmk 2 43) s m args below meth c s.heap [] 0 0 QQ (F0 m 27 ls [])) → W p l e (rmk 2 43) s m args below meth c s.heap [] 0 0 QQ (F0 m 2 ls []) := by
    intro n_2
    induction n_2 with
    | zero => intro v2_2 ls hl hok; exact False.elim hok
    | succ n_2 ih2 =>
      intro v2_2 ls hl hok hR hX
      replace hR := hR.trans F_X2_somebodyHasTime_L2_s
      replace hok := ok_X2_somebodyHasTime_L2_s.mp hok
      refine lv_iload_n hx hb dX2_somebodyHasTime_2 rfl (lv_at hl 2 rfl) ?_
      refine lv_aload_n hx hb dX2_somebodyHasTime_3 rfl (lv_at hl 1 rfl) ?_
      refine g_X2_49 hx hb hw hown hK hP 2 rfl rfl dX2_somebodyHasTime_4 ?_
      refine lv_icmp_ge (tgt := 27) hx hb dX2_somebodyHasTime_7 (by decide) (fun c_7 => ?_) (fun c_7 => ?_)
      · replace hR := bp hR c_7
        exact hX  _ (lv_sub hl [] rfl) hR
      · replace hR := bn hR c_7
        replace hok := hok c_7
        refine lv_aload_n hx hb dX2_somebodyHasTime_10 rfl (lv_at hl 0 rfl) ?_
        refine lv_iload_n hx hb dX2_somebodyHasTime_11 rfl (lv_at hl 2 rfl) ?_
        refine lv_aload_n hx hb dX2_somebodyHasTime_12 rfl (lv_at hl 1 rfl) ?_
        obtain ⟨h_13_0, hok⟩ := hok
        refine rdIV (As := [.int v2_2, .ref a_p1]) (rest := []) hx hb hml hown hts hG hP k_X2_78 (c_X2_hasTime (l := l) (D := D) (cy := cy) a_t a_t_busy a_p1 z_t_letter z_t_figures z_t_one z_t_two z_t_openTold z_t_homesTold z_p1_sessions z_p1_places z_p1_forgetTenths z_p1_ownKeys z_p1_person z_p1_first z_p1_last z_p1_minutes z_p1_risk z_p1_openFirst z_p1_openLast z_p1_homeMinutes z_p1_beginning z_p1_ending z_p1_comer z_p1_nextComer t_busy p1_people v2_2 h_13_0) ⟨Nat.le_of_ble_eq_true rfl, Nat.le_of_ble_eq_true rfl⟩ [0, 1, 2] rfl 0 rfl rfl rfl rfl hl.1 rfl (Nat.le_of_ble_eq_true rfl) ⟨Nat.zero_le _, Nat.zero_le _⟩ dX2_somebodyHasTime_13 ?_
        refine lv_if_eq (tgt := 21) hx hb dX2_somebodyHasTime_16 (by decide) (fun c_16 => ?_) (fun c_16 => ?_)
        · replace hR := bp hR c_16
          replace hok := hok c_16
          refine lv_iinc (v := (v2_2 + (1 : Int32))) (lv' := [(2, .int (v2_2 + (1 : Int32))), (0, .ref a_t), (1, .ref a_p1)]) hx hb dX2_somebodyHasTime_21 hl (k := 2) rfl rfl (Nat.le_of_ble_eq_true rfl) rfl (fun ls hl => ?_)
          refine lv_goto (tgt := 2) hx hb dX2_somebodyHasTime_24 (by decide) ?_
          exact ih2 (v2_2 + (1 : Int32)) _ (lv_sub hl [1, 2, 0] rfl) hok hR hX
        · replace hR := bn hR c_16
          refine lv_iconst (v := 1) hx hb dX2_somebodyHasTime_19 (by decide) ?_
          exact hret (1 : Int32) _ _ hR rfl dX2_somebodyHasTime_20
  refine L_2 FU (0 : Int32) _ (lv_sub hl [1, 2, 0] rfl) hok hR (fun  ls hl hR => ?_)
  unfold F_X2_somebodyHasTime_b27 at hR
  refine lv_iconst (v := 0) hx hb dX2_somebodyHasTime_27 (by decide) ?_
  exact hret (0 : Int32) _ _ hR rfl dX2_somebodyHasTime_28
set_option maxHeartbeats 1000000 in
set_option maxRecDepth 100000 in
theorem c_X2_somebodyHasTime {l : Launch} {D : va_G} {cy : Nat → ClassId} (a_t : Nat) (a_t_busy : Nat) (a_p1 : Nat) (z_t_letter : Value) (z_t_figures : Value) (z_t_one : Value) (z_t_two : Value) (z_t_openTold : Value) (z_t_homesTold : Value) (z_p1_sessions : Value) (z_p1_places : Value) (z_p1_forgetTenths : Value) (z_p1_ownKeys : Value) (z_p1_person : Value) (z_p1_first : Value) (z_p1_last : Value) (z_p1_minutes : Value) (z_p1_risk : Value) (z_p1_openFirst : Value) (z_p1_openLast : Value) (z_p1_homeMinutes : Value) (z_p1_beginning : Value) (z_p1_ending : Value) (z_p1_comer : Value) (z_p1_nextComer : Value) (t_busy : Nat → Int32) (p1_people : Int32) (hok : (ok_X2_somebodyHasTime t_busy p1_people)) : RdI l yX2_somebodyHasTime cX2_somebodyHasTime 3 (some .boolean) 2 43 D cy [.ref a_t, .ref a_p1] (wd_X2_somebodyHasTime cy a_t a_t_busy a_p1 z_t_letter z_t_figures z_t_one z_t_two z_t_openTold z_t_homesTold z_p1_sessions z_p1_places z_p1_forgetTenths z_p1_ownKeys z_p1_person z_p1_first z_p1_last z_p1_minutes z_p1_risk z_p1_openFirst z_p1_openLast z_p1_homeMinutes z_p1_beginning z_p1_ending z_p1_comer z_p1_nextComer t_busy p1_people) (F_X2_somebodyHasTime t_busy p1_people) := by
  refine Met.ofW (cc := cX2_somebodyHasTime) (maxL := 3) (ret := (some .boolean)) (by decide) rfl ?_
  intro p e s m args below meth c s₁ B hml hv
  obtain ⟨rfl, hP, hG⟩ := hv
  have hr := B.returns
  have hlocks := B.notSynchronized
  have hl := lv_entry ([.ref a_t, .ref a_p1]) (n := 3) (Nat.le_of_ble_eq_true rfl)
  rw [lg_entry_eq]
  generalize (lg_sl ([.ref a_t, .ref a_p1]) ++ List.replicate (3 - (lg_sl ([.ref a_t, .ref a_p1])).length) Slot.unset).toArray = ls at hl ⊢
  exact w_X2_somebodyHasTime a_t a_t_busy a_p1 z_t_letter z_t_figures z_t_one z_t_two z_t_openTold z_t_homesTold z_p1_sessions z_p1_places z_p1_forgetTenths z_p1_ownKeys z_p1_person z_p1_first z_p1_last z_p1_minutes z_p1_risk z_p1_openFirst z_p1_openLast z_p1_homeMinutes z_p1_beginning z_p1_ending z_p1_comer z_p1_nextComer t_busy p1_people B.exec B.bytes hml (findClass_of_methodNamed B.named) (atoms_spec (ws := Cond.code yX2_somebodyHasTime cX2_somebodyHasTime 3 (some .boolean) :: LW) B.pre) hG (fun r ls pc hF hn hdg => W.zret (v := r) B.exec B.bytes hr hn (fun t ht hW => ⟨r, rfl, hF.symm, ht⟩) (fun _ h => absurd h List.not_mem_nil) hdg) ls hl hP hok rfl
abbrev wd_X2_mayFollow (cy : Nat → ClassId) (a_t : Nat) (a_t_busy : Nat) (a_p2 : Nat) (z_t_letter : Value) (z_t_figures : Value) (z_t_one : Value) (z_t_two : Value) (z_p2_ownKeys : Value) (z_p2_person : Value) (z_p2_first : Value) (z_p2_last : Value) (z_p2_minutes : Value) (z_p2_risk : Value) (z_p2_openFirst : Value) (z_p2_openLast : Value) (z_p2_homeMinutes : Value) (z_p2_beginning : Value) (z_p2_ending : Value) (z_p2_comer : Value) (z_p2_nextComer : Value) (t_openTold : Int32) (t_homesTold : Int32) (t_busy : Nat → Int32) (p2_people : Int32) (p2_sessions : Int32) (p2_places : Int32) (p2_forgetTenths : Int32) : va_W := [(a_t, .inr (2, [z_t_letter, z_t_figures, z_t_one, z_t_two, .int t_openTold, .int t_homesTold, .ref a_t_busy])), (a_t_busy, .inl (cy 1, 6, .inl t_busy)), (a_p2, .inr (1, [.int p2_people, .int p2_sessions, .int p2_places, .int p2_forgetTenths, z_p2_ownKeys, z_p2_person, z_p2_first, z_p2_last, z_p2_minutes, z_p2_risk, z_p2_openFirst, z_p2_openLast, z_p2_homeMinutes, z_p2_beginning, z_p2_ending, z_p2_comer, z_p2_nextComer]))]
noncomputable def F_X2_mayFollow (t_openTold : Int32) (t_homesTold : Int32) (t_busy : Nat → Int32) (p2_people : Int32) (p2_sessions : Int32) (p2_places : Int32) (p2_forgetTenths : Int32) (x1 : Int32) : Int32 := (if p2_people = (0 : Int32) then (if x1 = (78 : Int32) then (1 : Int32) else (0 : Int32)) else (if x1 = (70 : Int32) then (if p2_forgetTenths = (0 : Int32) then (1 : Int32) else (0 : Int32)) else (if x1 = (72 : Int32) then (if t_homesTold = (((1 : Int32) <<< (p2_people &&& (31 : Int32))) - (1 : Int32)) then (0 : Int32) else (1 : Int32)) else (if x1 = (79 : Int32) then (if (p2_places &&& (t_openTold ^^^ (-1 : Int32))) = (0 : Int32) then (0 : Int32) else (1 : Int32)) else (if x1 = (80 : Int32) then (if p2_places = (15 : Int32) then (0 : Int32) else (1 : Int32)) else (if x1 = (82 : Int32) then (if (8 : Int32) ≤ p2_sessions then (0 : Int32) else (if (F_X2_somebodyHasTime t_busy p2_people) = (0 : Int32) then (0 : Int32) else (1 : Int32))) else (0 : Int32)))))))
def ok_X2_mayFollow (t_busy : Nat → Int32) (p2_people : Int32) (p2_sessions : Int32) (x1 : Int32) : Prop := (¬ (p2_people = (0 : Int32)) → (¬ (x1 = (70 : Int32)) → (¬ (x1 = (72 : Int32)) → (¬ (x1 = (79 : Int32)) → (¬ (x1 = (80 : Int32)) → (x1 = (82 : Int32) → (¬ ((8 : Int32) ≤ p2_sessions) → ((ok_X2_somebodyHasTime t_busy p2_people)))))))))
set_option maxHeartbeats 4000000 in
set_option maxRecDepth 100000 in
theorem w_X2_mayFollow {p : Program} {l : Launch} {e : Env} {s : State} {m : MethodId} {args : Array Value} {below : List Frame} {meth : Method} {c : Code} {D : va_G} {cy : Nat → ClassId} {QQ : State → Prop} {FV : Int32} (a_t : Nat) (a_t_busy : Nat) (a_p2 : Nat) (z_t_letter : Value) (z_t_figures : Value) (z_t_one : Value) (z_t_two : Value) (z_p2_ownKeys : Value) (z_p2_person : Value) (z_p2_first : Value) (z_p2_last : Value) (z_p2_minutes : Value) (z_p2_risk : Value) (z_p2_openFirst : Value) (z_p2_openLast : Value) (z_p2_homeMinutes : Value) (z_p2_beginning : Value) (z_p2_ending : Value) (z_p2_comer : Value) (z_p2_nextComer : Value) (t_openTold : Int32) (t_homesTold : Int32) (t_busy : Nat → Int32) (p2_people : Int32) (p2_sessions : Int32) (p2_places : Int32) (p2_forgetTenths : Int32) (x1 : Int32) (hx : p.tables.exec = Jvm.exec) (hb : c.code = cX2_mayFollow) (hml : c.maxLocals = 3) (hown : s.vm.findClass RX2 = some m.cls) (hts : ∀ w ∈ Cond.code yX2_mayFollow cX2_mayFollow 3 (some .boolean) :: LW, w.before args s = true) (hG : GW D cy s) (hret : ∀ (r : Int32) (ls : Array Slot) (pc : Nat), FV = r → narrow .boolean (.int r) = .int r → decode cX2_mayFollow pc = .ok (.ireturn, 1) → W p l e (rmk 3 65) s m args below meth c s.heap [] 0 0 QQ (F0 m pc ls [.int r])) (ls : Array Slot) (hl : lv_has ls 3 [(0, .ref a_t), (1, .int x1), (2, .ref a_p2)]) (hP : va_P D vwCl (wd_X2_mayFollow cy a_t a_t_busy a_p2 z_t_letter z_t_figures z_t_one z_t_two z_p2_ownKeys z_p2_person z_p2_first z_p2_last z_p2_minutes z_p2_risk z_p2_openFirst z_p2_openLast z_p2_homeMinutes z_p2_beginning z_p2_ending z_p2_comer z_p2_nextComer t_openTold t_homesTold t_busy p2_people p2_sessions p2_places p2_forgetTenths) s.heap) (hok : (ok_X2_mayFollow t_busy p2_people p2_sessions x1)) (hR : FV = (F_X2_mayFollow t_openTold t_homesTold t_busy p2_people p2_sessions p2_places p2_forgetTenths x1)) : W p l e (rmk 3 65) s m args below meth c s.heap [] 0 0 QQ (F0 m 0 ls []) := by
  have hw : ∀ w ∈ LW, w.before args s = true := fun w h => hts w (List.mem_cons_of_mem _ h)
  have hK := hG.1
  unfold F_X2_mayFollow at hR
  unfold ok_X2_mayFollow at hok
  refine lv_aload_n hx hb dX2_mayFollow_0 rfl (lv_at hl 2 rfl) ?_
  refine g_X2_49 hx hb hw hown hK hP 2 rfl rfl dX2_mayFollow_1 ?_
  refine lv_if_ne (tgt := 19) hx hb dX2_mayFollow_4 (by decide) (fun c_4 => ?_) (fun c_4 => ?_)
  · replace hR := bn hR c_4
    replace hok := hok c_4
    refine lv_iload_n hx hb dX2_mayFollow_19 rfl (lv_at hl 1 rfl) ?_
    by_cases n_20_70 : x1 = (70 : Int32)
    · replace hR := bp hR n_20_70
      refine lv_tsw (off := 147) (tgt := 167) hx hb dX2_mayFollow_20 (by decide) (by rw [n_20_70]; decide) (by decide) ?_
      refine lv_aload_n hx hb dX2_mayFollow_167 rfl (lv_at hl 2 rfl) ?_
      refine g_X2_75 hx hb hw hown hK hP 2 rfl rfl dX2_mayFollow_168 ?_
      have K_171 : W p l e (rmk 3 65) s m args below meth c s.heap [] 0 0 QQ (F0 m 179 ls [.int (if p2_forgetTenths = (0 : Int32) then (1 : Int32) else (0 : Int32))]) := by
        exact hret (if p2_forgetTenths = (0 : Int32) then (1 : Int32) else (0 : Int32)) _ _ hR (isB.nar (isB_ite isB_1 isB_0)) dX2_mayFollow_179
      refine lv_if_ne (tgt := 178) hx hb dX2_mayFollow_171 (by decide) (fun c_171 => ?_) (fun c_171 => ?_)
      · refine lv_iconst (v := 0) hx hb dX2_mayFollow_178 (by decide) ?_
        exact W.eq (congrArg (fun z => F0 m 179 ls (Value.int z :: [])) (if_neg c_171).symm) K_171
      · refine lv_iconst (v := 1) hx hb dX2_mayFollow_174 (by decide) ?_
        refine lv_goto (tgt := 179) hx hb dX2_mayFollow_175 (by decide) ?_
        exact W.eq (congrArg (fun z => F0 m 179 ls (Value.int z :: [])) (if_pos c_171).symm) K_171
    · replace hR := bn hR n_20_70
      replace hok := hok n_20_70
      by_cases n_20_72 : x1 = (72 : Int32)
      · replace hR := bp hR n_20_72
        refine lv_tsw (off := 126) (tgt := 146) hx hb dX2_mayFollow_20 (by decide) (by rw [n_20_72]; decide) (by decide) ?_
        refine lv_aload_n hx hb dX2_mayFollow_146 rfl (lv_at hl 0 rfl) ?_
        refine g_X2_27 hx hb hw hown hK hP 0 rfl rfl dX2_mayFollow_147 ?_
        refine lv_iconst (v := 1) hx hb dX2_mayFollow_150 (by decide) ?_
        refine lv_aload_n hx hb dX2_mayFollow_151 rfl (lv_at hl 2 rfl) ?_
        refine g_X2_49 hx hb hw hown hK hP 2 rfl rfl dX2_mayFollow_152 ?_
        refine lv_ishl hx hb dX2_mayFollow_155 ?_
        refine lv_iconst (v := 1) hx hb dX2_mayFollow_156 (by decide) ?_
        refine lv_isub hx hb dX2_mayFollow_157 ?_
        have K_158 : W p l e (rmk 3 65) s m args below meth c s.heap [] 0 0 QQ (F0 m 166 ls [.int (if t_homesTold = (((1 : Int32) <<< (p2_people &&& (31 : Int32))) - (1 : Int32)) then (0 : Int32) else (1 : Int32))]) := by
          exact hret (if t_homesTold = (((1 : Int32) <<< (p2_people &&& (31 : Int32))) - (1 : Int32)) then (0 : Int32) else (1 : Int32)) _ _ hR (isB.nar (isB_ite isB_0 isB_1)) dX2_mayFollow_166
        refine lv_icmp_eq (tgt := 165) hx hb dX2_mayFollow_158 (by decide) (fun c_158 => ?_) (fun c_158 => ?_)
        · refine lv_iconst (v := 0) hx hb dX2_mayFollow_165 (by decide) ?_
          exact W.eq (congrArg (fun z => F0 m 166 ls (Value.int z :: [])) (if_pos c_158).symm) K_158
        · refine lv_iconst (v := 1) hx hb dX2_mayFollow_161 (by decide) ?_
          refine lv_goto (tgt := 166) hx hb dX2_mayFollow_162 (by decide) ?_
          exact W.eq (congrArg (fun z => F0 m 166 ls (Value.int z :: [])) (if_neg c_158).symm) K_158
      · replace hR := bn hR n_20_72
        replace hok := hok n_20_72
        by_cases n_20_79 : x1 = (79 : Int32)
        · replace hR := bp hR n_20_79
          refine lv_tsw (off := 106) (tgt := 126) hx hb dX2_mayFollow_20 (by decide) (by rw [n_20_79]; decide) (by decide) ?_
          refine lv_aload_n hx hb dX2_mayFollow_126 rfl (lv_at hl 2 rfl) ?_
          refine g_X2_72 hx hb hw hown hK hP 2 rfl rfl dX2_mayFollow_127 ?_
          refine lv_aload_n hx hb dX2_mayFollow_130 rfl (lv_at hl 0 rfl) ?_
          refine g_X2_24 hx hb hw hown hK hP 0 rfl rfl dX2_mayFollow_131 ?_
          refine lv_iconst (v := -1) hx hb dX2_mayFollow_134 (by decide) ?_
          refine lv_ixor hx hb dX2_mayFollow_135 ?_
          refine lv_iand hx hb dX2_mayFollow_136 ?_
          have K_137 : W p l e (rmk 3 65) s m args below meth c s.heap [] 0 0 QQ (F0 m 145 ls [.int (if (p2_places &&& (t_openTold ^^^ (-1 : Int32))) = (0 : Int32) then (0 : Int32) else (1 : Int32))]) := by
            exact hret (if (p2_places &&& (t_openTold ^^^ (-1 : Int32))) = (0 : Int32) then (0 : Int32) else (1 : Int32)) _ _ hR (isB.nar (isB_ite isB_0 isB_1)) dX2_mayFollow_145
          refine lv_if_eq (tgt := 144) hx hb dX2_mayFollow_137 (by decide) (fun c_137 => ?_) (fun c_137 => ?_)
          · refine lv_iconst (v := 0) hx hb dX2_mayFollow_144 (by decide) ?_
            exact W.eq (congrArg (fun z => F0 m 145 ls (Value.int z :: [])) (if_pos c_137).symm) K_137
          · refine lv_iconst (v := 1) hx hb dX2_mayFollow_140 (by decide) ?_
            refine lv_goto (tgt := 145) hx hb dX2_mayFollow_141 (by decide) ?_
            exact W.eq (congrArg (fun z => F0 m 145 ls (Value.int z :: [])) (if_neg c_137).symm) K_137
        · replace hR := bn hR n_20_79
          replace hok := hok n_20_79
          by_cases n_20_80 : x1 = (80 : Int32)
          · replace hR := bp hR n_20_80
            refine lv_tsw (off := 91) (tgt := 111) hx hb dX2_mayFollow_20 (by decide) (by rw [n_20_80]; decide) (by decide) ?_
            refine lv_aload_n hx hb dX2_mayFollow_111 rfl (lv_at hl 2 rfl) ?_
            refine g_X2_72 hx hb hw hown hK hP 2 rfl rfl dX2_mayFollow_112 ?_
            refine lv_bipush (v := 15) hx hb dX2_mayFollow_115 (by decide) ?_
            have K_117 : W p l e (rmk 3 65) s m args below meth c s.heap [] 0 0 QQ (F0 m 125 ls [.int (if p2_places = (15 : Int32) then (0 : Int32) else (1 : Int32))]) := by
              exact hret (if p2_places = (15 : Int32) then (0 : Int32) else (1 : Int32)) _ _ hR (isB.nar (isB_ite isB_0 isB_1)) dX2_mayFollow_125
            refine lv_icmp_eq (tgt := 124) hx hb dX2_mayFollow_117 (by decide) (fun c_117 => ?_) (fun c_117 => ?_)
            · refine lv_iconst (v := 0) hx hb dX2_mayFollow_124 (by decide) ?_
              exact W.eq (congrArg (fun z => F0 m 125 ls (Value.int z :: [])) (if_pos c_117).symm) K_117
            · refine lv_iconst (v := 1) hx hb dX2_mayFollow_120 (by decide) ?_
              refine lv_goto (tgt := 125) hx hb dX2_mayFollow_121 (by decide) ?_
              exact W.eq (congrArg (fun z => F0 m 125 ls (Value.int z :: [])) (if_neg c_117).symm) K_117
          · replace hR := bn hR n_20_80
            replace hok := hok n_20_80
            by_cases n_20_82 : x1 = (82 : Int32)
            · replace hR := bp hR n_20_82
              replace hok := hok n_20_82
              refine lv_tsw (off := 68) (tgt := 88) hx hb dX2_mayFollow_20 (by decide) (by rw [n_20_82]; decide) (by decide) ?_
              refine lv_aload_n hx hb dX2_mayFollow_88 rfl (lv_at hl 2 rfl) ?_
              refine g_X2_65 hx hb hw hown hK hP 2 rfl rfl dX2_mayFollow_89 ?_
              refine lv_bipush (v := 8) hx hb dX2_mayFollow_92 (by decide) ?_
              have K_94 : W p l e (rmk 3 65) s m args below meth c s.heap [] 0 0 QQ (F0 m 110 ls [.int (if (8 : Int32) ≤ p2_sessions then (0 : Int32) else (if (F_X2_somebodyHasTime t_busy p2_people) = (0 : Int32) then (0 : Int32) else (1 : Int32)))]) := by
                exact hret (if (8 : Int32) ≤ p2_sessions then (0 : Int32) else (if (F_X2_somebodyHasTime t_busy p2_people) = (0 : Int32) then (0 : Int32) else (1 : Int32))) _ _ hR (isB.nar (isB_ite isB_0 (isB_ite isB_0 isB_1))) dX2_mayFollow_110
              refine lv_icmp_ge (tgt := 109) hx hb dX2_mayFollow_94 (by decide) (fun c_94 => ?_) (fun c_94 => ?_)
              · refine lv_iconst (v := 0) hx hb dX2_mayFollow_109 (by decide) ?_
                exact W.eq (congrArg (fun z => F0 m 110 ls (Value.int z :: [])) (if_pos c_94).symm) K_94
              · replace hok := hok c_94
                refine lv_aload_n hx hb dX2_mayFollow_97 rfl (lv_at hl 0 rfl) ?_
                refine lv_aload_n hx hb dX2_mayFollow_98 rfl (lv_at hl 2 rfl) ?_
                have h_99_0 := hok
                refine rdIV (As := [.ref a_p2]) (rest := []) hx hb hml hown hts hG hP k_X2_68 (c_X2_somebodyHasTime (l := l) (D := D) (cy := cy) a_t a_t_busy a_p2 z_t_letter z_t_figures z_t_one z_t_two (.int t_openTold) (.int t_homesTold) (.int p2_sessions) (.int p2_places) (.int p2_forgetTenths) z_p2_ownKeys z_p2_person z_p2_first z_p2_last z_p2_minutes z_p2_risk z_p2_openFirst z_p2_openLast z_p2_homeMinutes z_p2_beginning z_p2_ending z_p2_comer z_p2_nextComer t_busy p2_people h_99_0) ⟨Nat.le_of_ble_eq_true rfl, Nat.le_of_ble_eq_true rfl⟩ [0, 1, 2] rfl 0 rfl rfl rfl rfl hl.1 rfl (Nat.le_of_ble_eq_true rfl) ⟨Nat.zero_le _, Nat.zero_le _⟩ dX2_mayFollow_99 ?_
                refine lv_if_eq (tgt := 109) hx hb dX2_mayFollow_102 (by decide) (fun c_102 => ?_) (fun c_102 => ?_)
                · refine lv_iconst (v := 0) hx hb dX2_mayFollow_109 (by decide) ?_
                  exact W.eq (congrArg (fun z => F0 m 110 ls (Value.int z :: [])) ((if_neg c_94).trans (if_pos c_102)).symm) K_94
                · refine lv_iconst (v := 1) hx hb dX2_mayFollow_105 (by decide) ?_
                  refine lv_goto (tgt := 110) hx hb dX2_mayFollow_106 (by decide) ?_
                  exact W.eq (congrArg (fun z => F0 m 110 ls (Value.int z :: [])) ((if_neg c_94).trans (if_neg c_102)).symm) K_94
            · replace hR := bn hR n_20_82
              refine lv_tsw (off := 160) (tgt := 180) hx hb dX2_mayFollow_20 (by decide) (by simp only []; rw [tsw_no n_20_70 (by decide), tsw_hole, tsw_no n_20_72 (by decide), tsw_hole, tsw_hole, tsw_hole, tsw_hole, tsw_hole, tsw_hole, tsw_no n_20_79 (by decide), tsw_no n_20_80 (by decide), tsw_hole, tsw_no n_20_82 (by decide)]; rfl) (by decide) ?_
              refine lv_iconst (v := 0) hx hb dX2_mayFollow_180 (by decide) ?_
              exact hret (0 : Int32) _ _ hR rfl dX2_mayFollow_181
  · replace hR := bp hR c_4
    refine lv_iload_n hx hb dX2_mayFollow_7 rfl (lv_at hl 1 rfl) ?_
    refine lv_bipush (v := 78) hx hb dX2_mayFollow_8 (by decide) ?_
    have K_10 : W p l e (rmk 3 65) s m args below meth c s.heap [] 0 0 QQ (F0 m 18 ls [.int (if x1 = (78 : Int32) then (1 : Int32) else (0 : Int32))]) := by
      exact hret (if x1 = (78 : Int32) then (1 : Int32) else (0 : Int32)) _ _ hR (isB.nar (isB_ite isB_1 isB_0)) dX2_mayFollow_18
    refine lv_icmp_ne (tgt := 17) hx hb dX2_mayFollow_10 (by decide) (fun c_10 => ?_) (fun c_10 => ?_)
    · refine lv_iconst (v := 0) hx hb dX2_mayFollow_17 (by decide) ?_
      exact W.eq (congrArg (fun z => F0 m 18 ls (Value.int z :: [])) (if_neg c_10).symm) K_10
    · refine lv_iconst (v := 1) hx hb dX2_mayFollow_13 (by decide) ?_
      refine lv_goto (tgt := 18) hx hb dX2_mayFollow_14 (by decide) ?_
      exact W.eq (congrArg (fun z => F0 m 18 ls (Value.int z :: [])) (if_pos c_10).symm) K_10
set_option maxHeartbeats 1000000 in
set_option maxRecDepth 100000 in
theorem c_X2_mayFollow {l : Launch} {D : va_G} {cy : Nat → ClassId} (a_t : Nat) (a_t_busy : Nat) (a_p2 : Nat) (z_t_letter : Value) (z_t_figures : Value) (z_t_one : Value) (z_t_two : Value) (z_p2_ownKeys : Value) (z_p2_person : Value) (z_p2_first : Value) (z_p2_last : Value) (z_p2_minutes : Value) (z_p2_risk : Value) (z_p2_openFirst : Value) (z_p2_openLast : Value) (z_p2_homeMinutes : Value) (z_p2_beginning : Value) (z_p2_ending : Value) (z_p2_comer : Value) (z_p2_nextComer : Value) (t_openTold : Int32) (t_homesTold : Int32) (t_busy : Nat → Int32) (p2_people : Int32) (p2_sessions : Int32) (p2_places : Int32) (p2_forgetTenths : Int32) (x1 : Int32) (hok : (ok_X2_mayFollow t_busy p2_people p2_sessions x1)) : RdI l yX2_mayFollow cX2_mayFollow 3 (some .boolean) 3 65 D cy [.ref a_t, .int x1, .ref a_p2] (wd_X2_mayFollow cy a_t a_t_busy a_p2 z_t_letter z_t_figures z_t_one z_t_two z_p2_ownKeys z_p2_person z_p2_first z_p2_last z_p2_minutes z_p2_risk z_p2_openFirst z_p2_openLast z_p2_homeMinutes z_p2_beginning z_p2_ending z_p2_comer z_p2_nextComer t_openTold t_homesTold t_busy p2_people p2_sessions p2_places p2_forgetTenths) (F_X2_mayFollow t_openTold t_homesTold t_busy p2_people p2_sessions p2_places p2_forgetTenths x1) := by
  refine Met.ofW (cc := cX2_mayFollow) (maxL := 3) (ret := (some .boolean)) (by decide) rfl ?_
  intro p e s m args below meth c s₁ B hml hv
  obtain ⟨rfl, hP, hG⟩ := hv
  have hr := B.returns
  have hlocks := B.notSynchronized
  have hl := lv_entry ([.ref a_t, .int x1, .ref a_p2]) (n := 3) (Nat.le_of_ble_eq_true rfl)
  rw [lg_entry_eq]
  generalize (lg_sl ([.ref a_t, .int x1, .ref a_p2]) ++ List.replicate (3 - (lg_sl ([.ref a_t, .int x1, .ref a_p2])).length) Slot.unset).toArray = ls at hl ⊢
  exact w_X2_mayFollow a_t a_t_busy a_p2 z_t_letter z_t_figures z_t_one z_t_two z_p2_ownKeys z_p2_person z_p2_first z_p2_last z_p2_minutes z_p2_risk z_p2_openFirst z_p2_openLast z_p2_homeMinutes z_p2_beginning z_p2_ending z_p2_comer z_p2_nextComer t_openTold t_homesTold t_busy p2_people p2_sessions p2_places p2_forgetTenths x1 B.exec B.bytes hml (findClass_of_methodNamed B.named) (atoms_spec (ws := Cond.code yX2_mayFollow cX2_mayFollow 3 (some .boolean) :: LW) B.pre) hG (fun r ls pc hF hn hdg => W.zret (v := r) B.exec B.bytes hr hn (fun t ht hW => ⟨r, rfl, hF.symm, ht⟩) (fun _ h => absurd h List.not_mem_nil) hdg) ls hl hP hok rfl
abbrev wd_X2_hoursBetween (cy : Nat → ClassId) : va_W := []
noncomputable def F_X2_hoursBetween (x0 : Int32) (x1 : Int32) : Int32 := (((1 : Int32) <<< ((x1 + (1 : Int32)) &&& (31 : Int32))) - ((1 : Int32) <<< (x0 &&& (31 : Int32))))
set_option maxHeartbeats 4000000 in
set_option maxRecDepth 100000 in
theorem w_X2_hoursBetween {p : Program} {l : Launch} {e : Env} {s : State} {m : MethodId} {args : Array Value} {below : List Frame} {meth : Method} {c : Code} {D : va_G} {cy : Nat → ClassId} {QQ : State → Prop} {FV : Int32} (x0 : Int32) (x1 : Int32) (hx : p.tables.exec = Jvm.exec) (hb : c.code = cX2_hoursBetween) (hml : c.maxLocals = 2) (hown : s.vm.findClass RX2 = some m.cls) (hts : ∀ w ∈ Cond.code yX2_hoursBetween cX2_hoursBetween 2 (some .int) :: LW, w.before args s = true) (hG : GW D cy s) (hret : ∀ (r : Int32) (ls : Array Slot) (pc : Nat), FV = r → decode cX2_hoursBetween pc = .ok (.ireturn, 1) → W p l e (rmk 0 0) s m args below meth c s.heap [] 0 0 QQ (F0 m pc ls [.int r])) (ls : Array Slot) (hl : lv_has ls 2 [(0, .int x0), (1, .int x1)]) (hP : va_P D vwCl (wd_X2_hoursBetween cy) s.heap) (hR : FV = (F_X2_hoursBetween x0 x1)) : W p l e (rmk 0 0) s m args below meth c s.heap [] 0 0 QQ (F0 m 0 ls []) := by
  have hw : ∀ w ∈ LW, w.before args s = true := fun w h => hts w (List.mem_cons_of_mem _ h)
  have hK := hG.1
  unfold F_X2_hoursBetween at hR
  refine lv_iconst (v := 1) hx hb dX2_hoursBetween_0 (by decide) ?_
  refine lv_iload_n hx hb dX2_hoursBetween_1 rfl (lv_at hl 1 rfl) ?_
  refine lv_iconst (v := 1) hx hb dX2_hoursBetween_2 (by decide) ?_
  refine lv_iadd hx hb dX2_hoursBetween_3 ?_
  refine lv_ishl hx hb dX2_hoursBetween_4 ?_
  refine lv_iconst (v := 1) hx hb dX2_hoursBetween_5 (by decide) ?_
  refine lv_iload_n hx hb dX2_hoursBetween_6 rfl (lv_at hl 0 rfl) ?_
  refine lv_ishl hx hb dX2_hoursBetween_7 ?_
  refine lv_isub hx hb dX2_hoursBetween_8 ?_
  exact hret (((1 : Int32) <<< ((x1 + (1 : Int32)) &&& (31 : Int32))) - ((1 : Int32) <<< (x0 &&& (31 : Int32)))) _ _ hR dX2_hoursBetween_9
set_option maxHeartbeats 1000000 in
set_option maxRecDepth 100000 in
theorem c_X2_hoursBetween {l : Launch} {D : va_G} {cy : Nat → ClassId} (x0 : Int32) (x1 : Int32) : RdI l yX2_hoursBetween cX2_hoursBetween 2 (some .int) 0 0 D cy [.int x0, .int x1] (wd_X2_hoursBetween cy) (F_X2_hoursBetween x0 x1) := by
  refine Met.ofW (cc := cX2_hoursBetween) (maxL := 2) (ret := (some .int)) (by decide) rfl ?_
  intro p e s m args below meth c s₁ B hml hv
  obtain ⟨rfl, hP, hG⟩ := hv
  have hr := B.returns
  have hlocks := B.notSynchronized
  have hl := lv_entry ([.int x0, .int x1]) (n := 2) (Nat.le_of_ble_eq_true rfl)
  rw [lg_entry_eq]
  generalize (lg_sl ([.int x0, .int x1]) ++ List.replicate (2 - (lg_sl ([.int x0, .int x1])).length) Slot.unset).toArray = ls at hl ⊢
  exact w_X2_hoursBetween x0 x1 B.exec B.bytes hml (findClass_of_methodNamed B.named) (atoms_spec (ws := Cond.code yX2_hoursBetween cX2_hoursBetween 2 (some .int) :: LW) B.pre) hG (fun r ls pc hF hdg => W.iret (v := r) B.exec B.bytes hr (fun t ht hW => ⟨r, rfl, hF.symm, ht⟩) (fun _ h => absurd h List.not_mem_nil) hdg) ls hl hP rfl
abbrev wd_X2_isRightInSession (cy : Nat → ClassId) (a_t : Nat) (a_t_busy : Nat) (a_p2 : Nat) (z_t_letter : Value) (z_t_openTold : Value) (z_t_homesTold : Value) (z_p2_sessions : Value) (z_p2_places : Value) (z_p2_forgetTenths : Value) (z_p2_ownKeys : Value) (z_p2_person : Value) (z_p2_first : Value) (z_p2_last : Value) (z_p2_minutes : Value) (z_p2_risk : Value) (z_p2_openFirst : Value) (z_p2_openLast : Value) (z_p2_homeMinutes : Value) (z_p2_beginning : Value) (z_p2_ending : Value) (z_p2_comer : Value) (z_p2_nextComer : Value) (t_figures : Int32) (t_one : Int32) (t_two : Int32) (t_busy : Nat → Int32) (p2_people : Int32) : va_W := [(a_t, .inr (2, [z_t_letter, .int t_figures, .int t_one, .int t_two, z_t_openTold, z_t_homesTold, .ref a_t_busy])), (a_t_busy, .inl (cy 1, 6, .inl t_busy)), (a_p2, .inr (1, [.int p2_people, z_p2_sessions, z_p2_places, z_p2_forgetTenths, z_p2_ownKeys, z_p2_person, z_p2_first, z_p2_last, z_p2_minutes, z_p2_risk, z_p2_openFirst, z_p2_openLast, z_p2_homeMinutes, z_p2_beginning, z_p2_ending, z_p2_comer, z_p2_nextComer]))]
noncomputable def F_X2_isRightInSession (t_figures : Int32) (t_one : Int32) (t_two : Int32) (t_busy : Nat → Int32) (p2_people : Int32) (x1 : Int32) : Int32 := (if t_figures = (0 : Int32) then (F_X2_hasTime t_busy p2_people x1) else (if (F_X1_isPerson p2_people t_one) = (0 : Int32) then (0 : Int32) else (if x1 < (if t_figures = (1 : Int32) then x1 else t_two) then (0 : Int32) else (if ((t_busy t_one.toNatClampNeg) &&& (F_X2_hoursBetween (if t_figures = (1 : Int32) then x1 else t_two) x1)) = (0 : Int32) then (1 : Int32) else (0 : Int32)))))
def ok_X2_isRightInSession (t_figures : Int32) (t_one : Int32) (t_two : Int32) (t_busy : Nat → Int32) (p2_people : Int32) (x1 : Int32) : Prop := ((t_figures = (0 : Int32) → ((ok_X2_hasTime p2_people x1)) ∧ (isB (F_X2_hasTime t_busy p2_people x1))) ∧ (¬ (t_figures = (0 : Int32)) → (¬ ((F_X1_isPerson p2_people t_one) = (0 : Int32)) → (¬ (x1 < (if t_figures = (1 : Int32) then x1 else t_two)) → (vp_in t_one 6)))))
set_option maxHeartbeats 4000000 in
set_option maxRecDepth 100000 in
theorem w_X2_isRightInSession {p : Program} {l : Launch} {e : Env} {s : State} {m : MethodId} {args : Array Value} {below : List Frame} {meth : Method} {c : Code} {D : va_G} {cy : Nat → ClassId} {QQ : State → Prop} {FV : Int32} (a_t : Nat) (a_t_busy : Nat) (a_p2 : Nat) (z_t_letter : Value) (z_t_openTold : Value) (z_t_homesTold : Value) (z_p2_sessions : Value) (z_p2_places : Value) (z_p2_forgetTenths : Value) (z_p2_ownKeys : Value) (z_p2_person : Value) (z_p2_first : Value) (z_p2_last : Value) (z_p2_minutes : Value) (z_p2_risk : Value) (z_p2_openFirst : Value) (z_p2_openLast : Value) (z_p2_homeMinutes : Value) (z_p2_beginning : Value) (z_p2_ending : Value) (z_p2_comer : Value) (z_p2_nextComer : Value) (t_figures : Int32) (t_one : Int32) (t_two : Int32) (t_busy : Nat → Int32) (p2_people : Int32) (x1 : Int32) (hx : p.tables.exec = Jvm.exec) (hb : c.code = cX2_isRightInSession) (hml : c.maxLocals = 4) (hown : s.vm.findClass RX2 = some m.cls) (hts : ∀ w ∈ Cond.code yX2_isRightInSession cX2_isRightInSession 4 (some .boolean) :: LW, w.before args s = true) (hG : GW D cy s) (hret : ∀ (r : Int32) (ls : Array Slot) (pc : Nat), FV = r → narrow .boolean (.int r) = .int r → decode cX2_isRightInSession pc = .ok (.ireturn, 1) → W p l e (rmk 2 43) s m args below meth c s.heap [] 0 0 QQ (F0 m pc ls [.int r])) (ls : Array Slot) (hl : lv_has ls 4 [(0, .ref a_t), (1, .int x1), (2, .ref a_p2)]) (hP : va_P D vwCl (wd_X2_isRightInSession cy a_t a_t_busy a_p2 z_t_letter z_t_openTold z_t_homesTold z_p2_sessions z_p2_places z_p2_forgetTenths z_p2_ownKeys z_p2_person z_p2_first z_p2_last z_p2_minutes z_p2_risk z_p2_openFirst z_p2_openLast z_p2_homeMinutes z_p2_beginning z_p2_ending z_p2_comer z_p2_nextComer t_figures t_one t_two t_busy p2_people) s.heap) (hok : (ok_X2_isRightInSession t_figures t_one t_two t_busy p2_people x1)) (hR : FV = (F_X2_isRightInSession t_figures t_one t_two t_busy p2_people x1)) : W p l e (rmk 2 43) s m args below meth c s.heap [] 0 0 QQ (F0 m 0 ls []) := by
  have hw : ∀ w ∈ LW, w.before args s = true := fun w h => hts w (List.mem_cons_of_mem _ h)
  have hK := hG.1
  unfold F_X2_isRightInSession at hR
  unfold ok_X2_isRightInSession at hok
  refine lv_aload_n hx hb dX2_isRightInSession_0 rfl (lv_at hl 0 rfl) ?_
  refine g_X2_15 hx hb hw hown hK hP 0 rfl rfl dX2_isRightInSession_1 ?_
  refine lv_if_ne (tgt := 14) hx hb dX2_isRightInSession_4 (by decide) (fun c_4 => ?_) (fun c_4 => ?_)
  · replace hR := bn hR c_4
    replace hok := hok.2 c_4
    refine lv_aload_n hx hb dX2_isRightInSession_14 rfl (lv_at hl 2 rfl) ?_
    refine lv_aload_n hx hb dX2_isRightInSession_15 rfl (lv_at hl 0 rfl) ?_
    refine g_X2_18 hx hb hw hown hK hP 0 rfl rfl dX2_isRightInSession_16 ?_
    refine rdIV (As := [.int t_one]) (rest := []) hx hb hml hown hts hG hP k_X2_81 (c_X1_isPerson (l := l) (D := D) (cy := cy) a_p2 z_p2_sessions z_p2_places z_p2_forgetTenths z_p2_ownKeys z_p2_person z_p2_first z_p2_last z_p2_minutes z_p2_risk z_p2_openFirst z_p2_openLast z_p2_homeMinutes z_p2_beginning z_p2_ending z_p2_comer z_p2_nextComer p2_people t_one) ⟨Nat.le_of_ble_eq_true rfl, Nat.le_of_ble_eq_true rfl⟩ [2] rfl 2 rfl rfl rfl rfl hl.1 rfl (Nat.le_of_ble_eq_true rfl) ⟨Nat.zero_le _, Nat.zero_le _⟩ dX2_isRightInSession_19 ?_
    refine lv_if_ne (tgt := 27) hx hb dX2_isRightInSession_22 (by decide) (fun c_22 => ?_) (fun c_22 => ?_)
    · replace hR := bn hR c_22
      replace hok := hok c_22
      refine lv_aload_n hx hb dX2_isRightInSession_27 rfl (lv_at hl 0 rfl) ?_
      refine g_X2_15 hx hb hw hown hK hP 0 rfl rfl dX2_isRightInSession_28 ?_
      refine lv_iconst (v := 1) hx hb dX2_isRightInSession_31 (by decide) ?_
      have K_32 : W p l e (rmk 2 43) s m args below meth c s.heap [] 0 0 QQ (F0 m 43 ls [.int (if t_figures = (1 : Int32) then x1 else t_two)]) := by
        refine lv_istore_n (lv' := [(3, .int (if t_figures = (1 : Int32) then x1 else t_two)), (0, .ref a_t), (1, .int x1), (2, .ref a_p2)]) hx hb dX2_isRightInSession_43 rfl hl (Nat.le_of_ble_eq_true rfl) rfl (fun ls hl => ?_)
        refine lv_iload_n hx hb dX2_isRightInSession_44 rfl (lv_at hl 0 rfl) ?_
        refine lv_iload_n hx hb dX2_isRightInSession_45 rfl (lv_at hl 2 rfl) ?_
        have K_46 : W p l e (rmk 2 43) s m args below meth c s.heap [] 0 0 QQ (F0 m 72 ls [.int (if x1 < (if t_figures = (1 : Int32) then x1 else t_two) then (0 : Int32) else (if ((t_busy t_one.toNatClampNeg) &&& (F_X2_hoursBetween (if t_figures = (1 : Int32) then x1 else t_two) x1)) = (0 : Int32) then (1 : Int32) else (0 : Int32)))]) := by
          exact hret (if x1 < (if t_figures = (1 : Int32) then x1 else t_two) then (0 : Int32) else (if ((t_busy t_one.toNatClampNeg) &&& (F_X2_hoursBetween (if t_figures = (1 : Int32) then x1 else t_two) x1)) = (0 : Int32) then (1 : Int32) else (0 : Int32))) _ _ hR (isB.nar (isB_ite isB_0 (isB_ite isB_1 isB_0))) dX2_isRightInSession_72
        refine lv_icmp_gt (tgt := 71) hx hb dX2_isRightInSession_46 (by decide) (fun c_46 => ?_) (fun c_46 => ?_)
        · refine lv_iconst (v := 0) hx hb dX2_isRightInSession_71 (by decide) ?_
          exact W.eq (congrArg (fun z => F0 m 72 ls (Value.int z :: [])) (if_pos c_46).symm) K_46
        · replace hok := hok c_46
          refine lv_aload_n hx hb dX2_isRightInSession_49 rfl (lv_at hl 1 rfl) ?_
          refine g_X2_30 hx hb hw hown hK hP 0 rfl rfl dX2_isRightInSession_50 ?_
          refine lv_aload_n hx hb dX2_isRightInSession_53 rfl (lv_at hl 1 rfl) ?_
          refine g_X2_18 hx hb hw hown hK hP 0 rfl rfl dX2_isRightInSession_54 ?_
          have h_57_0 := hok
          refine va_iald hx hb hK hP 1 1 rfl rfl h_57_0 dX2_isRightInSession_57 ?_
          refine lv_iload_n hx hb dX2_isRightInSession_58 rfl (lv_at hl 0 rfl) ?_
          refine lv_iload_n hx hb dX2_isRightInSession_59 rfl (lv_at hl 2 rfl) ?_
          refine rdIS (As := [.int (if t_figures = (1 : Int32) then x1 else t_two), .int x1]) (rest := [.int (t_busy t_one.toNatClampNeg)]) hx hb hml hown hts hG hP k_X2_101 (c_X2_hoursBetween (l := l) (D := D) (cy := cy) (if t_figures = (1 : Int32) then x1 else t_two) x1) ⟨Nat.le_of_ble_eq_true rfl, Nat.le_of_ble_eq_true rfl⟩ [] rfl rfl hl.1 rfl (Nat.le_of_ble_eq_true rfl) ⟨Nat.zero_le _, Nat.zero_le _⟩ dX2_isRightInSession_60 ?_
          refine lv_iand hx hb dX2_isRightInSession_63 ?_
          refine lv_if_ne (tgt := 71) hx hb dX2_isRightInSession_64 (by decide) (fun c_64 => ?_) (fun c_64 => ?_)
          · refine lv_iconst (v := 0) hx hb dX2_isRightInSession_71 (by decide) ?_
            exact W.eq (congrArg (fun z => F0 m 72 ls (Value.int z :: [])) ((if_neg c_46).trans (if_neg c_64)).symm) K_46
          · refine lv_iconst (v := 1) hx hb dX2_isRightInSession_67 (by decide) ?_
            refine lv_goto (tgt := 72) hx hb dX2_isRightInSession_68 (by decide) ?_
            exact W.eq (congrArg (fun z => F0 m 72 ls (Value.int z :: [])) ((if_neg c_46).trans (if_pos c_64)).symm) K_46
      refine lv_icmp_ne (tgt := 39) hx hb dX2_isRightInSession_32 (by decide) (fun c_32 => ?_) (fun c_32 => ?_)
      · refine lv_aload_n hx hb dX2_isRightInSession_39 rfl (lv_at hl 0 rfl) ?_
        refine g_X2_21 hx hb hw hown hK hP 0 rfl rfl dX2_isRightInSession_40 ?_
        exact W.eq (congrArg (fun z => F0 m 43 ls (Value.int z :: [])) (if_neg c_32).symm) K_32
      · refine lv_iload_n hx hb dX2_isRightInSession_35 rfl (lv_at hl 1 rfl) ?_
        refine lv_goto (tgt := 43) hx hb dX2_isRightInSession_36 (by decide) ?_
        exact W.eq (congrArg (fun z => F0 m 43 ls (Value.int z :: [])) (if_pos c_32).symm) K_32
    · replace hR := bp hR c_22
      refine lv_iconst (v := 0) hx hb dX2_isRightInSession_25 (by decide) ?_
      exact hret (0 : Int32) _ _ hR rfl dX2_isRightInSession_26
  · replace hR := bp hR c_4
    replace hok := hok.1 c_4
    refine lv_aload_n hx hb dX2_isRightInSession_7 rfl (lv_at hl 0 rfl) ?_
    refine lv_iload_n hx hb dX2_isRightInSession_8 rfl (lv_at hl 1 rfl) ?_
    refine lv_aload_n hx hb dX2_isRightInSession_9 rfl (lv_at hl 2 rfl) ?_
    obtain ⟨h_10_0, hok⟩ := hok
    refine rdIV (As := [.int x1, .ref a_p2]) (rest := []) hx hb hml hown hts hG hP k_X2_78 (c_X2_hasTime (l := l) (D := D) (cy := cy) a_t a_t_busy a_p2 z_t_letter (.int t_figures) (.int t_one) (.int t_two) z_t_openTold z_t_homesTold z_p2_sessions z_p2_places z_p2_forgetTenths z_p2_ownKeys z_p2_person z_p2_first z_p2_last z_p2_minutes z_p2_risk z_p2_openFirst z_p2_openLast z_p2_homeMinutes z_p2_beginning z_p2_ending z_p2_comer z_p2_nextComer t_busy p2_people x1 h_10_0) ⟨Nat.le_of_ble_eq_true rfl, Nat.le_of_ble_eq_true rfl⟩ [0, 1, 2] rfl 0 rfl rfl rfl rfl hl.1 rfl (Nat.le_of_ble_eq_true rfl) ⟨Nat.zero_le _, Nat.zero_le _⟩ dX2_isRightInSession_10 ?_
    exact hret (F_X2_hasTime t_busy p2_people x1) _ _ hR (isB.nar hok) dX2_isRightInSession_13
set_option maxHeartbeats 1000000 in
set_option maxRecDepth 100000 in
theorem c_X2_isRightInSession {l : Launch} {D : va_G} {cy : Nat → ClassId} (a_t : Nat) (a_t_busy : Nat) (a_p2 : Nat) (z_t_letter : Value) (z_t_openTold : Value) (z_t_homesTold : Value) (z_p2_sessions : Value) (z_p2_places : Value) (z_p2_forgetTenths : Value) (z_p2_ownKeys : Value) (z_p2_person : Value) (z_p2_first : Value) (z_p2_last : Value) (z_p2_minutes : Value) (z_p2_risk : Value) (z_p2_openFirst : Value) (z_p2_openLast : Value) (z_p2_homeMinutes : Value) (z_p2_beginning : Value) (z_p2_ending : Value) (z_p2_comer : Value) (z_p2_nextComer : Value) (t_figures : Int32) (t_one : Int32) (t_two : Int32) (t_busy : Nat → Int32) (p2_people : Int32) (x1 : Int32) (hok : (ok_X2_isRightInSession t_figures t_one t_two t_busy p2_people x1)) : RdI l yX2_isRightInSession cX2_isRightInSession 4 (some .boolean) 2 43 D cy [.ref a_t, .int x1, .ref a_p2] (wd_X2_isRightInSession cy a_t a_t_busy a_p2 z_t_letter z_t_openTold z_t_homesTold z_p2_sessions z_p2_places z_p2_forgetTenths z_p2_ownKeys z_p2_person z_p2_first z_p2_last z_p2_minutes z_p2_risk z_p2_openFirst z_p2_openLast z_p2_homeMinutes z_p2_beginning z_p2_ending z_p2_comer z_p2_nextComer t_figures t_one t_two t_busy p2_people) (F_X2_isRightInSession t_figures t_one t_two t_busy p2_people x1) := by
  refine Met.ofW (cc := cX2_isRightInSession) (maxL := 4) (ret := (some .boolean)) (by decide) rfl ?_
  intro p e s m args below meth c s₁ B hml hv
  obtain ⟨rfl, hP, hG⟩ := hv
  have hr := B.returns
  have hlocks := B.notSynchronized
  have hl := lv_entry ([.ref a_t, .int x1, .ref a_p2]) (n := 4) (Nat.le_of_ble_eq_true rfl)
  rw [lg_entry_eq]
  generalize (lg_sl ([.ref a_t, .int x1, .ref a_p2]) ++ List.replicate (4 - (lg_sl ([.ref a_t, .int x1, .ref a_p2])).length) Slot.unset).toArray = ls at hl ⊢
  exact w_X2_isRightInSession a_t a_t_busy a_p2 z_t_letter z_t_openTold z_t_homesTold z_p2_sessions z_p2_places z_p2_forgetTenths z_p2_ownKeys z_p2_person z_p2_first z_p2_last z_p2_minutes z_p2_risk z_p2_openFirst z_p2_openLast z_p2_homeMinutes z_p2_beginning z_p2_ending z_p2_comer z_p2_nextComer t_figures t_one t_two t_busy p2_people x1 B.exec B.bytes hml (findClass_of_methodNamed B.named) (atoms_spec (ws := Cond.code yX2_isRightInSession cX2_isRightInSession 4 (some .boolean) :: LW) B.pre) hG (fun r ls pc hF hn hdg => W.zret (v := r) B.exec B.bytes hr hn (fun t ht hW => ⟨r, rfl, hF.symm, ht⟩) (fun _ h => absurd h List.not_mem_nil) hdg) ls hl hP hok rfl
abbrev wd_X2_isRightInOpen (cy : Nat → ClassId) (a_t : Nat) (a_p2 : Nat) (z_t_letter : Value) (z_t_one : Value) (z_t_homesTold : Value) (z_t_busy : Value) (z_p2_people : Value) (z_p2_sessions : Value) (z_p2_forgetTenths : Value) (z_p2_ownKeys : Value) (z_p2_person : Value) (z_p2_first : Value) (z_p2_last : Value) (z_p2_minutes : Value) (z_p2_risk : Value) (z_p2_openFirst : Value) (z_p2_openLast : Value) (z_p2_homeMinutes : Value) (z_p2_beginning : Value) (z_p2_ending : Value) (z_p2_comer : Value) (z_p2_nextComer : Value) (t_figures : Int32) (t_two : Int32) (t_openTold : Int32) (p2_places : Int32) : va_W := [(a_t, .inr (2, [z_t_letter, .int t_figures, z_t_one, .int t_two, .int t_openTold, z_t_homesTold, z_t_busy])), (a_p2, .inr (1, [z_p2_people, z_p2_sessions, .int p2_places, z_p2_forgetTenths, z_p2_ownKeys, z_p2_person, z_p2_first, z_p2_last, z_p2_minutes, z_p2_risk, z_p2_openFirst, z_p2_openLast, z_p2_homeMinutes, z_p2_beginning, z_p2_ending, z_p2_comer, z_p2_nextComer]))]
noncomputable def F_X2_isRightInOpen (t_figures : Int32) (t_two : Int32) (t_openTold : Int32) (p2_places : Int32) (x1 : Int32) : Int32 := (if t_figures = (0 : Int32) then (if (F_X1_isPlace p2_places x1) = (0 : Int32) then (0 : Int32) else (if ((t_openTold >>> (x1 &&& (31 : Int32))) &&& (1 : Int32)) = (0 : Int32) then (1 : Int32) else (0 : Int32))) else (if t_figures = (1 : Int32) then (1 : Int32) else (if x1 < t_two then (0 : Int32) else (1 : Int32))))
set_option maxHeartbeats 4000000 in
set_option maxRecDepth 100000 in
theorem w_X2_isRightInOpen {p : Program} {l : Launch} {e : Env} {s : State} {m : MethodId} {args : Array Value} {below : List Frame} {meth : Method} {c : Code} {D : va_G} {cy : Nat → ClassId} {QQ : State → Prop} {FV : Int32} (a_t : Nat) (a_p2 : Nat) (z_t_letter : Value) (z_t_one : Value) (z_t_homesTold : Value) (z_t_busy : Value) (z_p2_people : Value) (z_p2_sessions : Value) (z_p2_forgetTenths : Value) (z_p2_ownKeys : Value) (z_p2_person : Value) (z_p2_first : Value) (z_p2_last : Value) (z_p2_minutes : Value) (z_p2_risk : Value) (z_p2_openFirst : Value) (z_p2_openLast : Value) (z_p2_homeMinutes : Value) (z_p2_beginning : Value) (z_p2_ending : Value) (z_p2_comer : Value) (z_p2_nextComer : Value) (t_figures : Int32) (t_two : Int32) (t_openTold : Int32) (p2_places : Int32) (x1 : Int32) (hx : p.tables.exec = Jvm.exec) (hb : c.code = cX2_isRightInOpen) (hml : c.maxLocals = 3) (hown : s.vm.findClass RX2 = some m.cls) (hts : ∀ w ∈ Cond.code yX2_isRightInOpen cX2_isRightInOpen 3 (some .boolean) :: LW, w.before args s = true) (hG : GW D cy s) (hret : ∀ (r : Int32) (ls : Array Slot) (pc : Nat), FV = r → narrow .boolean (.int r) = .int r → decode cX2_isRightInOpen pc = .ok (.ireturn, 1) → W p l e (rmk 1 21) s m args below meth c s.heap [] 0 0 QQ (F0 m pc ls [.int r])) (ls : Array Slot) (hl : lv_has ls 3 [(0, .ref a_t), (1, .int x1), (2, .ref a_p2)]) (hP : va_P D vwCl (wd_X2_isRightInOpen cy a_t a_p2 z_t_letter z_t_one z_t_homesTold z_t_busy z_p2_people z_p2_sessions z_p2_forgetTenths z_p2_ownKeys z_p2_person z_p2_first z_p2_last z_p2_minutes z_p2_risk z_p2_openFirst z_p2_openLast z_p2_homeMinutes z_p2_beginning z_p2_ending z_p2_comer z_p2_nextComer t_figures t_two t_openTold p2_places) s.heap) (hR : FV = (F_X2_isRightInOpen t_figures t_two t_openTold p2_places x1)) : W p l e (rmk 1 21) s m args below meth c s.heap [] 0 0 QQ (F0 m 0 ls []) := by
  have hw : ∀ w ∈ LW, w.before args s = true := fun w h => hts w (List.mem_cons_of_mem _ h)
  have hK := hG.1
  unfold F_X2_isRightInOpen at hR
  refine lv_aload_n hx hb dX2_isRightInOpen_0 rfl (lv_at hl 0 rfl) ?_
  refine g_X2_15 hx hb hw hown hK hP 0 rfl rfl dX2_isRightInOpen_1 ?_
  refine lv_if_ne (tgt := 32) hx hb dX2_isRightInOpen_4 (by decide) (fun c_4 => ?_) (fun c_4 => ?_)
  · replace hR := bn hR c_4
    refine lv_aload_n hx hb dX2_isRightInOpen_32 rfl (lv_at hl 0 rfl) ?_
    refine g_X2_15 hx hb hw hown hK hP 0 rfl rfl dX2_isRightInOpen_33 ?_
    refine lv_iconst (v := 1) hx hb dX2_isRightInOpen_36 (by decide) ?_
    have K_37 : W p l e (rmk 1 21) s m args below meth c s.heap [] 0 0 QQ (F0 m 53 ls [.int (if t_figures = (1 : Int32) then (1 : Int32) else (if x1 < t_two then (0 : Int32) else (1 : Int32)))]) := by
      exact hret (if t_figures = (1 : Int32) then (1 : Int32) else (if x1 < t_two then (0 : Int32) else (1 : Int32))) _ _ hR (isB.nar (isB_ite isB_1 (isB_ite isB_0 isB_1))) dX2_isRightInOpen_53
    refine lv_icmp_eq (tgt := 48) hx hb dX2_isRightInOpen_37 (by decide) (fun c_37 => ?_) (fun c_37 => ?_)
    · refine lv_iconst (v := 1) hx hb dX2_isRightInOpen_48 (by decide) ?_
      refine lv_goto (tgt := 53) hx hb dX2_isRightInOpen_49 (by decide) ?_
      exact W.eq (congrArg (fun z => F0 m 53 ls (Value.int z :: [])) (if_pos c_37).symm) K_37
    · refine lv_aload_n hx hb dX2_isRightInOpen_40 rfl (lv_at hl 0 rfl) ?_
      refine g_X2_21 hx hb hw hown hK hP 0 rfl rfl dX2_isRightInOpen_41 ?_
      refine lv_iload_n hx hb dX2_isRightInOpen_44 rfl (lv_at hl 1 rfl) ?_
      refine lv_icmp_gt (tgt := 52) hx hb dX2_isRightInOpen_45 (by decide) (fun c_45 => ?_) (fun c_45 => ?_)
      · refine lv_iconst (v := 0) hx hb dX2_isRightInOpen_52 (by decide) ?_
        exact W.eq (congrArg (fun z => F0 m 53 ls (Value.int z :: [])) ((if_neg c_37).trans (if_pos c_45)).symm) K_37
      · refine lv_iconst (v := 1) hx hb dX2_isRightInOpen_48 (by decide) ?_
        refine lv_goto (tgt := 53) hx hb dX2_isRightInOpen_49 (by decide) ?_
        exact W.eq (congrArg (fun z => F0 m 53 ls (Value.int z :: [])) ((if_neg c_37).trans (if_neg c_45)).symm) K_37
  · replace hR := bp hR c_4
    refine lv_aload_n hx hb dX2_isRightInOpen_7 rfl (lv_at hl 2 rfl) ?_
    refine lv_iload_n hx hb dX2_isRightInOpen_8 rfl (lv_at hl 1 rfl) ?_
    refine rdIV (As := [.int x1]) (rest := []) hx hb hml hown hts hG hP k_X2_95 (c_X1_isPlace (l := l) (D := D) (cy := cy) a_p2 z_p2_people z_p2_sessions z_p2_forgetTenths z_p2_ownKeys z_p2_person z_p2_first z_p2_last z_p2_minutes z_p2_risk z_p2_openFirst z_p2_openLast z_p2_homeMinutes z_p2_beginning z_p2_ending z_p2_comer z_p2_nextComer p2_places x1) ⟨Nat.le_of_ble_eq_true rfl, Nat.le_of_ble_eq_true rfl⟩ [1] rfl 1 rfl rfl rfl rfl hl.1 rfl (Nat.le_of_ble_eq_true rfl) ⟨Nat.zero_le _, Nat.zero_le _⟩ dX2_isRightInOpen_9 ?_
    have K_12 : W p l e (rmk 1 21) s m args below meth c s.heap [] 0 0 QQ (F0 m 31 ls [.int (if (F_X1_isPlace p2_places x1) = (0 : Int32) then (0 : Int32) else (if ((t_openTold >>> (x1 &&& (31 : Int32))) &&& (1 : Int32)) = (0 : Int32) then (1 : Int32) else (0 : Int32)))]) := by
      exact hret (if (F_X1_isPlace p2_places x1) = (0 : Int32) then (0 : Int32) else (if ((t_openTold >>> (x1 &&& (31 : Int32))) &&& (1 : Int32)) = (0 : Int32) then (1 : Int32) else (0 : Int32))) _ _ hR (isB.nar (isB_ite isB_0 (isB_ite isB_1 isB_0))) dX2_isRightInOpen_31
    refine lv_if_eq (tgt := 30) hx hb dX2_isRightInOpen_12 (by decide) (fun c_12 => ?_) (fun c_12 => ?_)
    · refine lv_iconst (v := 0) hx hb dX2_isRightInOpen_30 (by decide) ?_
      exact W.eq (congrArg (fun z => F0 m 31 ls (Value.int z :: [])) (if_pos c_12).symm) K_12
    · refine lv_aload_n hx hb dX2_isRightInOpen_15 rfl (lv_at hl 0 rfl) ?_
      refine g_X2_24 hx hb hw hown hK hP 0 rfl rfl dX2_isRightInOpen_16 ?_
      refine lv_iload_n hx hb dX2_isRightInOpen_19 rfl (lv_at hl 1 rfl) ?_
      refine lv_ishr hx hb dX2_isRightInOpen_20 ?_
      refine lv_iconst (v := 1) hx hb dX2_isRightInOpen_21 (by decide) ?_
      refine lv_iand hx hb dX2_isRightInOpen_22 ?_
      refine lv_if_ne (tgt := 30) hx hb dX2_isRightInOpen_23 (by decide) (fun c_23 => ?_) (fun c_23 => ?_)
      · refine lv_iconst (v := 0) hx hb dX2_isRightInOpen_30 (by decide) ?_
        exact W.eq (congrArg (fun z => F0 m 31 ls (Value.int z :: [])) ((if_neg c_12).trans (if_neg c_23)).symm) K_12
      · refine lv_iconst (v := 1) hx hb dX2_isRightInOpen_26 (by decide) ?_
        refine lv_goto (tgt := 31) hx hb dX2_isRightInOpen_27 (by decide) ?_
        exact W.eq (congrArg (fun z => F0 m 31 ls (Value.int z :: [])) ((if_neg c_12).trans (if_pos c_23)).symm) K_12
set_option maxHeartbeats 1000000 in
set_option maxRecDepth 100000 in
theorem c_X2_isRightInOpen {l : Launch} {D : va_G} {cy : Nat → ClassId} (a_t : Nat) (a_p2 : Nat) (z_t_letter : Value) (z_t_one : Value) (z_t_homesTold : Value) (z_t_busy : Value) (z_p2_people : Value) (z_p2_sessions : Value) (z_p2_forgetTenths : Value) (z_p2_ownKeys : Value) (z_p2_person : Value) (z_p2_first : Value) (z_p2_last : Value) (z_p2_minutes : Value) (z_p2_risk : Value) (z_p2_openFirst : Value) (z_p2_openLast : Value) (z_p2_homeMinutes : Value) (z_p2_beginning : Value) (z_p2_ending : Value) (z_p2_comer : Value) (z_p2_nextComer : Value) (t_figures : Int32) (t_two : Int32) (t_openTold : Int32) (p2_places : Int32) (x1 : Int32) : RdI l yX2_isRightInOpen cX2_isRightInOpen 3 (some .boolean) 1 21 D cy [.ref a_t, .int x1, .ref a_p2] (wd_X2_isRightInOpen cy a_t a_p2 z_t_letter z_t_one z_t_homesTold z_t_busy z_p2_people z_p2_sessions z_p2_forgetTenths z_p2_ownKeys z_p2_person z_p2_first z_p2_last z_p2_minutes z_p2_risk z_p2_openFirst z_p2_openLast z_p2_homeMinutes z_p2_beginning z_p2_ending z_p2_comer z_p2_nextComer t_figures t_two t_openTold p2_places) (F_X2_isRightInOpen t_figures t_two t_openTold p2_places x1) := by
  refine Met.ofW (cc := cX2_isRightInOpen) (maxL := 3) (ret := (some .boolean)) (by decide) rfl ?_
  intro p e s m args below meth c s₁ B hml hv
  obtain ⟨rfl, hP, hG⟩ := hv
  have hr := B.returns
  have hlocks := B.notSynchronized
  have hl := lv_entry ([.ref a_t, .int x1, .ref a_p2]) (n := 3) (Nat.le_of_ble_eq_true rfl)
  rw [lg_entry_eq]
  generalize (lg_sl ([.ref a_t, .int x1, .ref a_p2]) ++ List.replicate (3 - (lg_sl ([.ref a_t, .int x1, .ref a_p2])).length) Slot.unset).toArray = ls at hl ⊢
  exact w_X2_isRightInOpen a_t a_p2 z_t_letter z_t_one z_t_homesTold z_t_busy z_p2_people z_p2_sessions z_p2_forgetTenths z_p2_ownKeys z_p2_person z_p2_first z_p2_last z_p2_minutes z_p2_risk z_p2_openFirst z_p2_openLast z_p2_homeMinutes z_p2_beginning z_p2_ending z_p2_comer z_p2_nextComer t_figures t_two t_openTold p2_places x1 B.exec B.bytes hml (findClass_of_methodNamed B.named) (atoms_spec (ws := Cond.code yX2_isRightInOpen cX2_isRightInOpen 3 (some .boolean) :: LW) B.pre) hG (fun r ls pc hF hn hdg => W.zret (v := r) B.exec B.bytes hr hn (fun t ht hW => ⟨r, rfl, hF.symm, ht⟩) (fun _ h => absurd h List.not_mem_nil) hdg) ls hl hP rfl
abbrev wd_X2_isRight (cy : Nat → ClassId) (a_t : Nat) (a_t_busy : Nat) (a_p2 : Nat) (z_p2_sessions : Value) (z_p2_forgetTenths : Value) (z_p2_ownKeys : Value) (z_p2_person : Value) (z_p2_first : Value) (z_p2_last : Value) (z_p2_minutes : Value) (z_p2_risk : Value) (z_p2_openFirst : Value) (z_p2_openLast : Value) (z_p2_homeMinutes : Value) (z_p2_beginning : Value) (z_p2_ending : Value) (z_p2_comer : Value) (z_p2_nextComer : Value) (t_letter : Int32) (t_figures : Int32) (t_one : Int32) (t_two : Int32) (t_openTold : Int32) (t_homesTold : Int32) (t_busy : Nat → Int32) (p2_people : Int32) (p2_places : Int32) : va_W := [(a_t, .inr (2, [.int t_letter, .int t_figures, .int t_one, .int t_two, .int t_openTold, .int t_homesTold, .ref a_t_busy])), (a_t_busy, .inl (cy 1, 6, .inl t_busy)), (a_p2, .inr (1, [.int p2_people, z_p2_sessions, .int p2_places, z_p2_forgetTenths, z_p2_ownKeys, z_p2_person, z_p2_first, z_p2_last, z_p2_minutes, z_p2_risk, z_p2_openFirst, z_p2_openLast, z_p2_homeMinutes, z_p2_beginning, z_p2_ending, z_p2_comer, z_p2_nextComer]))]
noncomputable def F_X2_isRight (t_letter : Int32) (t_figures : Int32) (t_one : Int32) (t_two : Int32) (t_openTold : Int32) (t_homesTold : Int32) (t_busy : Nat → Int32) (p2_people : Int32) (p2_places : Int32) (x1 : Int32) : Int32 := (if t_letter = (72 : Int32) then (if t_figures = (0 : Int32) then (if (F_X1_isPerson p2_people x1) = (0 : Int32) then (0 : Int32) else (if ((t_homesTold >>> (x1 &&& (31 : Int32))) &&& (1 : Int32)) = (0 : Int32) then (1 : Int32) else (0 : Int32))) else (1 : Int32)) else (if t_letter = (78 : Int32) then (if x1 < (1 : Int32) then (0 : Int32) else (if (6 : Int32) < x1 then (0 : Int32) else (1 : Int32))) else (if t_letter = (79 : Int32) then (F_X2_isRightInOpen t_figures t_two t_openTold p2_places x1) else (if t_letter = (80 : Int32) then (if t_figures = (0 : Int32) then (if (4 : Int32) ≤ x1 then (0 : Int32) else (if (F_X1_isPlace p2_places x1) = (0 : Int32) then (1 : Int32) else (0 : Int32))) else (1 : Int32)) else (if t_letter = (82 : Int32) then (F_X2_isRightInSession t_figures t_one t_two t_busy p2_people x1) else (if x1 < (1 : Int32) then (0 : Int32) else (1 : Int32)))))))
def ok_X2_isRight (t_letter : Int32) (t_figures : Int32) (t_one : Int32) (t_two : Int32) (t_openTold : Int32) (t_busy : Nat → Int32) (p2_people : Int32) (p2_places : Int32) (x1 : Int32) : Prop := (¬ (t_letter = (72 : Int32)) → (¬ (t_letter = (78 : Int32)) → ((t_letter = (79 : Int32) → (isB (F_X2_isRightInOpen t_figures t_two t_openTold p2_places x1))) ∧ (¬ (t_letter = (79 : Int32)) → (¬ (t_letter = (80 : Int32)) → (t_letter = (82 : Int32) → ((ok_X2_isRightInSession t_figures t_one t_two t_busy p2_people x1)) ∧ (isB (F_X2_isRightInSession t_figures t_one t_two t_busy p2_people x1))))))))
set_option maxHeartbeats 4000000 in
set_option maxRecDepth 100000 in
theorem w_X2_isRight {p : Program} {l : Launch} {e : Env} {s : State} {m : MethodId} {args : Array Value} {below : List Frame} {meth : Method} {c : Code} {D : va_G} {cy : Nat → ClassId} {QQ : State → Prop} {FV : Int32} (a_t : Nat) (a_t_busy : Nat) (a_p2 : Nat) (z_p2_sessions : Value) (z_p2_forgetTenths : Value) (z_p2_ownKeys : Value) (z_p2_person : Value) (z_p2_first : Value) (z_p2_last : Value) (z_p2_minutes : Value) (z_p2_risk : Value) (z_p2_openFirst : Value) (z_p2_openLast : Value) (z_p2_homeMinutes : Value) (z_p2_beginning : Value) (z_p2_ending : Value) (z_p2_comer : Value) (z_p2_nextComer : Value) (t_letter : Int32) (t_figures : Int32) (t_one : Int32) (t_two : Int32) (t_openTold : Int32) (t_homesTold : Int32) (t_busy : Nat → Int32) (p2_people : Int32) (p2_places : Int32) (x1 : Int32) (hx : p.tables.exec = Jvm.exec) (hb : c.code = cX2_isRight) (hml : c.maxLocals = 3) (hown : s.vm.findClass RX2 = some m.cls) (hts : ∀ w ∈ Cond.code yX2_isRight cX2_isRight 3 (some .boolean) :: LW, w.before args s = true) (hG : GW D cy s) (hret : ∀ (r : Int32) (ls : Array Slot) (pc : Nat), FV = r → narrow .boolean (.int r) = .int r → decode cX2_isRight pc = .ok (.ireturn, 1) → W p l e (rmk 3 66) s m args below meth c s.heap [] 0 0 QQ (F0 m pc ls [.int r])) (ls : Array Slot) (hl : lv_has ls 3 [(0, .ref a_t), (1, .int x1), (2, .ref a_p2)]) (hP : va_P D vwCl (wd_X2_isRight cy a_t a_t_busy a_p2 z_p2_sessions z_p2_forgetTenths z_p2_ownKeys z_p2_person z_p2_first z_p2_last z_p2_minutes z_p2_risk z_p2_openFirst z_p2_openLast z_p2_homeMinutes z_p2_beginning z_p2_ending z_p2_comer z_p2_nextComer t_letter t_figures t_one t_two t_openTold t_homesTold t_busy p2_people p2_places) s.heap) (hok : (ok_X2_isRight t_letter t_figures t_one t_two t_openTold t_busy p2_people p2_places x1)) (hR : FV = (F_X2_isRight t_letter t_figures t_one t_two t_openTold t_homesTold t_busy p2_people p2_places x1)) : W p l e (rmk 3 66) s m args below meth c s.heap [] 0 0 QQ (F0 m 0 ls []) := by
  have hw : ∀ w ∈ LW, w.before args s = true := fun w h => hts w (List.mem_cons_of_mem _ h)
  have hK := hG.1
  unfold F_X2_isRight at hR
  unfold ok_X2_isRight at hok
  refine lv_aload_n hx hb dX2_isRight_0 rfl (lv_at hl 0 rfl) ?_
  refine g_X2_9 hx hb hw hown hK hP 0 rfl rfl dX2_isRight_1 ?_
  by_cases n_4_72 : t_letter = (72 : Int32)
  · replace hR := bp hR n_4_72
    refine lv_tsw (off := 117) (tgt := 121) hx hb dX2_isRight_4 (by decide) (by rw [n_4_72]; decide) (by decide) ?_
    refine lv_aload_n hx hb dX2_isRight_121 rfl (lv_at hl 0 rfl) ?_
    refine g_X2_15 hx hb hw hown hK hP 0 rfl rfl dX2_isRight_122 ?_
    have K_125 : W p l e (rmk 3 66) s m args below meth c s.heap [] 0 0 QQ (F0 m 152 ls [.int (if t_figures = (0 : Int32) then (if (F_X1_isPerson p2_people x1) = (0 : Int32) then (0 : Int32) else (if ((t_homesTold >>> (x1 &&& (31 : Int32))) &&& (1 : Int32)) = (0 : Int32) then (1 : Int32) else (0 : Int32))) else (1 : Int32))]) := by
      exact hret (if t_figures = (0 : Int32) then (if (F_X1_isPerson p2_people x1) = (0 : Int32) then (0 : Int32) else (if ((t_homesTold >>> (x1 &&& (31 : Int32))) &&& (1 : Int32)) = (0 : Int32) then (1 : Int32) else (0 : Int32))) else (1 : Int32)) _ _ hR (isB.nar (isB_ite (isB_ite isB_0 (isB_ite isB_1 isB_0)) isB_1)) dX2_isRight_152
    refine lv_if_ne (tgt := 147) hx hb dX2_isRight_125 (by decide) (fun c_125 => ?_) (fun c_125 => ?_)
    · refine lv_iconst (v := 1) hx hb dX2_isRight_147 (by decide) ?_
      refine lv_goto (tgt := 152) hx hb dX2_isRight_148 (by decide) ?_
      exact W.eq (congrArg (fun z => F0 m 152 ls (Value.int z :: [])) (if_neg c_125).symm) K_125
    · refine lv_aload_n hx hb dX2_isRight_128 rfl (lv_at hl 2 rfl) ?_
      refine lv_iload_n hx hb dX2_isRight_129 rfl (lv_at hl 1 rfl) ?_
      refine rdIV (As := [.int x1]) (rest := []) hx hb hml hown hts hG hP k_X2_81 (c_X1_isPerson (l := l) (D := D) (cy := cy) a_p2 z_p2_sessions (.int p2_places) z_p2_forgetTenths z_p2_ownKeys z_p2_person z_p2_first z_p2_last z_p2_minutes z_p2_risk z_p2_openFirst z_p2_openLast z_p2_homeMinutes z_p2_beginning z_p2_ending z_p2_comer z_p2_nextComer p2_people x1) ⟨Nat.le_of_ble_eq_true rfl, Nat.le_of_ble_eq_true rfl⟩ [2] rfl 2 rfl rfl rfl rfl hl.1 rfl (Nat.le_of_ble_eq_true rfl) ⟨Nat.zero_le _, Nat.zero_le _⟩ dX2_isRight_130 ?_
      refine lv_if_eq (tgt := 151) hx hb dX2_isRight_133 (by decide) (fun c_133 => ?_) (fun c_133 => ?_)
      · refine lv_iconst (v := 0) hx hb dX2_isRight_151 (by decide) ?_
        exact W.eq (congrArg (fun z => F0 m 152 ls (Value.int z :: [])) ((if_pos c_125).trans (if_pos c_133)).symm) K_125
      · refine lv_aload_n hx hb dX2_isRight_136 rfl (lv_at hl 0 rfl) ?_
        refine g_X2_27 hx hb hw hown hK hP 0 rfl rfl dX2_isRight_137 ?_
        refine lv_iload_n hx hb dX2_isRight_140 rfl (lv_at hl 1 rfl) ?_
        refine lv_ishr hx hb dX2_isRight_141 ?_
        refine lv_iconst (v := 1) hx hb dX2_isRight_142 (by decide) ?_
        refine lv_iand hx hb dX2_isRight_143 ?_
        refine lv_if_ne (tgt := 151) hx hb dX2_isRight_144 (by decide) (fun c_144 => ?_) (fun c_144 => ?_)
        · refine lv_iconst (v := 0) hx hb dX2_isRight_151 (by decide) ?_
          exact W.eq (congrArg (fun z => F0 m 152 ls (Value.int z :: [])) ((if_pos c_125).trans ((if_neg c_133).trans (if_neg c_144))).symm) K_125
        · refine lv_iconst (v := 1) hx hb dX2_isRight_147 (by decide) ?_
          refine lv_goto (tgt := 152) hx hb dX2_isRight_148 (by decide) ?_
          exact W.eq (congrArg (fun z => F0 m 152 ls (Value.int z :: [])) ((if_pos c_125).trans ((if_neg c_133).trans (if_pos c_144))).symm) K_125
  · replace hR := bn hR n_4_72
    replace hok := hok n_4_72
    by_cases n_4_78 : t_letter = (78 : Int32)
    · replace hR := bp hR n_4_78
      refine lv_tsw (off := 60) (tgt := 64) hx hb dX2_isRight_4 (by decide) (by rw [n_4_78]; decide) (by decide) ?_
      refine lv_iload_n hx hb dX2_isRight_64 rfl (lv_at hl 1 rfl) ?_
      refine lv_iconst (v := 1) hx hb dX2_isRight_65 (by decide) ?_
      have K_66 : W p l e (rmk 3 66) s m args below meth c s.heap [] 0 0 QQ (F0 m 80 ls [.int (if x1 < (1 : Int32) then (0 : Int32) else (if (6 : Int32) < x1 then (0 : Int32) else (1 : Int32)))]) := by
        exact hret (if x1 < (1 : Int32) then (0 : Int32) else (if (6 : Int32) < x1 then (0 : Int32) else (1 : Int32))) _ _ hR (isB.nar (isB_ite isB_0 (isB_ite isB_0 isB_1))) dX2_isRight_80
      refine lv_icmp_lt (tgt := 79) hx hb dX2_isRight_66 (by decide) (fun c_66 => ?_) (fun c_66 => ?_)
      · refine lv_iconst (v := 0) hx hb dX2_isRight_79 (by decide) ?_
        exact W.eq (congrArg (fun z => F0 m 80 ls (Value.int z :: [])) (if_pos c_66).symm) K_66
      · refine lv_iload_n hx hb dX2_isRight_69 rfl (lv_at hl 1 rfl) ?_
        refine lv_bipush (v := 6) hx hb dX2_isRight_70 (by decide) ?_
        refine lv_icmp_gt (tgt := 79) hx hb dX2_isRight_72 (by decide) (fun c_72 => ?_) (fun c_72 => ?_)
        · refine lv_iconst (v := 0) hx hb dX2_isRight_79 (by decide) ?_
          exact W.eq (congrArg (fun z => F0 m 80 ls (Value.int z :: [])) ((if_neg c_66).trans (if_pos c_72)).symm) K_66
        · refine lv_iconst (v := 1) hx hb dX2_isRight_75 (by decide) ?_
          refine lv_goto (tgt := 80) hx hb dX2_isRight_76 (by decide) ?_
          exact W.eq (congrArg (fun z => F0 m 80 ls (Value.int z :: [])) ((if_neg c_66).trans (if_neg c_72)).symm) K_66
    · replace hR := bn hR n_4_78
      replace hok := hok n_4_78
      by_cases n_4_79 : t_letter = (79 : Int32)
      · replace hR := bp hR n_4_79
        replace hok := hok.1 n_4_79
        refine lv_tsw (off := 110) (tgt := 114) hx hb dX2_isRight_4 (by decide) (by rw [n_4_79]; decide) (by decide) ?_
        refine lv_aload_n hx hb dX2_isRight_114 rfl (lv_at hl 0 rfl) ?_
        refine lv_iload_n hx hb dX2_isRight_115 rfl (lv_at hl 1 rfl) ?_
        refine lv_aload_n hx hb dX2_isRight_116 rfl (lv_at hl 2 rfl) ?_
        refine rdIV (As := [.int x1, .ref a_p2]) (rest := []) hx hb hml hown hts hG hP k_X2_98 (c_X2_isRightInOpen (l := l) (D := D) (cy := cy) a_t a_p2 (.int t_letter) (.int t_one) (.int t_homesTold) (.ref a_t_busy) (.int p2_people) z_p2_sessions z_p2_forgetTenths z_p2_ownKeys z_p2_person z_p2_first z_p2_last z_p2_minutes z_p2_risk z_p2_openFirst z_p2_openLast z_p2_homeMinutes z_p2_beginning z_p2_ending z_p2_comer z_p2_nextComer t_figures t_two t_openTold p2_places x1) ⟨Nat.le_of_ble_eq_true rfl, Nat.le_of_ble_eq_true rfl⟩ [0, 2] rfl 0 rfl rfl rfl rfl hl.1 rfl (Nat.le_of_ble_eq_true rfl) ⟨Nat.zero_le _, Nat.zero_le _⟩ dX2_isRight_117 ?_
        exact hret (F_X2_isRightInOpen t_figures t_two t_openTold p2_places x1) _ _ hR (isB.nar hok) dX2_isRight_120
      · replace hR := bn hR n_4_79
        replace hok := hok.2 n_4_79
        by_cases n_4_80 : t_letter = (80 : Int32)
        · replace hR := bp hR n_4_80
          refine lv_tsw (off := 84) (tgt := 88) hx hb dX2_isRight_4 (by decide) (by rw [n_4_80]; decide) (by decide) ?_
          refine lv_aload_n hx hb dX2_isRight_88 rfl (lv_at hl 0 rfl) ?_
          refine g_X2_15 hx hb hw hown hK hP 0 rfl rfl dX2_isRight_89 ?_
          have K_92 : W p l e (rmk 3 66) s m args below meth c s.heap [] 0 0 QQ (F0 m 113 ls [.int (if t_figures = (0 : Int32) then (if (4 : Int32) ≤ x1 then (0 : Int32) else (if (F_X1_isPlace p2_places x1) = (0 : Int32) then (1 : Int32) else (0 : Int32))) else (1 : Int32))]) := by
            exact hret (if t_figures = (0 : Int32) then (if (4 : Int32) ≤ x1 then (0 : Int32) else (if (F_X1_isPlace p2_places x1) = (0 : Int32) then (1 : Int32) else (0 : Int32))) else (1 : Int32)) _ _ hR (isB.nar (isB_ite (isB_ite isB_0 (isB_ite isB_1 isB_0)) isB_1)) dX2_isRight_113
          refine lv_if_ne (tgt := 108) hx hb dX2_isRight_92 (by decide) (fun c_92 => ?_) (fun c_92 => ?_)
          · refine lv_iconst (v := 1) hx hb dX2_isRight_108 (by decide) ?_
            refine lv_goto (tgt := 113) hx hb dX2_isRight_109 (by decide) ?_
            exact W.eq (congrArg (fun z => F0 m 113 ls (Value.int z :: [])) (if_neg c_92).symm) K_92
          · refine lv_iload_n hx hb dX2_isRight_95 rfl (lv_at hl 1 rfl) ?_
            refine lv_iconst (v := 4) hx hb dX2_isRight_96 (by decide) ?_
            refine lv_icmp_ge (tgt := 112) hx hb dX2_isRight_97 (by decide) (fun c_97 => ?_) (fun c_97 => ?_)
            · refine lv_iconst (v := 0) hx hb dX2_isRight_112 (by decide) ?_
              exact W.eq (congrArg (fun z => F0 m 113 ls (Value.int z :: [])) ((if_pos c_92).trans (if_pos c_97)).symm) K_92
            · refine lv_aload_n hx hb dX2_isRight_100 rfl (lv_at hl 2 rfl) ?_
              refine lv_iload_n hx hb dX2_isRight_101 rfl (lv_at hl 1 rfl) ?_
              refine rdIV (As := [.int x1]) (rest := []) hx hb hml hown hts hG hP k_X2_95 (c_X1_isPlace (l := l) (D := D) (cy := cy) a_p2 (.int p2_people) z_p2_sessions z_p2_forgetTenths z_p2_ownKeys z_p2_person z_p2_first z_p2_last z_p2_minutes z_p2_risk z_p2_openFirst z_p2_openLast z_p2_homeMinutes z_p2_beginning z_p2_ending z_p2_comer z_p2_nextComer p2_places x1) ⟨Nat.le_of_ble_eq_true rfl, Nat.le_of_ble_eq_true rfl⟩ [2] rfl 2 rfl rfl rfl rfl hl.1 rfl (Nat.le_of_ble_eq_true rfl) ⟨Nat.zero_le _, Nat.zero_le _⟩ dX2_isRight_102 ?_
              refine lv_if_ne (tgt := 112) hx hb dX2_isRight_105 (by decide) (fun c_105 => ?_) (fun c_105 => ?_)
              · refine lv_iconst (v := 0) hx hb dX2_isRight_112 (by decide) ?_
                exact W.eq (congrArg (fun z => F0 m 113 ls (Value.int z :: [])) ((if_pos c_92).trans ((if_neg c_97).trans (if_neg c_105))).symm) K_92
              · refine lv_iconst (v := 1) hx hb dX2_isRight_108 (by decide) ?_
                refine lv_goto (tgt := 113) hx hb dX2_isRight_109 (by decide) ?_
                exact W.eq (congrArg (fun z => F0 m 113 ls (Value.int z :: [])) ((if_pos c_92).trans ((if_neg c_97).trans (if_pos c_105))).symm) K_92
        · replace hR := bn hR n_4_80
          replace hok := hok n_4_80
          by_cases n_4_82 : t_letter = (82 : Int32)
          · replace hR := bp hR n_4_82
            replace hok := hok n_4_82
            refine lv_tsw (off := 77) (tgt := 81) hx hb dX2_isRight_4 (by decide) (by rw [n_4_82]; decide) (by decide) ?_
            refine lv_aload_n hx hb dX2_isRight_81 rfl (lv_at hl 0 rfl) ?_
            refine lv_iload_n hx hb dX2_isRight_82 rfl (lv_at hl 1 rfl) ?_
            refine lv_aload_n hx hb dX2_isRight_83 rfl (lv_at hl 2 rfl) ?_
            obtain ⟨h_84_0, hok⟩ := hok
            refine rdIV (As := [.int x1, .ref a_p2]) (rest := []) hx hb hml hown hts hG hP k_X2_92 (c_X2_isRightInSession (l := l) (D := D) (cy := cy) a_t a_t_busy a_p2 (.int t_letter) (.int t_openTold) (.int t_homesTold) z_p2_sessions (.int p2_places) z_p2_forgetTenths z_p2_ownKeys z_p2_person z_p2_first z_p2_last z_p2_minutes z_p2_risk z_p2_openFirst z_p2_openLast z_p2_homeMinutes z_p2_beginning z_p2_ending z_p2_comer z_p2_nextComer t_figures t_one t_two t_busy p2_people x1 h_84_0) ⟨Nat.le_of_ble_eq_true rfl, Nat.le_of_ble_eq_true rfl⟩ [0, 1, 2] rfl 0 rfl rfl rfl rfl hl.1 rfl (Nat.le_of_ble_eq_true rfl) ⟨Nat.zero_le _, Nat.zero_le _⟩ dX2_isRight_84 ?_
            exact hret (F_X2_isRightInSession t_figures t_one t_two t_busy p2_people x1) _ _ hR (isB.nar hok) dX2_isRight_87
          · replace hR := bn hR n_4_82
            refine lv_tsw (off := 149) (tgt := 153) hx hb dX2_isRight_4 (by decide) (by simp only []; rw [tsw_no n_4_72 (by decide), tsw_hole, tsw_hole, tsw_hole, tsw_hole, tsw_hole, tsw_no n_4_78 (by decide), tsw_no n_4_79 (by decide), tsw_no n_4_80 (by decide), tsw_hole, tsw_no n_4_82 (by decide)]; rfl) (by decide) ?_
            refine lv_iload_n hx hb dX2_isRight_153 rfl (lv_at hl 1 rfl) ?_
            refine lv_iconst (v := 1) hx hb dX2_isRight_154 (by decide) ?_
            have K_155 : W p l e (rmk 3 66) s m args below meth c s.heap [] 0 0 QQ (F0 m 163 ls [.int (if x1 < (1 : Int32) then (0 : Int32) else (1 : Int32))]) := by
              exact hret (if x1 < (1 : Int32) then (0 : Int32) else (1 : Int32)) _ _ hR (isB.nar (isB_ite isB_0 isB_1)) dX2_isRight_163
            refine lv_icmp_lt (tgt := 162) hx hb dX2_isRight_155 (by decide) (fun c_155 => ?_) (fun c_155 => ?_)
            · refine lv_iconst (v := 0) hx hb dX2_isRight_162 (by decide) ?_
              exact W.eq (congrArg (fun z => F0 m 163 ls (Value.int z :: [])) (if_pos c_155).symm) K_155
            · refine lv_iconst (v := 1) hx hb dX2_isRight_158 (by decide) ?_
              refine lv_goto (tgt := 163) hx hb dX2_isRight_159 (by decide) ?_
              exact W.eq (congrArg (fun z => F0 m 163 ls (Value.int z :: [])) (if_neg c_155).symm) K_155
set_option maxHeartbeats 1000000 in
set_option maxRecDepth 100000 in
theorem c_X2_isRight {l : Launch} {D : va_G} {cy : Nat → ClassId} (a_t : Nat) (a_t_busy : Nat) (a_p2 : Nat) (z_p2_sessions : Value) (z_p2_forgetTenths : Value) (z_p2_ownKeys : Value) (z_p2_person : Value) (z_p2_first : Value) (z_p2_last : Value) (z_p2_minutes : Value) (z_p2_risk : Value) (z_p2_openFirst : Value) (z_p2_openLast : Value) (z_p2_homeMinutes : Value) (z_p2_beginning : Value) (z_p2_ending : Value) (z_p2_comer : Value) (z_p2_nextComer : Value) (t_letter : Int32) (t_figures : Int32) (t_one : Int32) (t_two : Int32) (t_openTold : Int32) (t_homesTold : Int32) (t_busy : Nat → Int32) (p2_people : Int32) (p2_places : Int32) (x1 : Int32) (hok : (ok_X2_isRight t_letter t_figures t_one t_two t_openTold t_busy p2_people p2_places x1)) : RdI l yX2_isRight cX2_isRight 3 (some .boolean) 3 66 D cy [.ref a_t, .int x1, .ref a_p2] (wd_X2_isRight cy a_t a_t_busy a_p2 z_p2_sessions z_p2_forgetTenths z_p2_ownKeys z_p2_person z_p2_first z_p2_last z_p2_minutes z_p2_risk z_p2_openFirst z_p2_openLast z_p2_homeMinutes z_p2_beginning z_p2_ending z_p2_comer z_p2_nextComer t_letter t_figures t_one t_two t_openTold t_homesTold t_busy p2_people p2_places) (F_X2_isRight t_letter t_figures t_one t_two t_openTold t_homesTold t_busy p2_people p2_places x1) := by
  refine Met.ofW (cc := cX2_isRight) (maxL := 3) (ret := (some .boolean)) (by decide) rfl ?_
  intro p e s m args below meth c s₁ B hml hv
  obtain ⟨rfl, hP, hG⟩ := hv
  have hr := B.returns
  have hlocks := B.notSynchronized
  have hl := lv_entry ([.ref a_t, .int x1, .ref a_p2]) (n := 3) (Nat.le_of_ble_eq_true rfl)
  rw [lg_entry_eq]
  generalize (lg_sl ([.ref a_t, .int x1, .ref a_p2]) ++ List.replicate (3 - (lg_sl ([.ref a_t, .int x1, .ref a_p2])).length) Slot.unset).toArray = ls at hl ⊢
  exact w_X2_isRight a_t a_t_busy a_p2 z_p2_sessions z_p2_forgetTenths z_p2_ownKeys z_p2_person z_p2_first z_p2_last z_p2_minutes z_p2_risk z_p2_openFirst z_p2_openLast z_p2_homeMinutes z_p2_beginning z_p2_ending z_p2_comer z_p2_nextComer t_letter t_figures t_one t_two t_openTold t_homesTold t_busy p2_people p2_places x1 B.exec B.bytes hml (findClass_of_methodNamed B.named) (atoms_spec (ws := Cond.code yX2_isRight cX2_isRight 3 (some .boolean) :: LW) B.pre) hG (fun r ls pc hF hn hdg => W.zret (v := r) B.exec B.bytes hr hn (fun t ht hW => ⟨r, rfl, hF.symm, ht⟩) (fun _ h => absurd h List.not_mem_nil) hdg) ls hl hP hok rfl
abbrev wd_X2_figuresOf (cy : Nat → ClassId) : va_W := []
noncomputable def F_X2_figuresOf (x0 : Int32) : Int32 := (if x0 = (70 : Int32) then (1 : Int32) else (if x0 = (72 : Int32) then (2 : Int32) else (if x0 = (78 : Int32) then (1 : Int32) else (3 : Int32))))
set_option maxHeartbeats 4000000 in
set_option maxRecDepth 100000 in
theorem w_X2_figuresOf {p : Program} {l : Launch} {e : Env} {s : State} {m : MethodId} {args : Array Value} {below : List Frame} {meth : Method} {c : Code} {D : va_G} {cy : Nat → ClassId} {QQ : State → Prop} {FV : Int32} (x0 : Int32) (hx : p.tables.exec = Jvm.exec) (hb : c.code = cX2_figuresOf) (hml : c.maxLocals = 1) (hown : s.vm.findClass RX2 = some m.cls) (hts : ∀ w ∈ Cond.code yX2_figuresOf cX2_figuresOf 1 (some .int) :: LW, w.before args s = true) (hG : GW D cy s) (hret : ∀ (r : Int32) (ls : Array Slot) (pc : Nat), FV = r → decode cX2_figuresOf pc = .ok (.ireturn, 1) → W p l e (rmk 0 0) s m args below meth c s.heap [] 0 0 QQ (F0 m pc ls [.int r])) (ls : Array Slot) (hl : lv_has ls 1 [(0, .int x0)]) (hP : va_P D vwCl (wd_X2_figuresOf cy) s.heap) (hR : FV = (F_X2_figuresOf x0)) : W p l e (rmk 0 0) s m args below meth c s.heap [] 0 0 QQ (F0 m 0 ls []) := by
  have hw : ∀ w ∈ LW, w.before args s = true := fun w h => hts w (List.mem_cons_of_mem _ h)
  have hK := hG.1
  unfold F_X2_figuresOf at hR
  refine lv_iload_n hx hb dX2_figuresOf_0 rfl (lv_at hl 0 rfl) ?_
  by_cases n_1_70 : x0 = (70 : Int32)
  · replace hR := bp hR n_1_70
    refine lv_lookup (off := 35) (tgt := 36) hx hb dX2_figuresOf_1 (by decide) (by rw [n_1_70]; decide) (by decide) ?_
    refine lv_iconst (v := 1) hx hb dX2_figuresOf_36 (by decide) ?_
    exact hret (1 : Int32) _ _ hR dX2_figuresOf_37
  · replace hR := bn hR n_1_70
    by_cases n_1_72 : x0 = (72 : Int32)
    · replace hR := bp hR n_1_72
      refine lv_lookup (off := 37) (tgt := 38) hx hb dX2_figuresOf_1 (by decide) (by rw [n_1_72]; decide) (by decide) ?_
      refine lv_iconst (v := 2) hx hb dX2_figuresOf_38 (by decide) ?_
      exact hret (2 : Int32) _ _ hR dX2_figuresOf_39
    · replace hR := bn hR n_1_72
      by_cases n_1_78 : x0 = (78 : Int32)
      · replace hR := bp hR n_1_78
        refine lv_lookup (off := 35) (tgt := 36) hx hb dX2_figuresOf_1 (by decide) (by rw [n_1_78]; decide) (by decide) ?_
        refine lv_iconst (v := 1) hx hb dX2_figuresOf_36 (by decide) ?_
        exact hret (1 : Int32) _ _ hR dX2_figuresOf_37
      · replace hR := bn hR n_1_78
        refine lv_lookup (off := 39) (tgt := 40) hx hb dX2_figuresOf_1 (by decide) (by simp only []; rw [lv_osw n_1_70 (by decide), lv_osw n_1_72 (by decide), lv_osw n_1_78 (by decide)]; rfl) (by decide) ?_
        refine lv_iconst (v := 3) hx hb dX2_figuresOf_40 (by decide) ?_
        exact hret (3 : Int32) _ _ hR dX2_figuresOf_41
set_option maxHeartbeats 1000000 in
set_option maxRecDepth 100000 in
theorem c_X2_figuresOf {l : Launch} {D : va_G} {cy : Nat → ClassId} (x0 : Int32) : RdI l yX2_figuresOf cX2_figuresOf 1 (some .int) 0 0 D cy [.int x0] (wd_X2_figuresOf cy) (F_X2_figuresOf x0) := by
  refine Met.ofW (cc := cX2_figuresOf) (maxL := 1) (ret := (some .int)) (by decide) rfl ?_
  intro p e s m args below meth c s₁ B hml hv
  obtain ⟨rfl, hP, hG⟩ := hv
  have hr := B.returns
  have hlocks := B.notSynchronized
  have hl := lv_entry ([.int x0]) (n := 1) (Nat.le_of_ble_eq_true rfl)
  rw [lg_entry_eq]
  generalize (lg_sl ([.int x0]) ++ List.replicate (1 - (lg_sl ([.int x0])).length) Slot.unset).toArray = ls at hl ⊢
  exact w_X2_figuresOf x0 B.exec B.bytes hml (findClass_of_methodNamed B.named) (atoms_spec (ws := Cond.code yX2_figuresOf cX2_figuresOf 1 (some .int) :: LW) B.pre) hG (fun r ls pc hF hdg => W.iret (v := r) B.exec B.bytes hr (fun t ht hW => ⟨r, rfl, hF.symm, ht⟩) (fun _ h => absurd h List.not_mem_nil) hdg) ls hl hP rfl
abbrev wd_X2_endPart (cy : Nat → ClassId) (a_t : Nat) (a_t_busy : Nat) (a_p2 : Nat) (a_p2_person : Nat) (a_p2_first : Nat) (a_p2_last : Nat) (a_p2_minutes : Nat) (a_p2_risk : Nat) (a_p2_openFirst : Nat) (a_p2_openLast : Nat) (a_p2_homeMinutes : Nat) (z_t_figures : Value) (z_p2_ownKeys : Value) (z_p2_beginning : Value) (z_p2_ending : Value) (z_p2_comer : Value) (z_p2_nextComer : Value) (t_letter : Int32) (t_one : Int32) (t_two : Int32) (t_openTold : Int32) (t_homesTold : Int32) (t_busy : Nat → Int32) (p2_people : Int32) (p2_sessions : Int32) (p2_places : Int32) (p2_forgetTenths : Int32) (p2_person : Nat → Int32) (p2_first : Nat → Int32) (p2_last : Nat → Int32) (p2_minutes : Nat → Int32) (p2_risk : Nat → Int32) (p2_openFirst : Nat → Int32) (p2_openLast : Nat → Int32) (p2_homeMinutes : Nat → Int32) : va_W := [(a_t, .inr (2, [.int t_letter, z_t_figures, .int t_one, .int t_two, .int t_openTold, .int t_homesTold, .ref a_t_busy])), (a_t_busy, .inl (cy 1, 6, .inl t_busy)), (a_p2, .inr (1, [.int p2_people, .int p2_sessions, .int p2_places, .int p2_forgetTenths, z_p2_ownKeys, .ref a_p2_person, .ref a_p2_first, .ref a_p2_last, .ref a_p2_minutes, .ref a_p2_risk, .ref a_p2_openFirst, .ref a_p2_openLast, .ref a_p2_homeMinutes, z_p2_beginning, z_p2_ending, z_p2_comer, z_p2_nextComer])), (a_p2_person, .inl (cy 1, 8, .inl p2_person)), (a_p2_first, .inl (cy 1, 8, .inl p2_first)), (a_p2_last, .inl (cy 1, 8, .inl p2_last)), (a_p2_minutes, .inl (cy 1, 4, .inl p2_minutes)), (a_p2_risk, .inl (cy 1, 4, .inl p2_risk)), (a_p2_openFirst, .inl (cy 1, 4, .inl p2_openFirst)), (a_p2_openLast, .inl (cy 1, 4, .inl p2_openLast)), (a_p2_homeMinutes, .inl (cy 1, 6, .inl p2_homeMinutes))]
noncomputable def F_X2_endPart_b148 (t_one : Int32) (t_openTold : Int32) (t_homesTold : Int32) (t_busy : Nat → Int32) (p2_people : Int32) (p2_sessions : Int32) (p2_places : Int32) (p2_forgetTenths : Int32) (p2_person : Nat → Int32) (p2_first : Nat → Int32) (p2_last : Nat → Int32) (p2_minutes : Nat → Int32) (p2_risk : Nat → Int32) (p2_openFirst : Nat → Int32) (p2_openLast : Nat → Int32) (p2_homeMinutes : Nat → Int32) : Int32 × Int32 × (Nat → Int32) × Int32 × Int32 × Int32 × Int32 × (Nat → Int32) × (Nat → Int32) × (Nat → Int32) × (Nat → Int32) × (Nat → Int32) × (Nat → Int32) × (Nat → Int32) × (Nat → Int32) := ((t_openTold ||| ((1 : Int32) <<< (t_one &&& (31 : Int32)))), t_homesTold, t_busy, p2_people, p2_sessions, p2_places, p2_forgetTenths, p2_person, p2_first, p2_last, p2_minutes, p2_risk, p2_openFirst, p2_openLast, p2_homeMinutes)
noncomputable def F_X2_endPart_b132 (t_openTold : Int32) (t_homesTold : Int32) (t_busy : Nat → Int32) (p2_people : Int32) (p2_sessions : Int32) (p2_places : Int32) (p2_forgetTenths : Int32) (p2_person : Nat → Int32) (p2_first : Nat → Int32) (p2_last : Nat → Int32) (p2_minutes : Nat → Int32) (p2_risk : Nat → Int32) (p2_openFirst : Nat → Int32) (p2_openLast : Nat → Int32) (p2_homeMinutes : Nat → Int32) : Int32 × Int32 × (Nat → Int32) × Int32 × Int32 × Int32 × Int32 × (Nat → Int32) × (Nat → Int32) × (Nat → Int32) × (Nat → Int32) × (Nat → Int32) × (Nat → Int32) × (Nat → Int32) × (Nat → Int32) := (t_openTold, t_homesTold, t_busy, p2_people, p2_sessions, p2_places, p2_forgetTenths, p2_person, p2_first, p2_last, p2_minutes, p2_risk, p2_openFirst, p2_openLast, p2_homeMinutes)
noncomputable def F_X2_endPart_b85 (t_one : Int32) (t_two : Int32) (x1 : Int32) (t_openTold : Int32) (t_homesTold : Int32) (t_busy : Nat → Int32) (p2_people : Int32) (p2_sessions : Int32) (p2_places : Int32) (p2_forgetTenths : Int32) (p2_person : Nat → Int32) (p2_first : Nat → Int32) (p2_last : Nat → Int32) (p2_minutes : Nat → Int32) (p2_risk : Nat → Int32) (p2_openFirst : Nat → Int32) (p2_openLast : Nat → Int32) (p2_homeMinutes : Nat → Int32) : Int32 × Int32 × (Nat → Int32) × Int32 × Int32 × Int32 × Int32 × (Nat → Int32) × (Nat → Int32) × (Nat → Int32) × (Nat → Int32) × (Nat → Int32) × (Nat → Int32) × (Nat → Int32) × (Nat → Int32) := (if (F_X1_isPerson p2_people t_one) = (0 : Int32) then (t_openTold, t_homesTold, t_busy, p2_people, p2_sessions, p2_places, p2_forgetTenths, p2_person, p2_first, p2_last, p2_minutes, p2_risk, p2_openFirst, p2_openLast, p2_homeMinutes) else (t_openTold, t_homesTold, (upd t_busy t_one.toNatClampNeg ((t_busy t_one.toNatClampNeg) ||| (F_X2_hoursBetween t_two x1))), p2_people, p2_sessions, p2_places, p2_forgetTenths, p2_person, p2_first, p2_last, p2_minutes, p2_risk, p2_openFirst, p2_openLast, p2_homeMinutes))
def ok_X2_endPart_b85 (t_one : Int32) (p2_people : Int32) : Prop := (¬ ((F_X1_isPerson p2_people t_one) = (0 : Int32)) → (vp_in t_one 6) ∧ (vp_in t_one 6))
noncomputable def F_X2_endPart (t_letter : Int32) (t_one : Int32) (t_two : Int32) (t_openTold : Int32) (t_homesTold : Int32) (t_busy : Nat → Int32) (p2_people : Int32) (p2_sessions : Int32) (p2_places : Int32) (p2_forgetTenths : Int32) (p2_person : Nat → Int32) (p2_first : Nat → Int32) (p2_last : Nat → Int32) (p2_minutes : Nat → Int32) (p2_risk : Nat → Int32) (p2_openFirst : Nat → Int32) (p2_openLast : Nat → Int32) (p2_homeMinutes : Nat → Int32) (x1 : Int32) : Int32 × Int32 × (Nat → Int32) × Int32 × Int32 × Int32 × Int32 × (Nat → Int32) × (Nat → Int32) × (Nat → Int32) × (Nat → Int32) × (Nat → Int32) × (Nat → Int32) × (Nat → Int32) × (Nat → Int32) := (if t_letter = (72 : Int32) then (if (F_X1_isPerson p2_people t_one) = (0 : Int32) then (t_openTold, t_homesTold, t_busy, p2_people, p2_sessions, p2_places, p2_forgetTenths, p2_person, p2_first, p2_last, p2_minutes, p2_risk, p2_openFirst, p2_openLast, p2_homeMinutes) else (t_openTold, (t_homesTold ||| ((1 : Int32) <<< (t_one &&& (31 : Int32)))), t_busy, p2_people, p2_sessions, p2_places, p2_forgetTenths, p2_person, p2_first, p2_last, p2_minutes, p2_risk, p2_openFirst, p2_openLast, (upd p2_homeMinutes t_one.toNatClampNeg x1))) else (if t_letter = (78 : Int32) then (t_openTold, t_homesTold, t_busy, x1, p2_sessions, p2_places, p2_forgetTenths, p2_person, p2_first, p2_last, p2_minutes, p2_risk, p2_openFirst, p2_openLast, p2_homeMinutes) else (if t_letter = (79 : Int32) then ((fun (q : (Nat → Int32) × (Nat → Int32)) => (F_X2_endPart_b148 t_one t_openTold t_homesTold t_busy p2_people p2_sessions p2_places p2_forgetTenths p2_person p2_first p2_last p2_minutes p2_risk q.1 q.2 p2_homeMinutes)) (F_X1_openBetween p2_places p2_openFirst p2_openLast t_one t_two x1)) else (if t_letter = (80 : Int32) then ((fun (q : Int32 × (Nat → Int32) × (Nat → Int32) × (Nat → Int32) × (Nat → Int32)) => (F_X2_endPart_b132 t_openTold t_homesTold t_busy p2_people p2_sessions q.1 p2_forgetTenths p2_person p2_first p2_last q.2.1 q.2.2.1 q.2.2.2.1 q.2.2.2.2 p2_homeMinutes)) (F_X1_addPlace p2_places p2_minutes p2_risk p2_openFirst p2_openLast t_one t_two x1)) else (if t_letter = (82 : Int32) then ((fun (q : Int32 × (Nat → Int32) × (Nat → Int32) × (Nat → Int32)) => (F_X2_endPart_b85 t_one t_two x1 t_openTold t_homesTold t_busy p2_people q.1 p2_places p2_forgetTenths q.2.1 q.2.2.1 q.2.2.2 p2_minutes p2_risk p2_openFirst p2_openLast p2_homeMinutes)) (F_X1_addSession p2_sessions p2_person p2_first p2_last t_one t_two x1)) else (t_openTold, t_homesTold, t_busy, p2_people, p2_sessions, p2_places, x1, p2_person, p2_first, p2_last, p2_minutes, p2_risk, p2_openFirst, p2_openLast, p2_homeMinutes))))))
def ok_X2_endPart (t_letter : Int32) (t_one : Int32) (t_two : Int32) (p2_people : Int32) (p2_sessions : Int32) (p2_places : Int32) (p2_person : Nat → Int32) (p2_first : Nat → Int32) (p2_last : Nat → Int32) (x1 : Int32) : Prop := ((t_letter = (72 : Int32) → (¬ ((F_X1_isPerson p2_people t_one) = (0 : Int32)) → (vp_in t_one 6))) ∧ (¬ (t_letter = (72 : Int32)) → (¬ (t_letter = (78 : Int32)) → ((t_letter = (79 : Int32) → (ok_X1_openBetween p2_places t_one)) ∧ (¬ (t_letter = (79 : Int32)) → ((t_letter = (80 : Int32) → (ok_X1_addPlace t_one)) ∧ (¬ (t_letter = (80 : Int32)) → (t_letter = (82 : Int32) → (ok_X1_addSession p2_sessions) ∧ ((fun (q : Int32 × (Nat → Int32) × (Nat → Int32) × (Nat → Int32)) => (ok_X2_endPart_b85 t_one p2_people)) (F_X1_addSession p2_sessions p2_person p2_first p2_last t_one t_two x1))))))))))
set_option maxHeartbeats 4000000 in
set_option maxRecDepth 100000 in
theorem w_X2_endPart {p : Program} {l : Launch} {e : Env} {s : State} {m : MethodId} {args : Array Value} {below : List Frame} {meth : Method} {c : Code} {D : va_G} {cy : Nat → ClassId} {A : Nat → Prop} {QQ : State → Prop} {FV : Int32 × Int32 × (Nat → Int32) × Int32 × Int32 × Int32 × Int32 × (Nat → Int32) × (Nat → Int32) × (Nat → Int32) × (Nat → Int32) × (Nat → Int32) × (Nat → Int32) × (Nat → Int32) × (Nat → Int32)} (a_t : Nat) (a_t_busy : Nat) (a_p2 : Nat) (a_p2_person : Nat) (a_p2_first : Nat) (a_p2_last : Nat) (a_p2_minutes : Nat) (a_p2_risk : Nat) (a_p2_openFirst : Nat) (a_p2_openLast : Nat) (a_p2_homeMinutes : Nat) (z_t_figures : Value) (z_p2_ownKeys : Value) (z_p2_beginning : Value) (z_p2_ending : Value) (z_p2_comer : Value) (z_p2_nextComer : Value) (t_letter : Int32) (t_one : Int32) (t_two : Int32) (t_openTold : Int32) (t_homesTold : Int32) (t_busy : Nat → Int32) (p2_people : Int32) (p2_sessions : Int32) (p2_places : Int32) (p2_forgetTenths : Int32) (p2_person : Nat → Int32) (p2_first : Nat → Int32) (p2_last : Nat → Int32) (p2_minutes : Nat → Int32) (p2_risk : Nat → Int32) (p2_openFirst : Nat → Int32) (p2_openLast : Nat → Int32) (p2_homeMinutes : Nat → Int32) (x1 : Int32) (hx : p.tables.exec = Jvm.exec) (hb : c.code = cX2_endPart) (hml : c.maxLocals = 3) (hown : s.vm.findClass RX2 = some m.cls) (hts : ∀ w ∈ Cond.code yX2_endPart cX2_endPart 3 none :: LW, w.before args s = true) (hG : GW D cy s) (hA : ∀ q, s.heap.size ≤ q → A q) (hret : ∀ (o0 : Int32) (o1 : Int32) (o2 : Nat → Int32) (o3 : Int32) (o4 : Int32) (o5 : Int32) (o6 : Int32) (o7 : Nat → Int32) (o8 : Nat → Int32) (o9 : Nat → Int32) (o10 : Nat → Int32) (o11 : Nat → Int32) (o12 : Nat → Int32) (o13 : Nat → Int32) (o14 : Nat → Int32) (H : Heap) (locs : List Loc) (ls : Array Slot) (pc : Nat), va_P D vwCl (wd_X2_endPart cy a_t a_t_busy a_p2 a_p2_person a_p2_first a_p2_last a_p2_minutes a_p2_risk a_p2_openFirst a_p2_openLast a_p2_homeMinutes z_t_figures z_p2_ownKeys z_p2_beginning z_p2_ending z_p2_comer z_p2_nextComer t_letter t_one t_two o0 o1 o2 o3 o4 o5 o6 o7 o8 o9 o10 o11 o12 o13 o14) H → va_D A (wd_X2_endPart cy a_t a_t_busy a_p2 a_p2_person a_p2_first a_p2_last a_p2_minutes a_p2_risk a_p2_openFirst a_p2_openLast a_p2_homeMinutes z_t_figures z_p2_ownKeys z_p2_beginning z_p2_ending z_p2_comer z_p2_nextComer t_letter t_one t_two o0 o1 o2 o3 o4 o5 o6 o7 o8 o9 o10 o11 o12 o13 o14) → va_S A s.heap H locs → FV = (o0, o1, o2, o3, o4, o5, o6, o7, o8, o9, o10, o11, o12, o13, o14) → decode cX2_endPart pc = .ok (.return_, 1) → W p l e (rmk 2 44) s m args below meth c H locs 0 0 QQ (F0 m pc ls [])) (ls : Array Slot) (hl : lv_has ls 3 [(0, .ref a_t), (1, .int x1), (2, .ref a_p2)]) (hP : va_P D vwCl (wd_X2_endPart cy a_t a_t_busy a_p2 a_p2_person a_p2_first a_p2_last a_p2_minutes a_p2_risk a_p2_openFirst a_p2_openLast a_p2_homeMinutes z_t_figures z_p2_ownKeys z_p2_beginning z_p2_ending z_p2_comer z_p2_nextComer t_letter t_one t_two t_openTold t_homesTold t_busy p2_people p2_sessions p2_places p2_forgetTenths p2_person p2_first p2_last p2_minutes p2_risk p2_openFirst p2_openLast p2_homeMinutes) s.heap) (hD : va_D A (wd_X2_endPart cy a_t a_t_busy a_p2 a_p2_person a_p2_first a_p2_last a_p2_minutes a_p2_risk a_p2_openFirst a_p2_openLast a_p2_homeMinutes z_t_figures z_p2_ownKeys z_p2_beginning z_p2_ending z_p2_comer z_p2_nextComer t_letter t_one t_two t_openTold t_homesTold t_busy p2_people p2_sessions p2_places p2_forgetTenths p2_person p2_first p2_last p2_minutes p2_risk p2_openFirst p2_openLast p2_homeMinutes)) (hok : (ok_X2_endPart t_letter t_one t_two p2_people p2_sessions p2_places p2_person p2_first p2_last x1)) (hR : FV = (F_X2_endPart t_letter t_one t_two t_openTold t_homesTold t_busy p2_people p2_sessions p2_places p2_forgetTenths p2_person p2_first p2_last p2_minutes p2_risk p2_openFirst p2_openLast p2_homeMinutes x1)) : W p l e (rmk 2 44) s m args below meth c s.heap [] 0 0 QQ (F0 m 0 ls []) := by
  have hw : ∀ w ∈ LW, w.before args s = true := fun w h => hts w (List.mem_cons_of_mem _ h)
  have hK := hG.1
  have hS : va_S A s.heap s.heap [] := va_S.rf
  unfold F_X2_endPart at hR
  unfold ok_X2_endPart at hok
  refine lv_aload_n hx hb dX2_endPart_0 rfl (lv_at hl 0 rfl) ?_
  refine g_X2_9 hx hb hw hown hK hP 0 rfl rfl dX2_endPart_1 ?_
  by_cases n_4_72 : t_letter = (72 : Int32)
  · replace hR := bp hR n_4_72
    replace hok := hok.1 n_4_72
    refine lv_tsw (off := 162) (tgt := 166) hx hb dX2_endPart_4 (by decide) (by rw [n_4_72]; decide) (by decide) ?_
    refine lv_aload_n hx hb dX2_endPart_166 rfl (lv_at hl 2 rfl) ?_
    refine lv_aload_n hx hb dX2_endPart_167 rfl (lv_at hl 0 rfl) ?_
    refine g_X2_18 hx hb hw hown hK hP 0 rfl rfl dX2_endPart_168 ?_
    refine rdIV (As := [.int t_one]) (rest := []) hx hb hml hown hts hG hP k_X2_81 (c_X1_isPerson (l := l) (D := D) (cy := cy) a_p2 (.int p2_sessions) (.int p2_places) (.int p2_forgetTenths) z_p2_ownKeys (.ref a_p2_person) (.ref a_p2_first) (.ref a_p2_last) (.ref a_p2_minutes) (.ref a_p2_risk) (.ref a_p2_openFirst) (.ref a_p2_openLast) (.ref a_p2_homeMinutes) z_p2_beginning z_p2_ending z_p2_comer z_p2_nextComer p2_people t_one) ⟨Nat.le_of_ble_eq_true rfl, Nat.le_of_ble_eq_true rfl⟩ [2] rfl 2 rfl rfl rfl rfl hl.1 rfl (Nat.le_of_ble_eq_true rfl) ⟨Nat.zero_le _, Nat.zero_le _⟩ dX2_endPart_171 ?_
    refine lv_if_eq (tgt := 210) hx hb dX2_endPart_174 (by decide) (fun c_174 => ?_) (fun c_174 => ?_)
    · replace hR := bp hR c_174
      exact hret t_openTold t_homesTold t_busy p2_people p2_sessions p2_places p2_forgetTenths p2_person p2_first p2_last p2_minutes p2_risk p2_openFirst p2_openLast p2_homeMinutes _ _ _ _ hP hD hS hR dX2_endPart_210
    · replace hR := bn hR c_174
      replace hok := hok c_174
      refine lv_aload_n hx hb dX2_endPart_177 rfl (lv_at hl 2 rfl) ?_
      refine g_X2_115 hx hb hw hown hK hP 2 rfl rfl dX2_endPart_178 ?_
      refine lv_aload_n hx hb dX2_endPart_181 rfl (lv_at hl 0 rfl) ?_
      refine g_X2_18 hx hb hw hown hK hP 0 rfl rfl dX2_endPart_182 ?_
      refine lv_iload_n hx hb dX2_endPart_185 rfl (lv_at hl 1 rfl) ?_
      have h_186_0 := hok
      refine va_iast hx hb hK hP hD hS 10 1 rfl rfl h_186_0 dX2_endPart_186 (fun H locs hP hD hS => ?_)
      replace hP : va_P D vwCl (wd_X2_endPart cy a_t a_t_busy a_p2 a_p2_person a_p2_first a_p2_last a_p2_minutes a_p2_risk a_p2_openFirst a_p2_openLast a_p2_homeMinutes z_t_figures z_p2_ownKeys z_p2_beginning z_p2_ending z_p2_comer z_p2_nextComer t_letter t_one t_two t_openTold t_homesTold t_busy p2_people p2_sessions p2_places p2_forgetTenths p2_person p2_first p2_last p2_minutes p2_risk p2_openFirst p2_openLast (upd p2_homeMinutes t_one.toNatClampNeg x1)) H := hP
      replace hD : va_D A (wd_X2_endPart cy a_t a_t_busy a_p2 a_p2_person a_p2_first a_p2_last a_p2_minutes a_p2_risk a_p2_openFirst a_p2_openLast a_p2_homeMinutes z_t_figures z_p2_ownKeys z_p2_beginning z_p2_ending z_p2_comer z_p2_nextComer t_letter t_one t_two t_openTold t_homesTold t_busy p2_people p2_sessions p2_places p2_forgetTenths p2_person p2_first p2_last p2_minutes p2_risk p2_openFirst p2_openLast (upd p2_homeMinutes t_one.toNatClampNeg x1)) := hD
      refine lv_aload_n hx hb dX2_endPart_187 rfl (lv_at hl 0 rfl) ?_
      refine lv_dup hx hb dX2_endPart_188 rfl ?_
      refine g_X2_27 hx hb hw hown hK hP 0 rfl rfl dX2_endPart_189 ?_
      refine lv_iconst (v := 1) hx hb dX2_endPart_192 (by decide) ?_
      refine lv_aload_n hx hb dX2_endPart_193 rfl (lv_at hl 0 rfl) ?_
      refine g_X2_18 hx hb hw hown hK hP 0 rfl rfl dX2_endPart_194 ?_
      refine lv_ishl hx hb dX2_endPart_197 ?_
      refine lv_ior hx hb dX2_endPart_198 ?_
      refine p_X2_27 hx hb hw hown hK hP hD hS 0 rfl rfl rfl rfl dX2_endPart_199 (fun H locs hP hD hS => ?_)
      replace hP : va_P D vwCl (wd_X2_endPart cy a_t a_t_busy a_p2 a_p2_person a_p2_first a_p2_last a_p2_minutes a_p2_risk a_p2_openFirst a_p2_openLast a_p2_homeMinutes z_t_figures z_p2_ownKeys z_p2_beginning z_p2_ending z_p2_comer z_p2_nextComer t_letter t_one t_two t_openTold (t_homesTold ||| ((1 : Int32) <<< (t_one &&& (31 : Int32)))) t_busy p2_people p2_sessions p2_places p2_forgetTenths p2_person p2_first p2_last p2_minutes p2_risk p2_openFirst p2_openLast (upd p2_homeMinutes t_one.toNatClampNeg x1)) H := hP
      replace hD : va_D A (wd_X2_endPart cy a_t a_t_busy a_p2 a_p2_person a_p2_first a_p2_last a_p2_minutes a_p2_risk a_p2_openFirst a_p2_openLast a_p2_homeMinutes z_t_figures z_p2_ownKeys z_p2_beginning z_p2_ending z_p2_comer z_p2_nextComer t_letter t_one t_two t_openTold (t_homesTold ||| ((1 : Int32) <<< (t_one &&& (31 : Int32)))) t_busy p2_people p2_sessions p2_places p2_forgetTenths p2_person p2_first p2_last p2_minutes p2_risk p2_openFirst p2_openLast (upd p2_homeMinutes t_one.toNatClampNeg x1)) := hD
      refine lv_goto (tgt := 210) hx hb dX2_endPart_202 (by decide) ?_
      exact hret t_openTold (t_homesTold ||| ((1 : Int32) <<< (t_one &&& (31 : Int32)))) t_busy p2_people p2_sessions p2_places p2_forgetTenths p2_person p2_first p2_last p2_minutes p2_risk p2_openFirst p2_openLast (upd p2_homeMinutes t_one.toNatClampNeg x1) _ _ _ _ hP hD hS hR dX2_endPart_210
  · replace hR := bn hR n_4_72
    replace hok := hok.2 n_4_72
    by_cases n_4_78 : t_letter = (78 : Int32)
    · replace hR := bp hR n_4_78
      refine lv_tsw (off := 60) (tgt := 64) hx hb dX2_endPart_4 (by decide) (by rw [n_4_78]; decide) (by decide) ?_
      refine lv_aload_n hx hb dX2_endPart_64 rfl (lv_at hl 2 rfl) ?_
      refine lv_iload_n hx hb dX2_endPart_65 rfl (lv_at hl 1 rfl) ?_
      refine p_X2_49 hx hb hw hown hK hP hD hS 2 rfl rfl rfl rfl dX2_endPart_66 (fun H locs hP hD hS => ?_)
      replace hP : va_P D vwCl (wd_X2_endPart cy a_t a_t_busy a_p2 a_p2_person a_p2_first a_p2_last a_p2_minutes a_p2_risk a_p2_openFirst a_p2_openLast a_p2_homeMinutes z_t_figures z_p2_ownKeys z_p2_beginning z_p2_ending z_p2_comer z_p2_nextComer t_letter t_one t_two t_openTold t_homesTold t_busy x1 p2_sessions p2_places p2_forgetTenths p2_person p2_first p2_last p2_minutes p2_risk p2_openFirst p2_openLast p2_homeMinutes) H := hP
      replace hD : va_D A (wd_X2_endPart cy a_t a_t_busy a_p2 a_p2_person a_p2_first a_p2_last a_p2_minutes a_p2_risk a_p2_openFirst a_p2_openLast a_p2_homeMinutes z_t_figures z_p2_ownKeys z_p2_beginning z_p2_ending z_p2_comer z_p2_nextComer t_letter t_one t_two t_openTold t_homesTold t_busy x1 p2_sessions p2_places p2_forgetTenths p2_person p2_first p2_last p2_minutes p2_risk p2_openFirst p2_openLast p2_homeMinutes) := hD
      refine lv_goto (tgt := 210) hx hb dX2_endPart_69 (by decide) ?_
      exact hret t_openTold t_homesTold t_busy x1 p2_sessions p2_places p2_forgetTenths p2_person p2_first p2_last p2_minutes p2_risk p2_openFirst p2_openLast p2_homeMinutes _ _ _ _ hP hD hS hR dX2_endPart_210
    · replace hR := bn hR n_4_78
      replace hok := hok n_4_78
      by_cases n_4_79 : t_letter = (79 : Int32)
      · replace hR := bp hR n_4_79
        replace hok := hok.1 n_4_79
        refine lv_tsw (off := 131) (tgt := 135) hx hb dX2_endPart_4 (by decide) (by rw [n_4_79]; decide) (by decide) ?_
        refine lv_aload_n hx hb dX2_endPart_135 rfl (lv_at hl 2 rfl) ?_
        refine lv_aload_n hx hb dX2_endPart_136 rfl (lv_at hl 0 rfl) ?_
        refine g_X2_18 hx hb hw hown hK hP 0 rfl rfl dX2_endPart_137 ?_
        refine lv_aload_n hx hb dX2_endPart_140 rfl (lv_at hl 0 rfl) ?_
        refine g_X2_21 hx hb hw hown hK hP 0 rfl rfl dX2_endPart_141 ?_
        refine lv_iload_n hx hb dX2_endPart_144 rfl (lv_at hl 1 rfl) ?_
        have hok_145 := hok
        refine wkVV (As := [.int t_one, .int t_two, .int x1]) (rest := []) hx hb hml hown hts hG hP hD hS hA k_X2_112 (c_X1_openBetween (l := l) (D := D) (cy := cy) a_p2 a_p2_openFirst a_p2_openLast (.int p2_people) (.int p2_sessions) (.int p2_forgetTenths) z_p2_ownKeys (.ref a_p2_person) (.ref a_p2_first) (.ref a_p2_last) (.ref a_p2_minutes) (.ref a_p2_risk) (.ref a_p2_homeMinutes) z_p2_beginning z_p2_ending z_p2_comer z_p2_nextComer p2_places p2_openFirst p2_openLast t_one t_two x1 s.heap.size hok_145) ⟨Nat.le_of_ble_eq_true rfl, Nat.le_of_ble_eq_true rfl⟩ [2, 8, 9] [0, 1, 3, 4, 5, 6, 7, 10] [0, 1, 8, 2, 3, 4, 5, 6, 9, 10, 7] (N := 11) rfl (by decide +kernel) rfl 2 rfl rfl rfl rfl hl.1 rfl (Nat.le_of_ble_eq_true rfl) ⟨Nat.zero_le _, Nat.zero_le _⟩ dX2_endPart_145 (fun u => (wd_X2_endPart cy a_t a_t_busy a_p2 a_p2_person a_p2_first a_p2_last a_p2_minutes a_p2_risk a_p2_openFirst a_p2_openLast a_p2_homeMinutes z_t_figures z_p2_ownKeys z_p2_beginning z_p2_ending z_p2_comer z_p2_nextComer t_letter t_one t_two t_openTold t_homesTold t_busy p2_people p2_sessions p2_places p2_forgetTenths p2_person p2_first p2_last p2_minutes p2_risk u.1 u.2 p2_homeMinutes)) (fun _ => rfl) (fun u_145 H locs e_145 hP hD hS => ?_)
        obtain ⟨o145_0, o145_1⟩ := u_145
        replace hP : va_P D vwCl (wd_X2_endPart cy a_t a_t_busy a_p2 a_p2_person a_p2_first a_p2_last a_p2_minutes a_p2_risk a_p2_openFirst a_p2_openLast a_p2_homeMinutes z_t_figures z_p2_ownKeys z_p2_beginning z_p2_ending z_p2_comer z_p2_nextComer t_letter t_one t_two t_openTold t_homesTold t_busy p2_people p2_sessions p2_places p2_forgetTenths p2_person p2_first p2_last p2_minutes p2_risk o145_0 o145_1 p2_homeMinutes) H := hP
        replace hD : va_D A (wd_X2_endPart cy a_t a_t_busy a_p2 a_p2_person a_p2_first a_p2_last a_p2_minutes a_p2_risk a_p2_openFirst a_p2_openLast a_p2_homeMinutes z_t_figures z_p2_ownKeys z_p2_beginning z_p2_ending z_p2_comer z_p2_nextComer t_letter t_one t_two t_openTold t_homesTold t_busy p2_people p2_sessions p2_places p2_forgetTenths p2_person p2_first p2_last p2_minutes p2_risk o145_0 o145_1 p2_homeMinutes) := hD
        have hR2 := hRq (fun (q : (Nat → Int32) × (Nat → Int32)) => (F_X2_endPart_b148 t_one t_openTold t_homesTold t_busy p2_people p2_sessions p2_places p2_forgetTenths p2_person p2_first p2_last p2_minutes p2_risk q.1 q.2 p2_homeMinutes)) e_145 hR
        replace hR : FV = (F_X2_endPart_b148 t_one t_openTold t_homesTold t_busy p2_people p2_sessions p2_places p2_forgetTenths p2_person p2_first p2_last p2_minutes p2_risk o145_0 o145_1 p2_homeMinutes) := hR2
        unfold F_X2_endPart_b148 at hR
        refine lv_aload_n hx hb dX2_endPart_148 rfl (lv_at hl 0 rfl) ?_
        refine lv_dup hx hb dX2_endPart_149 rfl ?_
        refine g_X2_24 hx hb hw hown hK hP 0 rfl rfl dX2_endPart_150 ?_
        refine lv_iconst (v := 1) hx hb dX2_endPart_153 (by decide) ?_
        refine lv_aload_n hx hb dX2_endPart_154 rfl (lv_at hl 0 rfl) ?_
        refine g_X2_18 hx hb hw hown hK hP 0 rfl rfl dX2_endPart_155 ?_
        refine lv_ishl hx hb dX2_endPart_158 ?_
        refine lv_ior hx hb dX2_endPart_159 ?_
        refine p_X2_24 hx hb hw hown hK hP hD hS 0 rfl rfl rfl rfl dX2_endPart_160 (fun H locs hP hD hS => ?_)
        replace hP : va_P D vwCl (wd_X2_endPart cy a_t a_t_busy a_p2 a_p2_person a_p2_first a_p2_last a_p2_minutes a_p2_risk a_p2_openFirst a_p2_openLast a_p2_homeMinutes z_t_figures z_p2_ownKeys z_p2_beginning z_p2_ending z_p2_comer z_p2_nextComer t_letter t_one t_two (t_openTold ||| ((1 : Int32) <<< (t_one &&& (31 : Int32)))) t_homesTold t_busy p2_people p2_sessions p2_places p2_forgetTenths p2_person p2_first p2_last p2_minutes p2_risk o145_0 o145_1 p2_homeMinutes) H := hP
        replace hD : va_D A (wd_X2_endPart cy a_t a_t_busy a_p2 a_p2_person a_p2_first a_p2_last a_p2_minutes a_p2_risk a_p2_openFirst a_p2_openLast a_p2_homeMinutes z_t_figures z_p2_ownKeys z_p2_beginning z_p2_ending z_p2_comer z_p2_nextComer t_letter t_one t_two (t_openTold ||| ((1 : Int32) <<< (t_one &&& (31 : Int32)))) t_homesTold t_busy p2_people p2_sessions p2_places p2_forgetTenths p2_person p2_first p2_last p2_minutes p2_risk o145_0 o145_1 p2_homeMinutes) := hD
        refine lv_goto (tgt := 210) hx hb dX2_endPart_163 (by decide) ?_
        exact hret (t_openTold ||| ((1 : Int32) <<< (t_one &&& (31 : Int32)))) t_homesTold t_busy p2_people p2_sessions p2_places p2_forgetTenths p2_person p2_first p2_last p2_minutes p2_risk o145_0 o145_1 p2_homeMinutes _ _ _ _ hP hD hS hR dX2_endPart_210
      · replace hR := bn hR n_4_79
        replace hok := hok.2 n_4_79
        by_cases n_4_80 : t_letter = (80 : Int32)
        · replace hR := bp hR n_4_80
          replace hok := hok.1 n_4_80
          refine lv_tsw (off := 115) (tgt := 119) hx hb dX2_endPart_4 (by decide) (by rw [n_4_80]; decide) (by decide) ?_
          refine lv_aload_n hx hb dX2_endPart_119 rfl (lv_at hl 2 rfl) ?_
          refine lv_aload_n hx hb dX2_endPart_120 rfl (lv_at hl 0 rfl) ?_
          refine g_X2_18 hx hb hw hown hK hP 0 rfl rfl dX2_endPart_121 ?_
          refine lv_aload_n hx hb dX2_endPart_124 rfl (lv_at hl 0 rfl) ?_
          refine g_X2_21 hx hb hw hown hK hP 0 rfl rfl dX2_endPart_125 ?_
          refine lv_iload_n hx hb dX2_endPart_128 rfl (lv_at hl 1 rfl) ?_
          have hok_129 := hok
          refine wkVV (As := [.int t_one, .int t_two, .int x1]) (rest := []) hx hb hml hown hts hG hP hD hS hA k_X2_109 (c_X1_addPlace (l := l) (D := D) (cy := cy) a_p2 a_p2_minutes a_p2_risk a_p2_openFirst a_p2_openLast (.int p2_people) (.int p2_sessions) (.int p2_forgetTenths) z_p2_ownKeys (.ref a_p2_person) (.ref a_p2_first) (.ref a_p2_last) (.ref a_p2_homeMinutes) z_p2_beginning z_p2_ending z_p2_comer z_p2_nextComer p2_places p2_minutes p2_risk p2_openFirst p2_openLast t_one t_two x1 s.heap.size hok_129) ⟨Nat.le_of_ble_eq_true rfl, Nat.le_of_ble_eq_true rfl⟩ [2, 6, 7, 8, 9] [0, 1, 3, 4, 5, 10] [0, 1, 6, 2, 3, 4, 7, 8, 9, 10, 5] (N := 11) rfl (by decide +kernel) rfl 2 rfl rfl rfl rfl hl.1 rfl (Nat.le_of_ble_eq_true rfl) ⟨Nat.zero_le _, Nat.zero_le _⟩ dX2_endPart_129 (fun u => (wd_X2_endPart cy a_t a_t_busy a_p2 a_p2_person a_p2_first a_p2_last a_p2_minutes a_p2_risk a_p2_openFirst a_p2_openLast a_p2_homeMinutes z_t_figures z_p2_ownKeys z_p2_beginning z_p2_ending z_p2_comer z_p2_nextComer t_letter t_one t_two t_openTold t_homesTold t_busy p2_people p2_sessions u.1 p2_forgetTenths p2_person p2_first p2_last u.2.1 u.2.2.1 u.2.2.2.1 u.2.2.2.2 p2_homeMinutes)) (fun _ => rfl) (fun u_129 H locs e_129 hP hD hS => ?_)
          obtain ⟨o129_0, o129_1, o129_2, o129_3, o129_4⟩ := u_129
          replace hP : va_P D vwCl (wd_X2_endPart cy a_t a_t_busy a_p2 a_p2_person a_p2_first a_p2_last a_p2_minutes a_p2_risk a_p2_openFirst a_p2_openLast a_p2_homeMinutes z_t_figures z_p2_ownKeys z_p2_beginning z_p2_ending z_p2_comer z_p2_nextComer t_letter t_one t_two t_openTold t_homesTold t_busy p2_people p2_sessions o129_0 p2_forgetTenths p2_person p2_first p2_last o129_1 o129_2 o129_3 o129_4 p2_homeMinutes) H := hP
          replace hD : va_D A (wd_X2_endPart cy a_t a_t_busy a_p2 a_p2_person a_p2_first a_p2_last a_p2_minutes a_p2_risk a_p2_openFirst a_p2_openLast a_p2_homeMinutes z_t_figures z_p2_ownKeys z_p2_beginning z_p2_ending z_p2_comer z_p2_nextComer t_letter t_one t_two t_openTold t_homesTold t_busy p2_people p2_sessions o129_0 p2_forgetTenths p2_person p2_first p2_last o129_1 o129_2 o129_3 o129_4 p2_homeMinutes) := hD
          have hR2 := hRq (fun (q : Int32 × (Nat → Int32) × (Nat → Int32) × (Nat → Int32) × (Nat → Int32)) => (F_X2_endPart_b132 t_openTold t_homesTold t_busy p2_people p2_sessions q.1 p2_forgetTenths p2_person p2_first p2_last q.2.1 q.2.2.1 q.2.2.2.1 q.2.2.2.2 p2_homeMinutes)) e_129 hR
          replace hR : FV = (F_X2_endPart_b132 t_openTold t_homesTold t_busy p2_people p2_sessions o129_0 p2_forgetTenths p2_person p2_first p2_last o129_1 o129_2 o129_3 o129_4 p2_homeMinutes) := hR2
          unfold F_X2_endPart_b132 at hR
          refine lv_goto (tgt := 210) hx hb dX2_endPart_132 (by decide) ?_
          exact hret t_openTold t_homesTold t_busy p2_people p2_sessions o129_0 p2_forgetTenths p2_person p2_first p2_last o129_1 o129_2 o129_3 o129_4 p2_homeMinutes _ _ _ _ hP hD hS hR dX2_endPart_210
        · replace hR := bn hR n_4_80
          replace hok := hok.2 n_4_80
          by_cases n_4_82 : t_letter = (82 : Int32)
          · replace hR := bp hR n_4_82
            replace hok := hok n_4_82
            refine lv_tsw (off := 68) (tgt := 72) hx hb dX2_endPart_4 (by decide) (by rw [n_4_82]; decide) (by decide) ?_
            refine lv_aload_n hx hb dX2_endPart_72 rfl (lv_at hl 2 rfl) ?_
            refine lv_aload_n hx hb dX2_endPart_73 rfl (lv_at hl 0 rfl) ?_
            refine g_X2_18 hx hb hw hown hK hP 0 rfl rfl dX2_endPart_74 ?_
            refine lv_aload_n hx hb dX2_endPart_77 rfl (lv_at hl 0 rfl) ?_
            refine g_X2_21 hx hb hw hown hK hP 0 rfl rfl dX2_endPart_78 ?_
            refine lv_iload_n hx hb dX2_endPart_81 rfl (lv_at hl 1 rfl) ?_
            obtain ⟨hok_82, hok⟩ := hok
            refine wkVV (As := [.int t_one, .int t_two, .int x1]) (rest := []) hx hb hml hown hts hG hP hD hS hA k_X2_105 (c_X1_addSession (l := l) (D := D) (cy := cy) a_p2 a_p2_person a_p2_first a_p2_last (.int p2_people) (.int p2_places) (.int p2_forgetTenths) z_p2_ownKeys (.ref a_p2_minutes) (.ref a_p2_risk) (.ref a_p2_openFirst) (.ref a_p2_openLast) (.ref a_p2_homeMinutes) z_p2_beginning z_p2_ending z_p2_comer z_p2_nextComer p2_sessions p2_person p2_first p2_last t_one t_two x1 s.heap.size hok_82) ⟨Nat.le_of_ble_eq_true rfl, Nat.le_of_ble_eq_true rfl⟩ [2, 3, 4, 5] [0, 1, 6, 7, 8, 9, 10] [0, 1, 7, 8, 9, 10, 2, 3, 4, 5, 6] (N := 11) rfl (by decide +kernel) rfl 2 rfl rfl rfl rfl hl.1 rfl (Nat.le_of_ble_eq_true rfl) ⟨Nat.zero_le _, Nat.zero_le _⟩ dX2_endPart_82 (fun u => (wd_X2_endPart cy a_t a_t_busy a_p2 a_p2_person a_p2_first a_p2_last a_p2_minutes a_p2_risk a_p2_openFirst a_p2_openLast a_p2_homeMinutes z_t_figures z_p2_ownKeys z_p2_beginning z_p2_ending z_p2_comer z_p2_nextComer t_letter t_one t_two t_openTold t_homesTold t_busy p2_people u.1 p2_places p2_forgetTenths u.2.1 u.2.2.1 u.2.2.2 p2_minutes p2_risk p2_openFirst p2_openLast p2_homeMinutes)) (fun _ => rfl) (fun u_82 H locs e_82 hP hD hS => ?_)
            obtain ⟨o82_0, o82_1, o82_2, o82_3⟩ := u_82
            replace hP : va_P D vwCl (wd_X2_endPart cy a_t a_t_busy a_p2 a_p2_person a_p2_first a_p2_last a_p2_minutes a_p2_risk a_p2_openFirst a_p2_openLast a_p2_homeMinutes z_t_figures z_p2_ownKeys z_p2_beginning z_p2_ending z_p2_comer z_p2_nextComer t_letter t_one t_two t_openTold t_homesTold t_busy p2_people o82_0 p2_places p2_forgetTenths o82_1 o82_2 o82_3 p2_minutes p2_risk p2_openFirst p2_openLast p2_homeMinutes) H := hP
            replace hD : va_D A (wd_X2_endPart cy a_t a_t_busy a_p2 a_p2_person a_p2_first a_p2_last a_p2_minutes a_p2_risk a_p2_openFirst a_p2_openLast a_p2_homeMinutes z_t_figures z_p2_ownKeys z_p2_beginning z_p2_ending z_p2_comer z_p2_nextComer t_letter t_one t_two t_openTold t_homesTold t_busy p2_people o82_0 p2_places p2_forgetTenths o82_1 o82_2 o82_3 p2_minutes p2_risk p2_openFirst p2_openLast p2_homeMinutes) := hD
            have hR2 := hRq (fun (q : Int32 × (Nat → Int32) × (Nat → Int32) × (Nat → Int32)) => (F_X2_endPart_b85 t_one t_two x1 t_openTold t_homesTold t_busy p2_people q.1 p2_places p2_forgetTenths q.2.1 q.2.2.1 q.2.2.2 p2_minutes p2_risk p2_openFirst p2_openLast p2_homeMinutes)) e_82 hR
            replace hR : FV = (F_X2_endPart_b85 t_one t_two x1 t_openTold t_homesTold t_busy p2_people o82_0 p2_places p2_forgetTenths o82_1 o82_2 o82_3 p2_minutes p2_risk p2_openFirst p2_openLast p2_homeMinutes) := hR2
            have hok2 := hokq (fun (q : Int32 × (Nat → Int32) × (Nat → Int32) × (Nat → Int32)) => (ok_X2_endPart_b85 t_one p2_people)) e_82 hok
            replace hok : (ok_X2_endPart_b85 t_one p2_people) := hok2
            unfold F_X2_endPart_b85 at hR
            unfold ok_X2_endPart_b85 at hok
            refine lv_aload_n hx hb dX2_endPart_85 rfl (lv_at hl 2 rfl) ?_
            refine lv_aload_n hx hb dX2_endPart_86 rfl (lv_at hl 0 rfl) ?_
            refine g_X2_18 hx hb hw hown hK hP 0 rfl rfl dX2_endPart_87 ?_
            refine rdIV (As := [.int t_one]) (rest := []) hx hb hml hown hts hG hP k_X2_81 (c_X1_isPerson (l := l) (D := D) (cy := cy) a_p2 (.int o82_0) (.int p2_places) (.int p2_forgetTenths) z_p2_ownKeys (.ref a_p2_person) (.ref a_p2_first) (.ref a_p2_last) (.ref a_p2_minutes) (.ref a_p2_risk) (.ref a_p2_openFirst) (.ref a_p2_openLast) (.ref a_p2_homeMinutes) z_p2_beginning z_p2_ending z_p2_comer z_p2_nextComer p2_people t_one) ⟨Nat.le_of_ble_eq_true rfl, Nat.le_of_ble_eq_true rfl⟩ [2] rfl 2 rfl rfl rfl rfl hl.1 rfl (Nat.le_of_ble_eq_true rfl) ⟨Nat.zero_le _, Nat.zero_le _⟩ dX2_endPart_90 ?_
            refine lv_if_eq (tgt := 210) hx hb dX2_endPart_93 (by decide) (fun c_93 => ?_) (fun c_93 => ?_)
            · replace hR := bp hR c_93
              exact hret t_openTold t_homesTold t_busy p2_people o82_0 p2_places p2_forgetTenths o82_1 o82_2 o82_3 p2_minutes p2_risk p2_openFirst p2_openLast p2_homeMinutes _ _ _ _ hP hD hS hR dX2_endPart_210
            · replace hR := bn hR c_93
              replace hok := hok c_93
              refine lv_aload_n hx hb dX2_endPart_96 rfl (lv_at hl 0 rfl) ?_
              refine g_X2_30 hx hb hw hown hK hP 0 rfl rfl dX2_endPart_97 ?_
              refine lv_aload_n hx hb dX2_endPart_100 rfl (lv_at hl 0 rfl) ?_
              refine g_X2_18 hx hb hw hown hK hP 0 rfl rfl dX2_endPart_101 ?_
              refine lv_dup2_11 hx hb dX2_endPart_104 rfl rfl ?_
              obtain ⟨h_105_0, hok⟩ := hok
              refine va_iald hx hb hK hP 1 1 rfl rfl h_105_0 dX2_endPart_105 ?_
              refine lv_aload_n hx hb dX2_endPart_106 rfl (lv_at hl 0 rfl) ?_
              refine g_X2_21 hx hb hw hown hK hP 0 rfl rfl dX2_endPart_107 ?_
              refine lv_iload_n hx hb dX2_endPart_110 rfl (lv_at hl 1 rfl) ?_
              refine rdIS (As := [.int t_two, .int x1]) (rest := [.int (t_busy t_one.toNatClampNeg), .int t_one, .ref a_t_busy]) hx hb hml hown hts hG hP k_X2_101 (c_X2_hoursBetween (l := l) (D := D) (cy := cy) t_two x1) ⟨Nat.le_of_ble_eq_true rfl, Nat.le_of_ble_eq_true rfl⟩ [] rfl rfl hl.1 rfl (Nat.le_of_ble_eq_true rfl) ⟨Nat.zero_le _, Nat.zero_le _⟩ dX2_endPart_111 ?_
              refine lv_ior hx hb dX2_endPart_114 ?_
              have h_115_0 := hok
              refine va_iast hx hb hK hP hD hS 1 1 rfl rfl h_115_0 dX2_endPart_115 (fun H locs hP hD hS => ?_)
              replace hP : va_P D vwCl (wd_X2_endPart cy a_t a_t_busy a_p2 a_p2_person a_p2_first a_p2_last a_p2_minutes a_p2_risk a_p2_openFirst a_p2_openLast a_p2_homeMinutes z_t_figures z_p2_ownKeys z_p2_beginning z_p2_ending z_p2_comer z_p2_nextComer t_letter t_one t_two t_openTold t_homesTold (upd t_busy t_one.toNatClampNeg ((t_busy t_one.toNatClampNeg) ||| (F_X2_hoursBetween t_two x1))) p2_people o82_0 p2_places p2_forgetTenths o82_1 o82_2 o82_3 p2_minutes p2_risk p2_openFirst p2_openLast p2_homeMinutes) H := hP
              replace hD : va_D A (wd_X2_endPart cy a_t a_t_busy a_p2 a_p2_person a_p2_first a_p2_last a_p2_minutes a_p2_risk a_p2_openFirst a_p2_openLast a_p2_homeMinutes z_t_figures z_p2_ownKeys z_p2_beginning z_p2_ending z_p2_comer z_p2_nextComer t_letter t_one t_two t_openTold t_homesTold (upd t_busy t_one.toNatClampNeg ((t_busy t_one.toNatClampNeg) ||| (F_X2_hoursBetween t_two x1))) p2_people o82_0 p2_places p2_forgetTenths o82_1 o82_2 o82_3 p2_minutes p2_risk p2_openFirst p2_openLast p2_homeMinutes) := hD
              refine lv_goto (tgt := 210) hx hb dX2_endPart_116 (by decide) ?_
              exact hret t_openTold t_homesTold (upd t_busy t_one.toNatClampNeg ((t_busy t_one.toNatClampNeg) ||| (F_X2_hoursBetween t_two x1))) p2_people o82_0 p2_places p2_forgetTenths o82_1 o82_2 o82_3 p2_minutes p2_risk p2_openFirst p2_openLast p2_homeMinutes _ _ _ _ hP hD hS hR dX2_endPart_210
          · replace hR := bn hR n_4_82
            refine lv_tsw (off := 201) (tgt := 205) hx hb dX2_endPart_4 (by decide) (by simp only []; rw [tsw_no n_4_72 (by decide), tsw_hole, tsw_hole, tsw_hole, tsw_hole, tsw_hole, tsw_no n_4_78 (by decide), tsw_no n_4_79 (by decide), tsw_no n_4_80 (by decide), tsw_hole, tsw_no n_4_82 (by decide)]; rfl) (by decide) ?_
            refine lv_aload_n hx hb dX2_endPart_205 rfl (lv_at hl 2 rfl) ?_
            refine lv_iload_n hx hb dX2_endPart_206 rfl (lv_at hl 1 rfl) ?_
            refine p_X2_75 hx hb hw hown hK hP hD hS 2 rfl rfl rfl rfl dX2_endPart_207 (fun H locs hP hD hS => ?_)
            replace hP : va_P D vwCl (wd_X2_endPart cy a_t a_t_busy a_p2 a_p2_person a_p2_first a_p2_last a_p2_minutes a_p2_risk a_p2_openFirst a_p2_openLast a_p2_homeMinutes z_t_figures z_p2_ownKeys z_p2_beginning z_p2_ending z_p2_comer z_p2_nextComer t_letter t_one t_two t_openTold t_homesTold t_busy p2_people p2_sessions p2_places x1 p2_person p2_first p2_last p2_minutes p2_risk p2_openFirst p2_openLast p2_homeMinutes) H := hP
            replace hD : va_D A (wd_X2_endPart cy a_t a_t_busy a_p2 a_p2_person a_p2_first a_p2_last a_p2_minutes a_p2_risk a_p2_openFirst a_p2_openLast a_p2_homeMinutes z_t_figures z_p2_ownKeys z_p2_beginning z_p2_ending z_p2_comer z_p2_nextComer t_letter t_one t_two t_openTold t_homesTold t_busy p2_people p2_sessions p2_places x1 p2_person p2_first p2_last p2_minutes p2_risk p2_openFirst p2_openLast p2_homeMinutes) := hD
            exact hret t_openTold t_homesTold t_busy p2_people p2_sessions p2_places x1 p2_person p2_first p2_last p2_minutes p2_risk p2_openFirst p2_openLast p2_homeMinutes _ _ _ _ hP hD hS hR dX2_endPart_210
set_option maxHeartbeats 1000000 in
set_option maxRecDepth 100000 in
theorem c_X2_endPart {l : Launch} {D : va_G} {cy : Nat → ClassId} (a_t : Nat) (a_t_busy : Nat) (a_p2 : Nat) (a_p2_person : Nat) (a_p2_first : Nat) (a_p2_last : Nat) (a_p2_minutes : Nat) (a_p2_risk : Nat) (a_p2_openFirst : Nat) (a_p2_openLast : Nat) (a_p2_homeMinutes : Nat) (z_t_figures : Value) (z_p2_ownKeys : Value) (z_p2_beginning : Value) (z_p2_ending : Value) (z_p2_comer : Value) (z_p2_nextComer : Value) (t_letter : Int32) (t_one : Int32) (t_two : Int32) (t_openTold : Int32) (t_homesTold : Int32) (t_busy : Nat → Int32) (p2_people : Int32) (p2_sessions : Int32) (p2_places : Int32) (p2_forgetTenths : Int32) (p2_person : Nat → Int32) (p2_first : Nat → Int32) (p2_last : Nat → Int32) (p2_minutes : Nat → Int32) (p2_risk : Nat → Int32) (p2_openFirst : Nat → Int32) (p2_openLast : Nat → Int32) (p2_homeMinutes : Nat → Int32) (x1 : Int32) (sz : Nat) (hok : (ok_X2_endPart t_letter t_one t_two p2_people p2_sessions p2_places p2_person p2_first p2_last x1)) : WrV (S := Int32 × Int32 × (Nat → Int32) × Int32 × Int32 × Int32 × Int32 × (Nat → Int32) × (Nat → Int32) × (Nat → Int32) × (Nat → Int32) × (Nat → Int32) × (Nat → Int32) × (Nat → Int32) × (Nat → Int32)) l yX2_endPart cX2_endPart 3 none 2 44 D cy [.ref a_t, .int x1, .ref a_p2] (wd_X2_endPart cy a_t a_t_busy a_p2 a_p2_person a_p2_first a_p2_last a_p2_minutes a_p2_risk a_p2_openFirst a_p2_openLast a_p2_homeMinutes z_t_figures z_p2_ownKeys z_p2_beginning z_p2_ending z_p2_comer z_p2_nextComer t_letter t_one t_two t_openTold t_homesTold t_busy p2_people p2_sessions p2_places p2_forgetTenths p2_person p2_first p2_last p2_minutes p2_risk p2_openFirst p2_openLast p2_homeMinutes) (fun u => (wd_X2_endPart cy a_t a_t_busy a_p2 a_p2_person a_p2_first a_p2_last a_p2_minutes a_p2_risk a_p2_openFirst a_p2_openLast a_p2_homeMinutes z_t_figures z_p2_ownKeys z_p2_beginning z_p2_ending z_p2_comer z_p2_nextComer t_letter t_one t_two u.1 u.2.1 u.2.2.1 u.2.2.2.1 u.2.2.2.2.1 u.2.2.2.2.2.1 u.2.2.2.2.2.2.1 u.2.2.2.2.2.2.2.1 u.2.2.2.2.2.2.2.2.1 u.2.2.2.2.2.2.2.2.2.1 u.2.2.2.2.2.2.2.2.2.2.1 u.2.2.2.2.2.2.2.2.2.2.2.1 u.2.2.2.2.2.2.2.2.2.2.2.2.1 u.2.2.2.2.2.2.2.2.2.2.2.2.2.1 u.2.2.2.2.2.2.2.2.2.2.2.2.2.2)) (F_X2_endPart t_letter t_one t_two t_openTold t_homesTold t_busy p2_people p2_sessions p2_places p2_forgetTenths p2_person p2_first p2_last p2_minutes p2_risk p2_openFirst p2_openLast p2_homeMinutes x1) sz := by
  refine Met.ofW (cc := cX2_endPart) (maxL := 3) (ret := none) (by decide) rfl ?_
  intro p e s m args below meth c s₁ B hml hv
  obtain ⟨rfl, hsz, hP, hG, hD0⟩ := hv
  subst hsz
  have hD := hD0.self (sz := s.heap.size)
  have hr := B.returns
  have hlocks := B.notSynchronized
  have hl := lv_entry ([.ref a_t, .int x1, .ref a_p2]) (n := 3) (Nat.le_of_ble_eq_true rfl)
  rw [lg_entry_eq]
  generalize (lg_sl ([.ref a_t, .int x1, .ref a_p2]) ++ List.replicate (3 - (lg_sl ([.ref a_t, .int x1, .ref a_p2])).length) Slot.unset).toArray = ls at hl ⊢
  exact w_X2_endPart a_t a_t_busy a_p2 a_p2_person a_p2_first a_p2_last a_p2_minutes a_p2_risk a_p2_openFirst a_p2_openLast a_p2_homeMinutes z_t_figures z_p2_ownKeys z_p2_beginning z_p2_ending z_p2_comer z_p2_nextComer t_letter t_one t_two t_openTold t_homesTold t_busy p2_people p2_sessions p2_places p2_forgetTenths p2_person p2_first p2_last p2_minutes p2_risk p2_openFirst p2_openLast p2_homeMinutes x1 B.exec B.bytes hml (findClass_of_methodNamed B.named) (atoms_spec (ws := Cond.code yX2_endPart cX2_endPart 3 none :: LW) B.pre) hG (fun q h => Or.inr h) (fun o0 o1 o2 o3 o4 o5 o6 o7 o8 o9 o10 o11 o12 o13 o14 H locs ls pc hP hD hS hF hdg => W.vret B.exec B.bytes hr (fun t ht hW => ⟨⟨(o0, o1, o2, o3, o4, o5, o6, o7, o8, o9, o10, o11, o12, o13, o14), rfl, hF.symm, by rw [ht]; exact hP, hD⟩, hS.F ht⟩) hS.2.2 hdg) ls hl hP hD hok rfl
abbrev wd_X2_noteFigure (cy : Nat → ClassId) (a_t : Nat) (a_t_busy : Nat) (a_p2 : Nat) (a_p2_person : Nat) (a_p2_first : Nat) (a_p2_last : Nat) (a_p2_minutes : Nat) (a_p2_risk : Nat) (a_p2_openFirst : Nat) (a_p2_openLast : Nat) (a_p2_homeMinutes : Nat) (z_p2_ownKeys : Value) (z_p2_beginning : Value) (z_p2_ending : Value) (z_p2_comer : Value) (z_p2_nextComer : Value) (t_letter : Int32) (t_figures : Int32) (t_one : Int32) (t_two : Int32) (t_openTold : Int32) (t_homesTold : Int32) (t_busy : Nat → Int32) (p2_people : Int32) (p2_sessions : Int32) (p2_places : Int32) (p2_forgetTenths : Int32) (p2_person : Nat → Int32) (p2_first : Nat → Int32) (p2_last : Nat → Int32) (p2_minutes : Nat → Int32) (p2_risk : Nat → Int32) (p2_openFirst : Nat → Int32) (p2_openLast : Nat → Int32) (p2_homeMinutes : Nat → Int32) : va_W := [(a_t, .inr (2, [.int t_letter, .int t_figures, .int t_one, .int t_two, .int t_openTold, .int t_homesTold, .ref a_t_busy])), (a_t_busy, .inl (cy 1, 6, .inl t_busy)), (a_p2, .inr (1, [.int p2_people, .int p2_sessions, .int p2_places, .int p2_forgetTenths, z_p2_ownKeys, .ref a_p2_person, .ref a_p2_first, .ref a_p2_last, .ref a_p2_minutes, .ref a_p2_risk, .ref a_p2_openFirst, .ref a_p2_openLast, .ref a_p2_homeMinutes, z_p2_beginning, z_p2_ending, z_p2_comer, z_p2_nextComer])), (a_p2_person, .inl (cy 1, 8, .inl p2_person)), (a_p2_first, .inl (cy 1, 8, .inl p2_first)), (a_p2_last, .inl (cy 1, 8, .inl p2_last)), (a_p2_minutes, .inl (cy 1, 4, .inl p2_minutes)), (a_p2_risk, .inl (cy 1, 4, .inl p2_risk)), (a_p2_openFirst, .inl (cy 1, 4, .inl p2_openFirst)), (a_p2_openLast, .inl (cy 1, 4, .inl p2_openLast)), (a_p2_homeMinutes, .inl (cy 1, 6, .inl p2_homeMinutes))]
noncomputable def F_X2_noteFigure_b22 (t_figures : Int32) (t_one : Int32) (t_two : Int32) (t_openTold : Int32) (t_homesTold : Int32) (t_busy : Nat → Int32) (p2_people : Int32) (p2_sessions : Int32) (p2_places : Int32) (p2_forgetTenths : Int32) (p2_person : Nat → Int32) (p2_first : Nat → Int32) (p2_last : Nat → Int32) (p2_minutes : Nat → Int32) (p2_risk : Nat → Int32) (p2_openFirst : Nat → Int32) (p2_openLast : Nat → Int32) (p2_homeMinutes : Nat → Int32) : Int32 × Int32 × Int32 × Int32 × Int32 × Int32 × (Nat → Int32) × Int32 × Int32 × Int32 × Int32 × (Nat → Int32) × (Nat → Int32) × (Nat → Int32) × (Nat → Int32) × (Nat → Int32) × (Nat → Int32) × (Nat → Int32) × (Nat → Int32) := ((0 : Int32), (t_figures + (1 : Int32)), t_one, t_two, t_openTold, t_homesTold, t_busy, p2_people, p2_sessions, p2_places, p2_forgetTenths, p2_person, p2_first, p2_last, p2_minutes, p2_risk, p2_openFirst, p2_openLast, p2_homeMinutes)
noncomputable def F_X2_noteFigure (t_letter : Int32) (t_figures : Int32) (t_one : Int32) (t_two : Int32) (t_openTold : Int32) (t_homesTold : Int32) (t_busy : Nat → Int32) (p2_people : Int32) (p2_sessions : Int32) (p2_places : Int32) (p2_forgetTenths : Int32) (p2_person : Nat → Int32) (p2_first : Nat → Int32) (p2_last : Nat → Int32) (p2_minutes : Nat → Int32) (p2_risk : Nat → Int32) (p2_openFirst : Nat → Int32) (p2_openLast : Nat → Int32) (p2_homeMinutes : Nat → Int32) (x1 : Int32) : Int32 × Int32 × Int32 × Int32 × Int32 × Int32 × (Nat → Int32) × Int32 × Int32 × Int32 × Int32 × (Nat → Int32) × (Nat → Int32) × (Nat → Int32) × (Nat → Int32) × (Nat → Int32) × (Nat → Int32) × (Nat → Int32) × (Nat → Int32) := (if (t_figures + (1 : Int32)) = (F_X2_figuresOf t_letter) then ((fun (q : Int32 × Int32 × (Nat → Int32) × Int32 × Int32 × Int32 × Int32 × (Nat → Int32) × (Nat → Int32) × (Nat → Int32) × (Nat → Int32) × (Nat → Int32) × (Nat → Int32) × (Nat → Int32) × (Nat → Int32)) => (F_X2_noteFigure_b22 t_figures t_one t_two q.1 q.2.1 q.2.2.1 q.2.2.2.1 q.2.2.2.2.1 q.2.2.2.2.2.1 q.2.2.2.2.2.2.1 q.2.2.2.2.2.2.2.1 q.2.2.2.2.2.2.2.2.1 q.2.2.2.2.2.2.2.2.2.1 q.2.2.2.2.2.2.2.2.2.2.1 q.2.2.2.2.2.2.2.2.2.2.2.1 q.2.2.2.2.2.2.2.2.2.2.2.2.1 q.2.2.2.2.2.2.2.2.2.2.2.2.2.1 q.2.2.2.2.2.2.2.2.2.2.2.2.2.2)) (F_X2_endPart t_letter t_one t_two t_openTold t_homesTold t_busy p2_people p2_sessions p2_places p2_forgetTenths p2_person p2_first p2_last p2_minutes p2_risk p2_openFirst p2_openLast p2_homeMinutes x1)) else (if t_figures = (0 : Int32) then (t_letter, (t_figures + (1 : Int32)), x1, t_two, t_openTold, t_homesTold, t_busy, p2_people, p2_sessions, p2_places, p2_forgetTenths, p2_person, p2_first, p2_last, p2_minutes, p2_risk, p2_openFirst, p2_openLast, p2_homeMinutes) else (t_letter, (t_figures + (1 : Int32)), t_one, x1, t_openTold, t_homesTold, t_busy, p2_people, p2_sessions, p2_places, p2_forgetTenths, p2_person, p2_first, p2_last, p2_minutes, p2_risk, p2_openFirst, p2_openLast, p2_homeMinutes)))
def ok_X2_noteFigure (t_letter : Int32) (t_figures : Int32) (t_one : Int32) (t_two : Int32) (p2_people : Int32) (p2_sessions : Int32) (p2_places : Int32) (p2_person : Nat → Int32) (p2_first : Nat → Int32) (p2_last : Nat → Int32) (x1 : Int32) : Prop := ((t_figures + (1 : Int32)) = (F_X2_figuresOf t_letter) → (ok_X2_endPart t_letter t_one t_two p2_people p2_sessions p2_places p2_person p2_first p2_last x1))
set_option maxHeartbeats 4000000 in
set_option maxRecDepth 100000 in
theorem w_X2_noteFigure {p : Program} {l : Launch} {e : Env} {s : State} {m : MethodId} {args : Array Value} {below : List Frame} {meth : Method} {c : Code} {D : va_G} {cy : Nat → ClassId} {A : Nat → Prop} {QQ : State → Prop} {FV : Int32 × Int32 × Int32 × Int32 × Int32 × Int32 × (Nat → Int32) × Int32 × Int32 × Int32 × Int32 × (Nat → Int32) × (Nat → Int32) × (Nat → Int32) × (Nat → Int32) × (Nat → Int32) × (Nat → Int32) × (Nat → Int32) × (Nat → Int32)} (a_t : Nat) (a_t_busy : Nat) (a_p2 : Nat) (a_p2_person : Nat) (a_p2_first : Nat) (a_p2_last : Nat) (a_p2_minutes : Nat) (a_p2_risk : Nat) (a_p2_openFirst : Nat) (a_p2_openLast : Nat) (a_p2_homeMinutes : Nat) (z_p2_ownKeys : Value) (z_p2_beginning : Value) (z_p2_ending : Value) (z_p2_comer : Value) (z_p2_nextComer : Value) (t_letter : Int32) (t_figures : Int32) (t_one : Int32) (t_two : Int32) (t_openTold : Int32) (t_homesTold : Int32) (t_busy : Nat → Int32) (p2_people : Int32) (p2_sessions : Int32) (p2_places : Int32) (p2_forgetTenths : Int32) (p2_person : Nat → Int32) (p2_first : Nat → Int32) (p2_last : Nat → Int32) (p2_minutes : Nat → Int32) (p2_risk : Nat → Int32) (p2_openFirst : Nat → Int32) (p2_openLast : Nat → Int32) (p2_homeMinutes : Nat → Int32) (x1 : Int32) (hx : p.tables.exec = Jvm.exec) (hb : c.code = cX2_noteFigure) (hml : c.maxLocals = 3) (hown : s.vm.findClass RX2 = some m.cls) (hts : ∀ w ∈ Cond.code yX2_noteFigure cX2_noteFigure 3 none :: LW, w.before args s = true) (hG : GW D cy s) (hA : ∀ q, s.heap.size ≤ q → A q) (hret : ∀ (o0 : Int32) (o1 : Int32) (o2 : Int32) (o3 : Int32) (o4 : Int32) (o5 : Int32) (o6 : Nat → Int32) (o7 : Int32) (o8 : Int32) (o9 : Int32) (o10 : Int32) (o11 : Nat → Int32) (o12 : Nat → Int32) (o13 : Nat → Int32) (o14 : Nat → Int32) (o15 : Nat → Int32) (o16 : Nat → Int32) (o17 : Nat → Int32) (o18 : Nat → Int32) (H : Heap) (locs : List Loc) (ls : Array Slot) (pc : Nat), va_P D vwCl (wd_X2_noteFigure cy a_t a_t_busy a_p2 a_p2_person a_p2_first a_p2_last a_p2_minutes a_p2_risk a_p2_openFirst a_p2_openLast a_p2_homeMinutes z_p2_ownKeys z_p2_beginning z_p2_ending z_p2_comer z_p2_nextComer o0 o1 o2 o3 o4 o5 o6 o7 o8 o9 o10 o11 o12 o13 o14 o15 o16 o17 o18) H → va_D A (wd_X2_noteFigure cy a_t a_t_busy a_p2 a_p2_person a_p2_first a_p2_last a_p2_minutes a_p2_risk a_p2_openFirst a_p2_openLast a_p2_homeMinutes z_p2_ownKeys z_p2_beginning z_p2_ending z_p2_comer z_p2_nextComer o0 o1 o2 o3 o4 o5 o6 o7 o8 o9 o10 o11 o12 o13 o14 o15 o16 o17 o18) → va_S A s.heap H locs → FV = (o0, o1, o2, o3, o4, o5, o6, o7, o8, o9, o10, o11, o12, o13, o14, o15, o16, o17, o18) → decode cX2_noteFigure pc = .ok (.return_, 1) → W p l e (rmk 3 66) s m args below meth c H locs 0 0 QQ (F0 m pc ls [])) (ls : Array Slot) (hl : lv_has ls 3 [(0, .ref a_t), (1, .int x1), (2, .ref a_p2)]) (hP : va_P D vwCl (wd_X2_noteFigure cy a_t a_t_busy a_p2 a_p2_person a_p2_first a_p2_last a_p2_minutes a_p2_risk a_p2_openFirst a_p2_openLast a_p2_homeMinutes z_p2_ownKeys z_p2_beginning z_p2_ending z_p2_comer z_p2_nextComer t_letter t_figures t_one t_two t_openTold t_homesTold t_busy p2_people p2_sessions p2_places p2_forgetTenths p2_person p2_first p2_last p2_minutes p2_risk p2_openFirst p2_openLast p2_homeMinutes) s.heap) (hD : va_D A (wd_X2_noteFigure cy a_t a_t_busy a_p2 a_p2_person a_p2_first a_p2_last a_p2_minutes a_p2_risk a_p2_openFirst a_p2_openLast a_p2_homeMinutes z_p2_ownKeys z_p2_beginning z_p2_ending z_p2_comer z_p2_nextComer t_letter t_figures t_one t_two t_openTold t_homesTold t_busy p2_people p2_sessions p2_places p2_forgetTenths p2_person p2_first p2_last p2_minutes p2_risk p2_openFirst p2_openLast p2_homeMinutes)) (hok : (ok_X2_noteFigure t_letter t_figures t_one t_two p2_people p2_sessions p2_places p2_person p2_first p2_last x1)) (hR : FV = (F_X2_noteFigure t_letter t_figures t_one t_two t_openTold t_homesTold t_busy p2_people p2_sessions p2_places p2_forgetTenths p2_person p2_first p2_last p2_minutes p2_risk p2_openFirst p2_openLast p2_homeMinutes x1)) : W p l e (rmk 3 66) s m args below meth c s.heap [] 0 0 QQ (F0 m 0 ls []) := by
  have hw : ∀ w ∈ LW, w.before args s = true := fun w h => hts w (List.mem_cons_of_mem _ h)
  have hK := hG.1
  have hS : va_S A s.heap s.heap [] := va_S.rf
  unfold F_X2_noteFigure at hR
  unfold ok_X2_noteFigure at hok
  refine lv_aload_n hx hb dX2_noteFigure_0 rfl (lv_at hl 0 rfl) ?_
  refine g_X2_15 hx hb hw hown hK hP 0 rfl rfl dX2_noteFigure_1 ?_
  refine lv_iconst (v := 1) hx hb dX2_noteFigure_4 (by decide) ?_
  refine lv_iadd hx hb dX2_noteFigure_5 ?_
  refine lv_aload_n hx hb dX2_noteFigure_6 rfl (lv_at hl 0 rfl) ?_
  refine g_X2_9 hx hb hw hown hK hP 0 rfl rfl dX2_noteFigure_7 ?_
  refine rdIS (As := [.int t_letter]) (rest := [.int (t_figures + (1 : Int32))]) hx hb hml hown hts hG hP k_X2_85 (c_X2_figuresOf (l := l) (D := D) (cy := cy) t_letter) ⟨Nat.le_of_ble_eq_true rfl, Nat.le_of_ble_eq_true rfl⟩ [] rfl rfl hl.1 rfl (Nat.le_of_ble_eq_true rfl) ⟨Nat.zero_le _, Nat.zero_le _⟩ dX2_noteFigure_10 ?_
  refine lv_icmp_ne (tgt := 30) hx hb dX2_noteFigure_13 (by decide) (fun c_13 => ?_) (fun c_13 => ?_)
  · replace hR := bn hR c_13
    refine lv_aload_n hx hb dX2_noteFigure_30 rfl (lv_at hl 0 rfl) ?_
    refine g_X2_15 hx hb hw hown hK hP 0 rfl rfl dX2_noteFigure_31 ?_
    refine lv_if_ne (tgt := 45) hx hb dX2_noteFigure_34 (by decide) (fun c_34 => ?_) (fun c_34 => ?_)
    · replace hR := bn hR c_34
      refine lv_aload_n hx hb dX2_noteFigure_45 rfl (lv_at hl 0 rfl) ?_
      refine lv_iload_n hx hb dX2_noteFigure_46 rfl (lv_at hl 1 rfl) ?_
      refine p_X2_21 hx hb hw hown hK hP hD hS 0 rfl rfl rfl rfl dX2_noteFigure_47 (fun H locs hP hD hS => ?_)
      replace hP : va_P D vwCl (wd_X2_noteFigure cy a_t a_t_busy a_p2 a_p2_person a_p2_first a_p2_last a_p2_minutes a_p2_risk a_p2_openFirst a_p2_openLast a_p2_homeMinutes z_p2_ownKeys z_p2_beginning z_p2_ending z_p2_comer z_p2_nextComer t_letter t_figures t_one x1 t_openTold t_homesTold t_busy p2_people p2_sessions p2_places p2_forgetTenths p2_person p2_first p2_last p2_minutes p2_risk p2_openFirst p2_openLast p2_homeMinutes) H := hP
      replace hD : va_D A (wd_X2_noteFigure cy a_t a_t_busy a_p2 a_p2_person a_p2_first a_p2_last a_p2_minutes a_p2_risk a_p2_openFirst a_p2_openLast a_p2_homeMinutes z_p2_ownKeys z_p2_beginning z_p2_ending z_p2_comer z_p2_nextComer t_letter t_figures t_one x1 t_openTold t_homesTold t_busy p2_people p2_sessions p2_places p2_forgetTenths p2_person p2_first p2_last p2_minutes p2_risk p2_openFirst p2_openLast p2_homeMinutes) := hD
      refine lv_aload_n hx hb dX2_noteFigure_50 rfl (lv_at hl 0 rfl) ?_
      refine lv_dup hx hb dX2_noteFigure_51 rfl ?_
      refine g_X2_15 hx hb hw hown hK hP 0 rfl rfl dX2_noteFigure_52 ?_
      refine lv_iconst (v := 1) hx hb dX2_noteFigure_55 (by decide) ?_
      refine lv_iadd hx hb dX2_noteFigure_56 ?_
      refine p_X2_15 hx hb hw hown hK hP hD hS 0 rfl rfl rfl rfl dX2_noteFigure_57 (fun H locs hP hD hS => ?_)
      replace hP : va_P D vwCl (wd_X2_noteFigure cy a_t a_t_busy a_p2 a_p2_person a_p2_first a_p2_last a_p2_minutes a_p2_risk a_p2_openFirst a_p2_openLast a_p2_homeMinutes z_p2_ownKeys z_p2_beginning z_p2_ending z_p2_comer z_p2_nextComer t_letter (t_figures + (1 : Int32)) t_one x1 t_openTold t_homesTold t_busy p2_people p2_sessions p2_places p2_forgetTenths p2_person p2_first p2_last p2_minutes p2_risk p2_openFirst p2_openLast p2_homeMinutes) H := hP
      replace hD : va_D A (wd_X2_noteFigure cy a_t a_t_busy a_p2 a_p2_person a_p2_first a_p2_last a_p2_minutes a_p2_risk a_p2_openFirst a_p2_openLast a_p2_homeMinutes z_p2_ownKeys z_p2_beginning z_p2_ending z_p2_comer z_p2_nextComer t_letter (t_figures + (1 : Int32)) t_one x1 t_openTold t_homesTold t_busy p2_people p2_sessions p2_places p2_forgetTenths p2_person p2_first p2_last p2_minutes p2_risk p2_openFirst p2_openLast p2_homeMinutes) := hD
      exact hret t_letter (t_figures + (1 : Int32)) t_one x1 t_openTold t_homesTold t_busy p2_people p2_sessions p2_places p2_forgetTenths p2_person p2_first p2_last p2_minutes p2_risk p2_openFirst p2_openLast p2_homeMinutes _ _ _ _ hP hD hS hR dX2_noteFigure_60
    · replace hR := bp hR c_34
      refine lv_aload_n hx hb dX2_noteFigure_37 rfl (lv_at hl 0 rfl) ?_
      refine lv_iload_n hx hb dX2_noteFigure_38 rfl (lv_at hl 1 rfl) ?_
      refine p_X2_18 hx hb hw hown hK hP hD hS 0 rfl rfl rfl rfl dX2_noteFigure_39 (fun H locs hP hD hS => ?_)
      replace hP : va_P D vwCl (wd_X2_noteFigure cy a_t a_t_busy a_p2 a_p2_person a_p2_first a_p2_last a_p2_minutes a_p2_risk a_p2_openFirst a_p2_openLast a_p2_homeMinutes z_p2_ownKeys z_p2_beginning z_p2_ending z_p2_comer z_p2_nextComer t_letter t_figures x1 t_two t_openTold t_homesTold t_busy p2_people p2_sessions p2_places p2_forgetTenths p2_person p2_first p2_last p2_minutes p2_risk p2_openFirst p2_openLast p2_homeMinutes) H := hP
      replace hD : va_D A (wd_X2_noteFigure cy a_t a_t_busy a_p2 a_p2_person a_p2_first a_p2_last a_p2_minutes a_p2_risk a_p2_openFirst a_p2_openLast a_p2_homeMinutes z_p2_ownKeys z_p2_beginning z_p2_ending z_p2_comer z_p2_nextComer t_letter t_figures x1 t_two t_openTold t_homesTold t_busy p2_people p2_sessions p2_places p2_forgetTenths p2_person p2_first p2_last p2_minutes p2_risk p2_openFirst p2_openLast p2_homeMinutes) := hD
      refine lv_goto (tgt := 50) hx hb dX2_noteFigure_42 (by decide) ?_
      refine lv_aload_n hx hb dX2_noteFigure_50 rfl (lv_at hl 0 rfl) ?_
      refine lv_dup hx hb dX2_noteFigure_51 rfl ?_
      refine g_X2_15 hx hb hw hown hK hP 0 rfl rfl dX2_noteFigure_52 ?_
      refine lv_iconst (v := 1) hx hb dX2_noteFigure_55 (by decide) ?_
      refine lv_iadd hx hb dX2_noteFigure_56 ?_
      refine p_X2_15 hx hb hw hown hK hP hD hS 0 rfl rfl rfl rfl dX2_noteFigure_57 (fun H locs hP hD hS => ?_)
      replace hP : va_P D vwCl (wd_X2_noteFigure cy a_t a_t_busy a_p2 a_p2_person a_p2_first a_p2_last a_p2_minutes a_p2_risk a_p2_openFirst a_p2_openLast a_p2_homeMinutes z_p2_ownKeys z_p2_beginning z_p2_ending z_p2_comer z_p2_nextComer t_letter (t_figures + (1 : Int32)) x1 t_two t_openTold t_homesTold t_busy p2_people p2_sessions p2_places p2_forgetTenths p2_person p2_first p2_last p2_minutes p2_risk p2_openFirst p2_openLast p2_homeMinutes) H := hP
      replace hD : va_D A (wd_X2_noteFigure cy a_t a_t_busy a_p2 a_p2_person a_p2_first a_p2_last a_p2_minutes a_p2_risk a_p2_openFirst a_p2_openLast a_p2_homeMinutes z_p2_ownKeys z_p2_beginning z_p2_ending z_p2_comer z_p2_nextComer t_letter (t_figures + (1 : Int32)) x1 t_two t_openTold t_homesTold t_busy p2_people p2_sessions p2_places p2_forgetTenths p2_person p2_first p2_last p2_minutes p2_risk p2_openFirst p2_openLast p2_homeMinutes) := hD
      exact hret t_letter (t_figures + (1 : Int32)) x1 t_two t_openTold t_homesTold t_busy p2_people p2_sessions p2_places p2_forgetTenths p2_person p2_first p2_last p2_minutes p2_risk p2_openFirst p2_openLast p2_homeMinutes _ _ _ _ hP hD hS hR dX2_noteFigure_60
  · replace hR := bp hR c_13
    replace hok := hok c_13
    refine lv_aload_n hx hb dX2_noteFigure_16 rfl (lv_at hl 0 rfl) ?_
    refine lv_iload_n hx hb dX2_noteFigure_17 rfl (lv_at hl 1 rfl) ?_
    refine lv_aload_n hx hb dX2_noteFigure_18 rfl (lv_at hl 2 rfl) ?_
    have hok_19 := hok
    refine wkVV (As := [.int x1, .ref a_p2]) (rest := []) hx hb hml hown hts hG hP hD hS hA k_X2_89 (c_X2_endPart (l := l) (D := D) (cy := cy) a_t a_t_busy a_p2 a_p2_person a_p2_first a_p2_last a_p2_minutes a_p2_risk a_p2_openFirst a_p2_openLast a_p2_homeMinutes (.int t_figures) z_p2_ownKeys z_p2_beginning z_p2_ending z_p2_comer z_p2_nextComer t_letter t_one t_two t_openTold t_homesTold t_busy p2_people p2_sessions p2_places p2_forgetTenths p2_person p2_first p2_last p2_minutes p2_risk p2_openFirst p2_openLast p2_homeMinutes x1 s.heap.size hok_19) ⟨Nat.le_of_ble_eq_true rfl, Nat.le_of_ble_eq_true rfl⟩ [0, 1, 2, 3, 4, 5, 6, 7, 8, 9, 10] [] [0, 1, 2, 3, 4, 5, 6, 7, 8, 9, 10] (N := 11) rfl (by decide +kernel) rfl 0 rfl rfl rfl rfl hl.1 rfl (Nat.le_of_ble_eq_true rfl) ⟨Nat.zero_le _, Nat.zero_le _⟩ dX2_noteFigure_19 (fun u => (wd_X2_noteFigure cy a_t a_t_busy a_p2 a_p2_person a_p2_first a_p2_last a_p2_minutes a_p2_risk a_p2_openFirst a_p2_openLast a_p2_homeMinutes z_p2_ownKeys z_p2_beginning z_p2_ending z_p2_comer z_p2_nextComer t_letter t_figures t_one t_two u.1 u.2.1 u.2.2.1 u.2.2.2.1 u.2.2.2.2.1 u.2.2.2.2.2.1 u.2.2.2.2.2.2.1 u.2.2.2.2.2.2.2.1 u.2.2.2.2.2.2.2.2.1 u.2.2.2.2.2.2.2.2.2.1 u.2.2.2.2.2.2.2.2.2.2.1 u.2.2.2.2.2.2.2.2.2.2.2.1 u.2.2.2.2.2.2.2.2.2.2.2.2.1 u.2.2.2.2.2.2.2.2.2.2.2.2.2.1 u.2.2.2.2.2.2.2.2.2.2.2.2.2.2)) (fun _ => rfl) (fun u_19 H locs e_19 hP hD hS => ?_)
    obtain ⟨o19_0, o19_1, o19_2, o19_3, o19_4, o19_5, o19_6, o19_7, o19_8, o19_9, o19_10, o19_11, o19_12, o19_13, o19_14⟩ := u_19
    replace hP : va_P D vwCl (wd_X2_noteFigure cy a_t a_t_busy a_p2 a_p2_person a_p2_first a_p2_last a_p2_minutes a_p2_risk a_p2_openFirst a_p2_openLast a_p2_homeMinutes z_p2_ownKeys z_p2_beginning z_p2_ending z_p2_comer z_p2_nextComer t_letter t_figures t_one t_two o19_0 o19_1 o19_2 o19_3 o19_4 o19_5 o19_6 o19_7 o19_8 o19_9 o19_10 o19_11 o19_12 o19_13 o19_14) H := hP
    replace hD : va_D A (wd_X2_noteFigure cy a_t a_t_busy a_p2 a_p2_person a_p2_first a_p2_last a_p2_minutes a_p2_risk a_p2_openFirst a_p2_openLast a_p2_homeMinutes z_p2_ownKeys z_p2_beginning z_p2_ending z_p2_comer z_p2_nextComer t_letter t_figures t_one t_two o19_0 o19_1 o19_2 o19_3 o19_4 o19_5 o19_6 o19_7 o19_8 o19_9 o19_10 o19_11 o19_12 o19_13 o19_14) := hD
    have hR2 := hRq (fun (q : Int32 × Int32 × (Nat → Int32) × Int32 × Int32 × Int32 × Int32 × (Nat → Int32) × (Nat → Int32) × (Nat → Int32) × (Nat → Int32) × (Nat → Int32) × (Nat → Int32) × (Nat → Int32) × (Nat → Int32)) => (F_X2_noteFigure_b22 t_figures t_one t_two q.1 q.2.1 q.2.2.1 q.2.2.2.1 q.2.2.2.2.1 q.2.2.2.2.2.1 q.2.2.2.2.2.2.1 q.2.2.2.2.2.2.2.1 q.2.2.2.2.2.2.2.2.1 q.2.2.2.2.2.2.2.2.2.1 q.2.2.2.2.2.2.2.2.2.2.1 q.2.2.2.2.2.2.2.2.2.2.2.1 q.2.2.2.2.2.2.2.2.2.2.2.2.1 q.2.2.2.2.2.2.2.2.2.2.2.2.2.1 q.2.2.2.2.2.2.2.2.2.2.2.2.2.2)) e_19 hR
    replace hR : FV = (F_X2_noteFigure_b22 t_figures t_one t_two o19_0 o19_1 o19_2 o19_3 o19_4 o19_5 o19_6 o19_7 o19_8 o19_9 o19_10 o19_11 o19_12 o19_13 o19_14) := hR2
    unfold F_X2_noteFigure_b22 at hR
    refine lv_aload_n hx hb dX2_noteFigure_22 rfl (lv_at hl 0 rfl) ?_
    refine lv_iconst (v := 0) hx hb dX2_noteFigure_23 (by decide) ?_
    refine p_X2_9 hx hb hw hown hK hP hD hS 0 rfl rfl rfl rfl dX2_noteFigure_24 (fun H locs hP hD hS => ?_)
    replace hP : va_P D vwCl (wd_X2_noteFigure cy a_t a_t_busy a_p2 a_p2_person a_p2_first a_p2_last a_p2_minutes a_p2_risk a_p2_openFirst a_p2_openLast a_p2_homeMinutes z_p2_ownKeys z_p2_beginning z_p2_ending z_p2_comer z_p2_nextComer (0 : Int32) t_figures t_one t_two o19_0 o19_1 o19_2 o19_3 o19_4 o19_5 o19_6 o19_7 o19_8 o19_9 o19_10 o19_11 o19_12 o19_13 o19_14) H := hP
    replace hD : va_D A (wd_X2_noteFigure cy a_t a_t_busy a_p2 a_p2_person a_p2_first a_p2_last a_p2_minutes a_p2_risk a_p2_openFirst a_p2_openLast a_p2_homeMinutes z_p2_ownKeys z_p2_beginning z_p2_ending z_p2_comer z_p2_nextComer (0 : Int32) t_figures t_one t_two o19_0 o19_1 o19_2 o19_3 o19_4 o19_5 o19_6 o19_7 o19_8 o19_9 o19_10 o19_11 o19_12 o19_13 o19_14) := hD
    refine lv_goto (tgt := 50) hx hb dX2_noteFigure_27 (by decide) ?_
    refine lv_aload_n hx hb dX2_noteFigure_50 rfl (lv_at hl 0 rfl) ?_
    refine lv_dup hx hb dX2_noteFigure_51 rfl ?_
    refine g_X2_15 hx hb hw hown hK hP 0 rfl rfl dX2_noteFigure_52 ?_
    refine lv_iconst (v := 1) hx hb dX2_noteFigure_55 (by decide) ?_
    refine lv_iadd hx hb dX2_noteFigure_56 ?_
    refine p_X2_15 hx hb hw hown hK hP hD hS 0 rfl rfl rfl rfl dX2_noteFigure_57 (fun H locs hP hD hS => ?_)
    replace hP : va_P D vwCl (wd_X2_noteFigure cy a_t a_t_busy a_p2 a_p2_person a_p2_first a_p2_last a_p2_minutes a_p2_risk a_p2_openFirst a_p2_openLast a_p2_homeMinutes z_p2_ownKeys z_p2_beginning z_p2_ending z_p2_comer z_p2_nextComer (0 : Int32) (t_figures + (1 : Int32)) t_one t_two o19_0 o19_1 o19_2 o19_3 o19_4 o19_5 o19_6 o19_7 o19_8 o19_9 o19_10 o19_11 o19_12 o19_13 o19_14) H := hP
    replace hD : va_D A (wd_X2_noteFigure cy a_t a_t_busy a_p2 a_p2_person a_p2_first a_p2_last a_p2_minutes a_p2_risk a_p2_openFirst a_p2_openLast a_p2_homeMinutes z_p2_ownKeys z_p2_beginning z_p2_ending z_p2_comer z_p2_nextComer (0 : Int32) (t_figures + (1 : Int32)) t_one t_two o19_0 o19_1 o19_2 o19_3 o19_4 o19_5 o19_6 o19_7 o19_8 o19_9 o19_10 o19_11 o19_12 o19_13 o19_14) := hD
    exact hret (0 : Int32) (t_figures + (1 : Int32)) t_one t_two o19_0 o19_1 o19_2 o19_3 o19_4 o19_5 o19_6 o19_7 o19_8 o19_9 o19_10 o19_11 o19_12 o19_13 o19_14 _ _ _ _ hP hD hS hR dX2_noteFigure_60
set_option maxHeartbeats 1000000 in
set_option maxRecDepth 100000 in
theorem c_X2_noteFigure {l : Launch} {D : va_G} {cy : Nat → ClassId} (a_t : Nat) (a_t_busy : Nat) (a_p2 : Nat) (a_p2_person : Nat) (a_p2_first : Nat) (a_p2_last : Nat) (a_p2_minutes : Nat) (a_p2_risk : Nat) (a_p2_openFirst : Nat) (a_p2_openLast : Nat) (a_p2_homeMinutes : Nat) (z_p2_ownKeys : Value) (z_p2_beginning : Value) (z_p2_ending : Value) (z_p2_comer : Value) (z_p2_nextComer : Value) (t_letter : Int32) (t_figures : Int32) (t_one : Int32) (t_two : Int32) (t_openTold : Int32) (t_homesTold : Int32) (t_busy : Nat → Int32) (p2_people : Int32) (p2_sessions : Int32) (p2_places : Int32) (p2_forgetTenths : Int32) (p2_person : Nat → Int32) (p2_first : Nat → Int32) (p2_last : Nat → Int32) (p2_minutes : Nat → Int32) (p2_risk : Nat → Int32) (p2_openFirst : Nat → Int32) (p2_openLast : Nat → Int32) (p2_homeMinutes : Nat → Int32) (x1 : Int32) (sz : Nat) (hok : (ok_X2_noteFigure t_letter t_figures t_one t_two p2_people p2_sessions p2_places p2_person p2_first p2_last x1)) : WrV (S := Int32 × Int32 × Int32 × Int32 × Int32 × Int32 × (Nat → Int32) × Int32 × Int32 × Int32 × Int32 × (Nat → Int32) × (Nat → Int32) × (Nat → Int32) × (Nat → Int32) × (Nat → Int32) × (Nat → Int32) × (Nat → Int32) × (Nat → Int32)) l yX2_noteFigure cX2_noteFigure 3 none 3 66 D cy [.ref a_t, .int x1, .ref a_p2] (wd_X2_noteFigure cy a_t a_t_busy a_p2 a_p2_person a_p2_first a_p2_last a_p2_minutes a_p2_risk a_p2_openFirst a_p2_openLast a_p2_homeMinutes z_p2_ownKeys z_p2_beginning z_p2_ending z_p2_comer z_p2_nextComer t_letter t_figures t_one t_two t_openTold t_homesTold t_busy p2_people p2_sessions p2_places p2_forgetTenths p2_person p2_first p2_last p2_minutes p2_risk p2_openFirst p2_openLast p2_homeMinutes) (fun u => (wd_X2_noteFigure cy a_t a_t_busy a_p2 a_p2_person a_p2_first a_p2_last a_p2_minutes a_p2_risk a_p2_openFirst a_p2_openLast a_p2_homeMinutes z_p2_ownKeys z_p2_beginning z_p2_ending z_p2_comer z_p2_nextComer u.1 u.2.1 u.2.2.1 u.2.2.2.1 u.2.2.2.2.1 u.2.2.2.2.2.1 u.2.2.2.2.2.2.1 u.2.2.2.2.2.2.2.1 u.2.2.2.2.2.2.2.2.1 u.2.2.2.2.2.2.2.2.2.1 u.2.2.2.2.2.2.2.2.2.2.1 u.2.2.2.2.2.2.2.2.2.2.2.1 u.2.2.2.2.2.2.2.2.2.2.2.2.1 u.2.2.2.2.2.2.2.2.2.2.2.2.2.1 u.2.2.2.2.2.2.2.2.2.2.2.2.2.2.1 u.2.2.2.2.2.2.2.2.2.2.2.2.2.2.2.1 u.2.2.2.2.2.2.2.2.2.2.2.2.2.2.2.2.1 u.2.2.2.2.2.2.2.2.2.2.2.2.2.2.2.2.2.1 u.2.2.2.2.2.2.2.2.2.2.2.2.2.2.2.2.2.2)) (F_X2_noteFigure t_letter t_figures t_one t_two t_openTold t_homesTold t_busy p2_people p2_sessions p2_places p2_forgetTenths p2_person p2_first p2_last p2_minutes p2_risk p2_openFirst p2_openLast p2_homeMinutes x1) sz := by
  refine Met.ofW (cc := cX2_noteFigure) (maxL := 3) (ret := none) (by decide) rfl ?_
  intro p e s m args below meth c s₁ B hml hv
  obtain ⟨rfl, hsz, hP, hG, hD0⟩ := hv
  subst hsz
  have hD := hD0.self (sz := s.heap.size)
  have hr := B.returns
  have hlocks := B.notSynchronized
  have hl := lv_entry ([.ref a_t, .int x1, .ref a_p2]) (n := 3) (Nat.le_of_ble_eq_true rfl)
  rw [lg_entry_eq]
  generalize (lg_sl ([.ref a_t, .int x1, .ref a_p2]) ++ List.replicate (3 - (lg_sl ([.ref a_t, .int x1, .ref a_p2])).length) Slot.unset).toArray = ls at hl ⊢
  exact w_X2_noteFigure a_t a_t_busy a_p2 a_p2_person a_p2_first a_p2_last a_p2_minutes a_p2_risk a_p2_openFirst a_p2_openLast a_p2_homeMinutes z_p2_ownKeys z_p2_beginning z_p2_ending z_p2_comer z_p2_nextComer t_letter t_figures t_one t_two t_openTold t_homesTold t_busy p2_people p2_sessions p2_places p2_forgetTenths p2_person p2_first p2_last p2_minutes p2_risk p2_openFirst p2_openLast p2_homeMinutes x1 B.exec B.bytes hml (findClass_of_methodNamed B.named) (atoms_spec (ws := Cond.code yX2_noteFigure cX2_noteFigure 3 none :: LW) B.pre) hG (fun q h => Or.inr h) (fun o0 o1 o2 o3 o4 o5 o6 o7 o8 o9 o10 o11 o12 o13 o14 o15 o16 o17 o18 H locs ls pc hP hD hS hF hdg => W.vret B.exec B.bytes hr (fun t ht hW => ⟨⟨(o0, o1, o2, o3, o4, o5, o6, o7, o8, o9, o10, o11, o12, o13, o14, o15, o16, o17, o18), rfl, hF.symm, by rw [ht]; exact hP, hD⟩, hS.F ht⟩) hS.2.2 hdg) ls hl hP hD hok rfl
abbrev wd_X2_takes (cy : Nat → ClassId) (a_t : Nat) (a_t_busy : Nat) (a_p2 : Nat) (a_p2_person : Nat) (a_p2_first : Nat) (a_p2_last : Nat) (a_p2_minutes : Nat) (a_p2_risk : Nat) (a_p2_openFirst : Nat) (a_p2_openLast : Nat) (a_p2_homeMinutes : Nat) (z_p2_ownKeys : Value) (z_p2_beginning : Value) (z_p2_ending : Value) (z_p2_comer : Value) (z_p2_nextComer : Value) (t_letter : Int32) (t_figures : Int32) (t_one : Int32) (t_two : Int32) (t_openTold : Int32) (t_homesTold : Int32) (t_busy : Nat → Int32) (p2_people : Int32) (p2_sessions : Int32) (p2_places : Int32) (p2_forgetTenths : Int32) (p2_person : Nat → Int32) (p2_first : Nat → Int32) (p2_last : Nat → Int32) (p2_minutes : Nat → Int32) (p2_risk : Nat → Int32) (p2_openFirst : Nat → Int32) (p2_openLast : Nat → Int32) (p2_homeMinutes : Nat → Int32) : va_W := [(a_t, .inr (2, [.int t_letter, .int t_figures, .int t_one, .int t_two, .int t_openTold, .int t_homesTold, .ref a_t_busy])), (a_t_busy, .inl (cy 1, 6, .inl t_busy)), (a_p2, .inr (1, [.int p2_people, .int p2_sessions, .int p2_places, .int p2_forgetTenths, z_p2_ownKeys, .ref a_p2_person, .ref a_p2_first, .ref a_p2_last, .ref a_p2_minutes, .ref a_p2_risk, .ref a_p2_openFirst, .ref a_p2_openLast, .ref a_p2_homeMinutes, z_p2_beginning, z_p2_ending, z_p2_comer, z_p2_nextComer])), (a_p2_person, .inl (cy 1, 8, .inl p2_person)), (a_p2_first, .inl (cy 1, 8, .inl p2_first)), (a_p2_last, .inl (cy 1, 8, .inl p2_last)), (a_p2_minutes, .inl (cy 1, 4, .inl p2_minutes)), (a_p2_risk, .inl (cy 1, 4, .inl p2_risk)), (a_p2_openFirst, .inl (cy 1, 4, .inl p2_openFirst)), (a_p2_openLast, .inl (cy 1, 4, .inl p2_openLast)), (a_p2_homeMinutes, .inl (cy 1, 6, .inl p2_homeMinutes))]
noncomputable def F_X2_takes_b66 (t_letter : Int32) (t_figures : Int32) (t_one : Int32) (t_two : Int32) (t_openTold : Int32) (t_homesTold : Int32) (t_busy : Nat → Int32) (p2_people : Int32) (p2_sessions : Int32) (p2_places : Int32) (p2_forgetTenths : Int32) (p2_person : Nat → Int32) (p2_first : Nat → Int32) (p2_last : Nat → Int32) (p2_minutes : Nat → Int32) (p2_risk : Nat → Int32) (p2_openFirst : Nat → Int32) (p2_openLast : Nat → Int32) (p2_homeMinutes : Nat → Int32) : Int32 × Int32 × Int32 × Int32 × Int32 × Int32 × Int32 × (Nat → Int32) × Int32 × Int32 × Int32 × Int32 × (Nat → Int32) × (Nat → Int32) × (Nat → Int32) × (Nat → Int32) × (Nat → Int32) × (Nat → Int32) × (Nat → Int32) × (Nat → Int32) := ((1 : Int32), t_letter, t_figures, t_one, t_two, t_openTold, t_homesTold, t_busy, p2_people, p2_sessions, p2_places, p2_forgetTenths, p2_person, p2_first, p2_last, p2_minutes, p2_risk, p2_openFirst, p2_openLast, p2_homeMinutes)
noncomputable def F_X2_takes (t_letter : Int32) (t_figures : Int32) (t_one : Int32) (t_two : Int32) (t_openTold : Int32) (t_homesTold : Int32) (t_busy : Nat → Int32) (p2_people : Int32) (p2_sessions : Int32) (p2_places : Int32) (p2_forgetTenths : Int32) (p2_person : Nat → Int32) (p2_first : Nat → Int32) (p2_last : Nat → Int32) (p2_minutes : Nat → Int32) (p2_risk : Nat → Int32) (p2_openFirst : Nat → Int32) (p2_openLast : Nat → Int32) (p2_homeMinutes : Nat → Int32) (x1 : Int32) : Int32 × Int32 × Int32 × Int32 × Int32 × Int32 × Int32 × (Nat → Int32) × Int32 × Int32 × Int32 × Int32 × (Nat → Int32) × (Nat → Int32) × (Nat → Int32) × (Nat → Int32) × (Nat → Int32) × (Nat → Int32) × (Nat → Int32) × (Nat → Int32) := (if t_letter = (0 : Int32) then ((F_X2_mayFollow t_openTold t_homesTold t_busy p2_people p2_sessions p2_places p2_forgetTenths x1), (if (F_X2_mayFollow t_openTold t_homesTold t_busy p2_people p2_sessions p2_places p2_forgetTenths x1) = (0 : Int32) then (0 : Int32) else x1), (0 : Int32), t_one, t_two, t_openTold, t_homesTold, t_busy, p2_people, p2_sessions, p2_places, p2_forgetTenths, p2_person, p2_first, p2_last, p2_minutes, p2_risk, p2_openFirst, p2_openLast, p2_homeMinutes) else (if (x1 - (48 : Int32)) < (0 : Int32) then ((0 : Int32), t_letter, t_figures, t_one, t_two, t_openTold, t_homesTold, t_busy, p2_people, p2_sessions, p2_places, p2_forgetTenths, p2_person, p2_first, p2_last, p2_minutes, p2_risk, p2_openFirst, p2_openLast, p2_homeMinutes) else (if (9 : Int32) < (x1 - (48 : Int32)) then ((0 : Int32), t_letter, t_figures, t_one, t_two, t_openTold, t_homesTold, t_busy, p2_people, p2_sessions, p2_places, p2_forgetTenths, p2_person, p2_first, p2_last, p2_minutes, p2_risk, p2_openFirst, p2_openLast, p2_homeMinutes) else (if (F_X2_isRight t_letter t_figures t_one t_two t_openTold t_homesTold t_busy p2_people p2_places (x1 - (48 : Int32))) = (0 : Int32) then ((0 : Int32), t_letter, t_figures, t_one, t_two, t_openTold, t_homesTold, t_busy, p2_people, p2_sessions, p2_places, p2_forgetTenths, p2_person, p2_first, p2_last, p2_minutes, p2_risk, p2_openFirst, p2_openLast, p2_homeMinutes) else ((fun (q : Int32 × Int32 × Int32 × Int32 × Int32 × Int32 × (Nat → Int32) × Int32 × Int32 × Int32 × Int32 × (Nat → Int32) × (Nat → Int32) × (Nat → Int32) × (Nat → Int32) × (Nat → Int32) × (Nat → Int32) × (Nat → Int32) × (Nat → Int32)) => (F_X2_takes_b66 q.1 q.2.1 q.2.2.1 q.2.2.2.1 q.2.2.2.2.1 q.2.2.2.2.2.1 q.2.2.2.2.2.2.1 q.2.2.2.2.2.2.2.1 q.2.2.2.2.2.2.2.2.1 q.2.2.2.2.2.2.2.2.2.1 q.2.2.2.2.2.2.2.2.2.2.1 q.2.2.2.2.2.2.2.2.2.2.2.1 q.2.2.2.2.2.2.2.2.2.2.2.2.1 q.2.2.2.2.2.2.2.2.2.2.2.2.2.1 q.2.2.2.2.2.2.2.2.2.2.2.2.2.2.1 q.2.2.2.2.2.2.2.2.2.2.2.2.2.2.2.1 q.2.2.2.2.2.2.2.2.2.2.2.2.2.2.2.2.1 q.2.2.2.2.2.2.2.2.2.2.2.2.2.2.2.2.2.1 q.2.2.2.2.2.2.2.2.2.2.2.2.2.2.2.2.2.2)) (F_X2_noteFigure t_letter t_figures t_one t_two t_openTold t_homesTold t_busy p2_people p2_sessions p2_places p2_forgetTenths p2_person p2_first p2_last p2_minutes p2_risk p2_openFirst p2_openLast p2_homeMinutes (x1 - (48 : Int32))))))))
def ok_X2_takes (t_letter : Int32) (t_figures : Int32) (t_one : Int32) (t_two : Int32) (t_openTold : Int32) (t_homesTold : Int32) (t_busy : Nat → Int32) (p2_people : Int32) (p2_sessions : Int32) (p2_places : Int32) (p2_forgetTenths : Int32) (p2_person : Nat → Int32) (p2_first : Nat → Int32) (p2_last : Nat → Int32) (x1 : Int32) : Prop := ((t_letter = (0 : Int32) → ((ok_X2_mayFollow t_busy p2_people p2_sessions x1)) ∧ (isB (F_X2_mayFollow t_openTold t_homesTold t_busy p2_people p2_sessions p2_places p2_forgetTenths x1))) ∧ (¬ (t_letter = (0 : Int32)) → (¬ ((x1 - (48 : Int32)) < (0 : Int32)) → (¬ ((9 : Int32) < (x1 - (48 : Int32))) → ((ok_X2_isRight t_letter t_figures t_one t_two t_openTold t_busy p2_people p2_places (x1 - (48 : Int32)))) ∧ (¬ ((F_X2_isRight t_letter t_figures t_one t_two t_openTold t_homesTold t_busy p2_people p2_places (x1 - (48 : Int32))) = (0 : Int32)) → (ok_X2_noteFigure t_letter t_figures t_one t_two p2_people p2_sessions p2_places p2_person p2_first p2_last (x1 - (48 : Int32))))))))
set_option maxHeartbeats 4000000 in
set_option maxRecDepth 100000 in
theorem w_X2_takes {p : Program} {l : Launch} {e : Env} {s : State} {m : MethodId} {args : Array Value} {below : List Frame} {meth : Method} {c : Code} {D : va_G} {cy : Nat → ClassId} {A : Nat → Prop} {QQ : State → Prop} {FV : Int32 × Int32 × Int32 × Int32 × Int32 × Int32 × Int32 × (Nat → Int32) × Int32 × Int32 × Int32 × Int32 × (Nat → Int32) × (Nat → Int32) × (Nat → Int32) × (Nat → Int32) × (Nat → Int32) × (Nat → Int32) × (Nat → Int32) × (Nat → Int32)} (a_t : Nat) (a_t_busy : Nat) (a_p2 : Nat) (a_p2_person : Nat) (a_p2_first : Nat) (a_p2_last : Nat) (a_p2_minutes : Nat) (a_p2_risk : Nat) (a_p2_openFirst : Nat) (a_p2_openLast : Nat) (a_p2_homeMinutes : Nat) (z_p2_ownKeys : Value) (z_p2_beginning : Value) (z_p2_ending : Value) (z_p2_comer : Value) (z_p2_nextComer : Value) (t_letter : Int32) (t_figures : Int32) (t_one : Int32) (t_two : Int32) (t_openTold : Int32) (t_homesTold : Int32) (t_busy : Nat → Int32) (p2_people : Int32) (p2_sessions : Int32) (p2_places : Int32) (p2_forgetTenths : Int32) (p2_person : Nat → Int32) (p2_first : Nat → Int32) (p2_last : Nat → Int32) (p2_minutes : Nat → Int32) (p2_risk : Nat → Int32) (p2_openFirst : Nat → Int32) (p2_openLast : Nat → Int32) (p2_homeMinutes : Nat → Int32) (x1 : Int32) (hx : p.tables.exec = Jvm.exec) (hb : c.code = cX2_takes) (hml : c.maxLocals = 4) (hown : s.vm.findClass RX2 = some m.cls) (hts : ∀ w ∈ Cond.code yX2_takes cX2_takes 4 (some .boolean) :: LW, w.before args s = true) (hG : GW D cy s) (hA : ∀ q, s.heap.size ≤ q → A q) (hret : ∀ (r : Int32) (o0 : Int32) (o1 : Int32) (o2 : Int32) (o3 : Int32) (o4 : Int32) (o5 : Int32) (o6 : Nat → Int32) (o7 : Int32) (o8 : Int32) (o9 : Int32) (o10 : Int32) (o11 : Nat → Int32) (o12 : Nat → Int32) (o13 : Nat → Int32) (o14 : Nat → Int32) (o15 : Nat → Int32) (o16 : Nat → Int32) (o17 : Nat → Int32) (o18 : Nat → Int32) (H : Heap) (locs : List Loc) (ls : Array Slot) (pc : Nat), va_P D vwCl (wd_X2_takes cy a_t a_t_busy a_p2 a_p2_person a_p2_first a_p2_last a_p2_minutes a_p2_risk a_p2_openFirst a_p2_openLast a_p2_homeMinutes z_p2_ownKeys z_p2_beginning z_p2_ending z_p2_comer z_p2_nextComer o0 o1 o2 o3 o4 o5 o6 o7 o8 o9 o10 o11 o12 o13 o14 o15 o16 o17 o18) H → va_D A (wd_X2_takes cy a_t a_t_busy a_p2 a_p2_person a_p2_first a_p2_last a_p2_minutes a_p2_risk a_p2_openFirst a_p2_openLast a_p2_homeMinutes z_p2_ownKeys z_p2_beginning z_p2_ending z_p2_comer z_p2_nextComer o0 o1 o2 o3 o4 o5 o6 o7 o8 o9 o10 o11 o12 o13 o14 o15 o16 o17 o18) → va_S A s.heap H locs → FV = (r, o0, o1, o2, o3, o4, o5, o6, o7, o8, o9, o10, o11, o12, o13, o14, o15, o16, o17, o18) → narrow .boolean (.int r) = .int r → decode cX2_takes pc = .ok (.ireturn, 1) → W p l e (rmk 4 88) s m args below meth c H locs 0 0 QQ (F0 m pc ls [.int r])) (ls : Array Slot) (hl : lv_has ls 4 [(0, .ref a_t), (1, .int x1), (2, .ref a_p2)]) (hP : va_P D vwCl (wd_X2_takes cy a_t a_t_busy a_p2 a_p2_person a_p2_first a_p2_last a_p2_minutes a_p2_risk a_p2_openFirst a_p2_openLast a_p2_homeMinutes z_p2_ownKeys z_p2_beginning z_p2_ending z_p2_comer z_p2_nextComer t_letter t_figures t_one t_two t_openTold t_homesTold t_busy p2_people p2_sessions p2_places p2_forgetTenths p2_person p2_first p2_last p2_minutes p2_risk p2_openFirst p2_openLast p2_homeMinutes) s.heap) (hD : va_D A (wd_X2_takes cy a_t a_t_busy a_p2 a_p2_person a_p2_first a_p2_last a_p2_minutes a_p2_risk a_p2_openFirst a_p2_openLast a_p2_homeMinutes z_p2_ownKeys z_p2_beginning z_p2_ending z_p2_comer z_p2_nextComer t_letter t_figures t_one t_two t_openTold t_homesTold t_busy p2_people p2_sessions p2_places p2_forgetTenths p2_person p2_first p2_last p2_minutes p2_risk p2_openFirst p2_openLast p2_homeMinutes)) (hok : (ok_X2_takes t_letter t_figures t_one t_two t_openTold t_homesTold t_busy p2_people p2_sessions p2_places p2_forgetTenths p2_person p2_first p2_last x1)) (hR : FV = (F_X2_takes t_letter t_figures t_one t_two t_openTold t_homesTold t_busy p2_people p2_sessions p2_places p2_forgetTenths p2_person p2_first p2_last p2_minutes p2_risk p2_openFirst p2_openLast p2_homeMinutes x1)) : W p l e (rmk 4 88) s m args below meth c s.heap [] 0 0 QQ (F0 m 0 ls []) := by
  have hw : ∀ w ∈ LW, w.before args s = true := fun w h => hts w (List.mem_cons_of_mem _ h)
  have hK := hG.1
  have hS : va_S A s.heap s.heap [] := va_S.rf
  unfold F_X2_takes at hR
  unfold ok_X2_takes at hok
  refine lv_aload_n hx hb dX2_takes_0 rfl (lv_at hl 0 rfl) ?_
  refine g_X2_9 hx hb hw hown hK hP 0 rfl rfl dX2_takes_1 ?_
  refine lv_if_ne (tgt := 34) hx hb dX2_takes_4 (by decide) (fun c_4 => ?_) (fun c_4 => ?_)
  · replace hR := bn hR c_4
    replace hok := hok.2 c_4
    refine lv_iload_n hx hb dX2_takes_34 rfl (lv_at hl 1 rfl) ?_
    refine lv_bipush (v := 48) hx hb dX2_takes_35 (by decide) ?_
    refine lv_isub hx hb dX2_takes_37 ?_
    refine lv_istore_n (lv' := [(3, .int (x1 - (48 : Int32))), (0, .ref a_t), (1, .int x1), (2, .ref a_p2)]) hx hb dX2_takes_38 rfl hl (Nat.le_of_ble_eq_true rfl) rfl (fun ls hl => ?_)
    refine lv_iload_n hx hb dX2_takes_39 rfl (lv_at hl 0 rfl) ?_
    refine lv_if_lt (tgt := 58) hx hb dX2_takes_40 (by decide) (fun c_40 => ?_) (fun c_40 => ?_)
    · replace hR := bp hR c_40
      refine lv_iconst (v := 0) hx hb dX2_takes_58 (by decide) ?_
      exact hret (0 : Int32) t_letter t_figures t_one t_two t_openTold t_homesTold t_busy p2_people p2_sessions p2_places p2_forgetTenths p2_person p2_first p2_last p2_minutes p2_risk p2_openFirst p2_openLast p2_homeMinutes _ _ _ _ hP hD hS hR rfl dX2_takes_59
    · replace hR := bn hR c_40
      replace hok := hok c_40
      refine lv_iload_n hx hb dX2_takes_43 rfl (lv_at hl 0 rfl) ?_
      refine lv_bipush (v := 9) hx hb dX2_takes_44 (by decide) ?_
      refine lv_icmp_gt (tgt := 58) hx hb dX2_takes_46 (by decide) (fun c_46 => ?_) (fun c_46 => ?_)
      · replace hR := bp hR c_46
        refine lv_iconst (v := 0) hx hb dX2_takes_58 (by decide) ?_
        exact hret (0 : Int32) t_letter t_figures t_one t_two t_openTold t_homesTold t_busy p2_people p2_sessions p2_places p2_forgetTenths p2_person p2_first p2_last p2_minutes p2_risk p2_openFirst p2_openLast p2_homeMinutes _ _ _ _ hP hD hS hR rfl dX2_takes_59
      · replace hR := bn hR c_46
        replace hok := hok c_46
        refine lv_aload_n hx hb dX2_takes_49 rfl (lv_at hl 1 rfl) ?_
        refine lv_iload_n hx hb dX2_takes_50 rfl (lv_at hl 0 rfl) ?_
        refine lv_aload_n hx hb dX2_takes_51 rfl (lv_at hl 3 rfl) ?_
        obtain ⟨h_52_0, hok⟩ := hok
        refine rdIV (As := [.int (x1 - (48 : Int32)), .ref a_p2]) (rest := []) hx hb hml hown hts hG hP k_X2_58 (c_X2_isRight (l := l) (D := D) (cy := cy) a_t a_t_busy a_p2 (.int p2_sessions) (.int p2_forgetTenths) z_p2_ownKeys (.ref a_p2_person) (.ref a_p2_first) (.ref a_p2_last) (.ref a_p2_minutes) (.ref a_p2_risk) (.ref a_p2_openFirst) (.ref a_p2_openLast) (.ref a_p2_homeMinutes) z_p2_beginning z_p2_ending z_p2_comer z_p2_nextComer t_letter t_figures t_one t_two t_openTold t_homesTold t_busy p2_people p2_places (x1 - (48 : Int32)) h_52_0) ⟨Nat.le_of_ble_eq_true rfl, Nat.le_of_ble_eq_true rfl⟩ [0, 1, 2] rfl 0 rfl rfl rfl rfl hl.1 rfl (Nat.le_of_ble_eq_true rfl) ⟨Nat.zero_le _, Nat.zero_le _⟩ dX2_takes_52 ?_
        refine lv_if_ne (tgt := 60) hx hb dX2_takes_55 (by decide) (fun c_55 => ?_) (fun c_55 => ?_)
        · replace hR := bn hR c_55
          replace hok := hok c_55
          refine lv_aload_n hx hb dX2_takes_60 rfl (lv_at hl 1 rfl) ?_
          refine lv_iload_n hx hb dX2_takes_61 rfl (lv_at hl 0 rfl) ?_
          refine lv_aload_n hx hb dX2_takes_62 rfl (lv_at hl 3 rfl) ?_
          have hok_63 := hok
          refine wkVV (As := [.int (x1 - (48 : Int32)), .ref a_p2]) (rest := []) hx hb hml hown hts hG hP hD hS hA k_X2_61 (c_X2_noteFigure (l := l) (D := D) (cy := cy) a_t a_t_busy a_p2 a_p2_person a_p2_first a_p2_last a_p2_minutes a_p2_risk a_p2_openFirst a_p2_openLast a_p2_homeMinutes z_p2_ownKeys z_p2_beginning z_p2_ending z_p2_comer z_p2_nextComer t_letter t_figures t_one t_two t_openTold t_homesTold t_busy p2_people p2_sessions p2_places p2_forgetTenths p2_person p2_first p2_last p2_minutes p2_risk p2_openFirst p2_openLast p2_homeMinutes (x1 - (48 : Int32)) s.heap.size hok_63) ⟨Nat.le_of_ble_eq_true rfl, Nat.le_of_ble_eq_true rfl⟩ [0, 1, 2, 3, 4, 5, 6, 7, 8, 9, 10] [] [0, 1, 2, 3, 4, 5, 6, 7, 8, 9, 10] (N := 11) rfl (by decide +kernel) rfl 0 rfl rfl rfl rfl hl.1 rfl (Nat.le_of_ble_eq_true rfl) ⟨Nat.zero_le _, Nat.zero_le _⟩ dX2_takes_63 (fun u => (wd_X2_takes cy a_t a_t_busy a_p2 a_p2_person a_p2_first a_p2_last a_p2_minutes a_p2_risk a_p2_openFirst a_p2_openLast a_p2_homeMinutes z_p2_ownKeys z_p2_beginning z_p2_ending z_p2_comer z_p2_nextComer u.1 u.2.1 u.2.2.1 u.2.2.2.1 u.2.2.2.2.1 u.2.2.2.2.2.1 u.2.2.2.2.2.2.1 u.2.2.2.2.2.2.2.1 u.2.2.2.2.2.2.2.2.1 u.2.2.2.2.2.2.2.2.2.1 u.2.2.2.2.2.2.2.2.2.2.1 u.2.2.2.2.2.2.2.2.2.2.2.1 u.2.2.2.2.2.2.2.2.2.2.2.2.1 u.2.2.2.2.2.2.2.2.2.2.2.2.2.1 u.2.2.2.2.2.2.2.2.2.2.2.2.2.2.1 u.2.2.2.2.2.2.2.2.2.2.2.2.2.2.2.1 u.2.2.2.2.2.2.2.2.2.2.2.2.2.2.2.2.1 u.2.2.2.2.2.2.2.2.2.2.2.2.2.2.2.2.2.1 u.2.2.2.2.2.2.2.2.2.2.2.2.2.2.2.2.2.2)) (fun _ => rfl) (fun u_63 H locs e_63 hP hD hS => ?_)
          obtain ⟨o63_0, o63_1, o63_2, o63_3, o63_4, o63_5, o63_6, o63_7, o63_8, o63_9, o63_10, o63_11, o63_12, o63_13, o63_14, o63_15, o63_16, o63_17, o63_18⟩ := u_63
          replace hP : va_P D vwCl (wd_X2_takes cy a_t a_t_busy a_p2 a_p2_person a_p2_first a_p2_last a_p2_minutes a_p2_risk a_p2_openFirst a_p2_openLast a_p2_homeMinutes z_p2_ownKeys z_p2_beginning z_p2_ending z_p2_comer z_p2_nextComer o63_0 o63_1 o63_2 o63_3 o63_4 o63_5 o63_6 o63_7 o63_8 o63_9 o63_10 o63_11 o63_12 o63_13 o63_14 o63_15 o63_16 o63_17 o63_18) H := hP
          replace hD : va_D A (wd_X2_takes cy a_t a_t_busy a_p2 a_p2_person a_p2_first a_p2_last a_p2_minutes a_p2_risk a_p2_openFirst a_p2_openLast a_p2_homeMinutes z_p2_ownKeys z_p2_beginning z_p2_ending z_p2_comer z_p2_nextComer o63_0 o63_1 o63_2 o63_3 o63_4 o63_5 o63_6 o63_7 o63_8 o63_9 o63_10 o63_11 o63_12 o63_13 o63_14 o63_15 o63_16 o63_17 o63_18) := hD
          have hR2 := hRq (fun (q : Int32 × Int32 × Int32 × Int32 × Int32 × Int32 × (Nat → Int32) × Int32 × Int32 × Int32 × Int32 × (Nat → Int32) × (Nat → Int32) × (Nat → Int32) × (Nat → Int32) × (Nat → Int32) × (Nat → Int32) × (Nat → Int32) × (Nat → Int32)) => (F_X2_takes_b66 q.1 q.2.1 q.2.2.1 q.2.2.2.1 q.2.2.2.2.1 q.2.2.2.2.2.1 q.2.2.2.2.2.2.1 q.2.2.2.2.2.2.2.1 q.2.2.2.2.2.2.2.2.1 q.2.2.2.2.2.2.2.2.2.1 q.2.2.2.2.2.2.2.2.2.2.1 q.2.2.2.2.2.2.2.2.2.2.2.1 q.2.2.2.2.2.2.2.2.2.2.2.2.1 q.2.2.2.2.2.2.2.2.2.2.2.2.2.1 q.2.2.2.2.2.2.2.2.2.2.2.2.2.2.1 q.2.2.2.2.2.2.2.2.2.2.2.2.2.2.2.1 q.2.2.2.2.2.2.2.2.2.2.2.2.2.2.2.2.1 q.2.2.2.2.2.2.2.2.2.2.2.2.2.2.2.2.2.1 q.2.2.2.2.2.2.2.2.2.2.2.2.2.2.2.2.2.2)) e_63 hR
          replace hR : FV = (F_X2_takes_b66 o63_0 o63_1 o63_2 o63_3 o63_4 o63_5 o63_6 o63_7 o63_8 o63_9 o63_10 o63_11 o63_12 o63_13 o63_14 o63_15 o63_16 o63_17 o63_18) := hR2
          unfold F_X2_takes_b66 at hR
          refine lv_iconst (v := 1) hx hb dX2_takes_66 (by decide) ?_
          exact hret (1 : Int32) o63_0 o63_1 o63_2 o63_3 o63_4 o63_5 o63_6 o63_7 o63_8 o63_9 o63_10 o63_11 o63_12 o63_13 o63_14 o63_15 o63_16 o63_17 o63_18 _ _ _ _ hP hD hS hR rfl dX2_takes_67
        · replace hR := bp hR c_55
          refine lv_iconst (v := 0) hx hb dX2_takes_58 (by decide) ?_
          exact hret (0 : Int32) t_letter t_figures t_one t_two t_openTold t_homesTold t_busy p2_people p2_sessions p2_places p2_forgetTenths p2_person p2_first p2_last p2_minutes p2_risk p2_openFirst p2_openLast p2_homeMinutes _ _ _ _ hP hD hS hR rfl dX2_takes_59
  · replace hR := bp hR c_4
    replace hok := hok.1 c_4
    refine lv_aload_n hx hb dX2_takes_7 rfl (lv_at hl 0 rfl) ?_
    refine lv_iload_n hx hb dX2_takes_8 rfl (lv_at hl 1 rfl) ?_
    refine lv_aload_n hx hb dX2_takes_9 rfl (lv_at hl 2 rfl) ?_
    obtain ⟨h_10_0, hok⟩ := hok
    refine rdIV (As := [.int x1, .ref a_p2]) (rest := []) hx hb hml hown hts hG hP k_X2_55 (c_X2_mayFollow (l := l) (D := D) (cy := cy) a_t a_t_busy a_p2 (.int t_letter) (.int t_figures) (.int t_one) (.int t_two) z_p2_ownKeys (.ref a_p2_person) (.ref a_p2_first) (.ref a_p2_last) (.ref a_p2_minutes) (.ref a_p2_risk) (.ref a_p2_openFirst) (.ref a_p2_openLast) (.ref a_p2_homeMinutes) z_p2_beginning z_p2_ending z_p2_comer z_p2_nextComer t_openTold t_homesTold t_busy p2_people p2_sessions p2_places p2_forgetTenths x1 h_10_0) ⟨Nat.le_of_ble_eq_true rfl, Nat.le_of_ble_eq_true rfl⟩ [0, 1, 2] rfl 0 rfl rfl rfl rfl hl.1 rfl (Nat.le_of_ble_eq_true rfl) ⟨Nat.zero_le _, Nat.zero_le _⟩ dX2_takes_10 ?_
    refine lv_istore_n (lv' := [(3, .int (F_X2_mayFollow t_openTold t_homesTold t_busy p2_people p2_sessions p2_places p2_forgetTenths x1)), (0, .ref a_t), (1, .int x1), (2, .ref a_p2)]) hx hb dX2_takes_13 rfl hl (Nat.le_of_ble_eq_true rfl) rfl (fun ls hl => ?_)
    refine lv_aload_n hx hb dX2_takes_14 rfl (lv_at hl 1 rfl) ?_
    refine lv_iload_n hx hb dX2_takes_15 rfl (lv_at hl 0 rfl) ?_
    have K_16 : W p l e (rmk 4 88) s m args below meth c s.heap [] 0 0 QQ (F0 m 24 ls [.int (if (F_X2_mayFollow t_openTold t_homesTold t_busy p2_people p2_sessions p2_places p2_forgetTenths x1) = (0 : Int32) then (0 : Int32) else x1), .ref a_t]) := by
      refine p_X2_9 hx hb hw hown hK hP hD hS 0 rfl rfl rfl rfl dX2_takes_24 (fun H locs hP hD hS => ?_)
      replace hP : va_P D vwCl (wd_X2_takes cy a_t a_t_busy a_p2 a_p2_person a_p2_first a_p2_last a_p2_minutes a_p2_risk a_p2_openFirst a_p2_openLast a_p2_homeMinutes z_p2_ownKeys z_p2_beginning z_p2_ending z_p2_comer z_p2_nextComer (if (F_X2_mayFollow t_openTold t_homesTold t_busy p2_people p2_sessions p2_places p2_forgetTenths x1) = (0 : Int32) then (0 : Int32) else x1) t_figures t_one t_two t_openTold t_homesTold t_busy p2_people p2_sessions p2_places p2_forgetTenths p2_person p2_first p2_last p2_minutes p2_risk p2_openFirst p2_openLast p2_homeMinutes) H := hP
      replace hD : va_D A (wd_X2_takes cy a_t a_t_busy a_p2 a_p2_person a_p2_first a_p2_last a_p2_minutes a_p2_risk a_p2_openFirst a_p2_openLast a_p2_homeMinutes z_p2_ownKeys z_p2_beginning z_p2_ending z_p2_comer z_p2_nextComer (if (F_X2_mayFollow t_openTold t_homesTold t_busy p2_people p2_sessions p2_places p2_forgetTenths x1) = (0 : Int32) then (0 : Int32) else x1) t_figures t_one t_two t_openTold t_homesTold t_busy p2_people p2_sessions p2_places p2_forgetTenths p2_person p2_first p2_last p2_minutes p2_risk p2_openFirst p2_openLast p2_homeMinutes) := hD
      refine lv_aload_n hx hb dX2_takes_27 rfl (lv_at hl 1 rfl) ?_
      refine lv_iconst (v := 0) hx hb dX2_takes_28 (by decide) ?_
      refine p_X2_15 hx hb hw hown hK hP hD hS 0 rfl rfl rfl rfl dX2_takes_29 (fun H locs hP hD hS => ?_)
      replace hP : va_P D vwCl (wd_X2_takes cy a_t a_t_busy a_p2 a_p2_person a_p2_first a_p2_last a_p2_minutes a_p2_risk a_p2_openFirst a_p2_openLast a_p2_homeMinutes z_p2_ownKeys z_p2_beginning z_p2_ending z_p2_comer z_p2_nextComer (if (F_X2_mayFollow t_openTold t_homesTold t_busy p2_people p2_sessions p2_places p2_forgetTenths x1) = (0 : Int32) then (0 : Int32) else x1) (0 : Int32) t_one t_two t_openTold t_homesTold t_busy p2_people p2_sessions p2_places p2_forgetTenths p2_person p2_first p2_last p2_minutes p2_risk p2_openFirst p2_openLast p2_homeMinutes) H := hP
      replace hD : va_D A (wd_X2_takes cy a_t a_t_busy a_p2 a_p2_person a_p2_first a_p2_last a_p2_minutes a_p2_risk a_p2_openFirst a_p2_openLast a_p2_homeMinutes z_p2_ownKeys z_p2_beginning z_p2_ending z_p2_comer z_p2_nextComer (if (F_X2_mayFollow t_openTold t_homesTold t_busy p2_people p2_sessions p2_places p2_forgetTenths x1) = (0 : Int32) then (0 : Int32) else x1) (0 : Int32) t_one t_two t_openTold t_homesTold t_busy p2_people p2_sessions p2_places p2_forgetTenths p2_person p2_first p2_last p2_minutes p2_risk p2_openFirst p2_openLast p2_homeMinutes) := hD
      refine lv_iload_n hx hb dX2_takes_32 rfl (lv_at hl 0 rfl) ?_
      exact hret (F_X2_mayFollow t_openTold t_homesTold t_busy p2_people p2_sessions p2_places p2_forgetTenths x1) (if (F_X2_mayFollow t_openTold t_homesTold t_busy p2_people p2_sessions p2_places p2_forgetTenths x1) = (0 : Int32) then (0 : Int32) else x1) (0 : Int32) t_one t_two t_openTold t_homesTold t_busy p2_people p2_sessions p2_places p2_forgetTenths p2_person p2_first p2_last p2_minutes p2_risk p2_openFirst p2_openLast p2_homeMinutes _ _ _ _ hP hD hS hR (isB.nar hok) dX2_takes_33
    refine lv_if_eq (tgt := 23) hx hb dX2_takes_16 (by decide) (fun c_16 => ?_) (fun c_16 => ?_)
    · refine lv_iconst (v := 0) hx hb dX2_takes_23 (by decide) ?_
      exact W.eq (congrArg (fun z => F0 m 24 ls (Value.int z :: [.ref a_t])) (if_pos c_16).symm) K_16
    · refine lv_iload_n hx hb dX2_takes_19 rfl (lv_at hl 2 rfl) ?_
      refine lv_goto (tgt := 24) hx hb dX2_takes_20 (by decide) ?_
      exact W.eq (congrArg (fun z => F0 m 24 ls (Value.int z :: [.ref a_t])) (if_neg c_16).symm) K_16
set_option maxHeartbeats 1000000 in
set_option maxRecDepth 100000 in
theorem c_X2_takes {l : Launch} {D : va_G} {cy : Nat → ClassId} (a_t : Nat) (a_t_busy : Nat) (a_p2 : Nat) (a_p2_person : Nat) (a_p2_first : Nat) (a_p2_last : Nat) (a_p2_minutes : Nat) (a_p2_risk : Nat) (a_p2_openFirst : Nat) (a_p2_openLast : Nat) (a_p2_homeMinutes : Nat) (z_p2_ownKeys : Value) (z_p2_beginning : Value) (z_p2_ending : Value) (z_p2_comer : Value) (z_p2_nextComer : Value) (t_letter : Int32) (t_figures : Int32) (t_one : Int32) (t_two : Int32) (t_openTold : Int32) (t_homesTold : Int32) (t_busy : Nat → Int32) (p2_people : Int32) (p2_sessions : Int32) (p2_places : Int32) (p2_forgetTenths : Int32) (p2_person : Nat → Int32) (p2_first : Nat → Int32) (p2_last : Nat → Int32) (p2_minutes : Nat → Int32) (p2_risk : Nat → Int32) (p2_openFirst : Nat → Int32) (p2_openLast : Nat → Int32) (p2_homeMinutes : Nat → Int32) (x1 : Int32) (sz : Nat) (hok : (ok_X2_takes t_letter t_figures t_one t_two t_openTold t_homesTold t_busy p2_people p2_sessions p2_places p2_forgetTenths p2_person p2_first p2_last x1)) : WrI (S := Int32 × Int32 × Int32 × Int32 × Int32 × Int32 × (Nat → Int32) × Int32 × Int32 × Int32 × Int32 × (Nat → Int32) × (Nat → Int32) × (Nat → Int32) × (Nat → Int32) × (Nat → Int32) × (Nat → Int32) × (Nat → Int32) × (Nat → Int32)) l yX2_takes cX2_takes 4 (some .boolean) 4 88 D cy [.ref a_t, .int x1, .ref a_p2] (wd_X2_takes cy a_t a_t_busy a_p2 a_p2_person a_p2_first a_p2_last a_p2_minutes a_p2_risk a_p2_openFirst a_p2_openLast a_p2_homeMinutes z_p2_ownKeys z_p2_beginning z_p2_ending z_p2_comer z_p2_nextComer t_letter t_figures t_one t_two t_openTold t_homesTold t_busy p2_people p2_sessions p2_places p2_forgetTenths p2_person p2_first p2_last p2_minutes p2_risk p2_openFirst p2_openLast p2_homeMinutes) (fun u => (wd_X2_takes cy a_t a_t_busy a_p2 a_p2_person a_p2_first a_p2_last a_p2_minutes a_p2_risk a_p2_openFirst a_p2_openLast a_p2_homeMinutes z_p2_ownKeys z_p2_beginning z_p2_ending z_p2_comer z_p2_nextComer u.1 u.2.1 u.2.2.1 u.2.2.2.1 u.2.2.2.2.1 u.2.2.2.2.2.1 u.2.2.2.2.2.2.1 u.2.2.2.2.2.2.2.1 u.2.2.2.2.2.2.2.2.1 u.2.2.2.2.2.2.2.2.2.1 u.2.2.2.2.2.2.2.2.2.2.1 u.2.2.2.2.2.2.2.2.2.2.2.1 u.2.2.2.2.2.2.2.2.2.2.2.2.1 u.2.2.2.2.2.2.2.2.2.2.2.2.2.1 u.2.2.2.2.2.2.2.2.2.2.2.2.2.2.1 u.2.2.2.2.2.2.2.2.2.2.2.2.2.2.2.1 u.2.2.2.2.2.2.2.2.2.2.2.2.2.2.2.2.1 u.2.2.2.2.2.2.2.2.2.2.2.2.2.2.2.2.2.1 u.2.2.2.2.2.2.2.2.2.2.2.2.2.2.2.2.2.2)) (F_X2_takes t_letter t_figures t_one t_two t_openTold t_homesTold t_busy p2_people p2_sessions p2_places p2_forgetTenths p2_person p2_first p2_last p2_minutes p2_risk p2_openFirst p2_openLast p2_homeMinutes x1) sz := by
  refine Met.ofW (cc := cX2_takes) (maxL := 4) (ret := (some .boolean)) (by decide) rfl ?_
  intro p e s m args below meth c s₁ B hml hv
  obtain ⟨rfl, hsz, hP, hG, hD0⟩ := hv
  subst hsz
  have hD := hD0.self (sz := s.heap.size)
  have hr := B.returns
  have hlocks := B.notSynchronized
  have hl := lv_entry ([.ref a_t, .int x1, .ref a_p2]) (n := 4) (Nat.le_of_ble_eq_true rfl)
  rw [lg_entry_eq]
  generalize (lg_sl ([.ref a_t, .int x1, .ref a_p2]) ++ List.replicate (4 - (lg_sl ([.ref a_t, .int x1, .ref a_p2])).length) Slot.unset).toArray = ls at hl ⊢
  exact w_X2_takes a_t a_t_busy a_p2 a_p2_person a_p2_first a_p2_last a_p2_minutes a_p2_risk a_p2_openFirst a_p2_openLast a_p2_homeMinutes z_p2_ownKeys z_p2_beginning z_p2_ending z_p2_comer z_p2_nextComer t_letter t_figures t_one t_two t_openTold t_homesTold t_busy p2_people p2_sessions p2_places p2_forgetTenths p2_person p2_first p2_last p2_minutes p2_risk p2_openFirst p2_openLast p2_homeMinutes x1 B.exec B.bytes hml (findClass_of_methodNamed B.named) (atoms_spec (ws := Cond.code yX2_takes cX2_takes 4 (some .boolean) :: LW) B.pre) hG (fun q h => Or.inr h) (fun r o0 o1 o2 o3 o4 o5 o6 o7 o8 o9 o10 o11 o12 o13 o14 o15 o16 o17 o18 H locs ls pc hP hD hS hF hn hdg => W.zret (v := r) B.exec B.bytes hr hn (fun t ht hW => ⟨⟨r, (o0, o1, o2, o3, o4, o5, o6, o7, o8, o9, o10, o11, o12, o13, o14, o15, o16, o17, o18), rfl, hF.symm, by rw [ht]; exact hP, hD⟩, hS.F ht⟩) hS.2.2 hdg) ls hl hP hD hok rfl
abbrev wd_X6_endAct (cy : Nat → ClassId) (a_t : Nat) (a_p2 : Nat) (a_p2_acts : Nat) (z_t_wantsPlace : Value) (t_ended : Int32) (t_hour : Int32) (p2_exceptions : Int32) (p2_acts : Nat → Int32) : va_W := [(a_t, .inr (6, [.int t_ended, z_t_wantsPlace, .int t_hour])), (a_p2, .inr (5, [.ref a_p2_acts, .int p2_exceptions])), (a_p2_acts, .inl (cy 1, 10, .inl p2_acts))]
noncomputable def F_X6_endAct_b14 (t_hour : Int32) (p2_exceptions : Int32) (p2_acts : Nat → Int32) : Int32 × Int32 × Int32 × (Nat → Int32) := ((1 : Int32), t_hour, p2_exceptions, p2_acts)
noncomputable def F_X6_endAct_b31 (t_ended : Int32) (p2_exceptions : Int32) (p2_acts : Nat → Int32) : Int32 × Int32 × Int32 × (Nat → Int32) := (t_ended, (-9 : Int32), p2_exceptions, p2_acts)
noncomputable def F_X6_endAct (t_ended : Int32) (t_hour : Int32) (p2_exceptions : Int32) (p2_acts : Nat → Int32) (x1 : Int32) : Int32 × Int32 × Int32 × (Nat → Int32) := (if t_hour = (-9 : Int32) then ((fun (q : (Nat → Int32)) => (F_X6_endAct_b14 t_hour p2_exceptions q)) (F_X5_otherwise p2_acts x1)) else ((fun (q : Int32 × (Nat → Int32)) => (F_X6_endAct_b31 t_ended q.1 q.2)) (F_X5_except p2_exceptions p2_acts t_hour x1)))
def ok_X6_endAct (t_hour : Int32) (p2_acts : Nat → Int32) (x1 : Int32) : Prop := ((t_hour = (-9 : Int32) → (ok_X5_otherwise p2_acts x1)) ∧ (¬ (t_hour = (-9 : Int32)) → (ok_X5_except t_hour)))
set_option maxHeartbeats 4000000 in
set_option maxRecDepth 100000 in
theorem w_X6_endAct {p : Program} {l : Launch} {e : Env} {s : State} {m : MethodId} {args : Array Value} {below : List Frame} {meth : Method} {c : Code} {D : va_G} {cy : Nat → ClassId} {A : Nat → Prop} {QQ : State → Prop} {FV : Int32 × Int32 × Int32 × (Nat → Int32)} (a_t : Nat) (a_p2 : Nat) (a_p2_acts : Nat) (z_t_wantsPlace : Value) (t_ended : Int32) (t_hour : Int32) (p2_exceptions : Int32) (p2_acts : Nat → Int32) (x1 : Int32) (hx : p.tables.exec = Jvm.exec) (hb : c.code = cX6_endAct) (hml : c.maxLocals = 3) (hown : s.vm.findClass RX6 = some m.cls) (hts : ∀ w ∈ Cond.code yX6_endAct cX6_endAct 3 none :: LW, w.before args s = true) (hG : GW D cy s) (hA : ∀ q, s.heap.size ≤ q → A q) (hret : ∀ (o0 : Int32) (o1 : Int32) (o2 : Int32) (o3 : Nat → Int32) (H : Heap) (locs : List Loc) (ls : Array Slot) (pc : Nat), va_P D vwCl (wd_X6_endAct cy a_t a_p2 a_p2_acts z_t_wantsPlace o0 o1 o2 o3) H → va_D A (wd_X6_endAct cy a_t a_p2 a_p2_acts z_t_wantsPlace o0 o1 o2 o3) → va_S A s.heap H locs → FV = (o0, o1, o2, o3) → decode cX6_endAct pc = .ok (.return_, 1) → W p l e (rmk 2 42) s m args below meth c H locs 0 0 QQ (F0 m pc ls [])) (ls : Array Slot) (hl : lv_has ls 3 [(0, .ref a_t), (1, .int x1), (2, .ref a_p2)]) (hP : va_P D vwCl (wd_X6_endAct cy a_t a_p2 a_p2_acts z_t_wantsPlace t_ended t_hour p2_exceptions p2_acts) s.heap) (hD : va_D A (wd_X6_endAct cy a_t a_p2 a_p2_acts z_t_wantsPlace t_ended t_hour p2_exceptions p2_acts)) (hok : (ok_X6_endAct t_hour p2_acts x1)) (hR : FV = (F_X6_endAct t_ended t_hour p2_exceptions p2_acts x1)) : W p l e (rmk 2 42) s m args below meth c s.heap [] 0 0 QQ (F0 m 0 ls []) := by
  have hw : ∀ w ∈ LW, w.before args s = true := fun w h => hts w (List.mem_cons_of_mem _ h)
  have hK := hG.1
  have hS : va_S A s.heap s.heap [] := va_S.rf
  unfold F_X6_endAct at hR
  unfold ok_X6_endAct at hok
  refine lv_aload_n hx hb dX6_endAct_0 rfl (lv_at hl 0 rfl) ?_
  refine g_X6_18 hx hb hw hown hK hP 0 rfl rfl dX6_endAct_1 ?_
  refine lv_bipush (v := -9) hx hb dX6_endAct_4 (by decide) ?_
  refine lv_icmp_ne (tgt := 22) hx hb dX6_endAct_6 (by decide) (fun c_6 => ?_) (fun c_6 => ?_)
  · replace hR := bn hR c_6
    replace hok := hok.2 c_6
    refine lv_aload_n hx hb dX6_endAct_22 rfl (lv_at hl 2 rfl) ?_
    refine lv_aload_n hx hb dX6_endAct_23 rfl (lv_at hl 0 rfl) ?_
    refine g_X6_18 hx hb hw hown hK hP 0 rfl rfl dX6_endAct_24 ?_
    refine lv_iload_n hx hb dX6_endAct_27 rfl (lv_at hl 1 rfl) ?_
    have hok_28 := hok
    refine wkVV (As := [.int t_hour, .int x1]) (rest := []) hx hb hml hown hts hG hP hD hS hA k_X6_52 (c_X5_except (l := l) (D := D) (cy := cy) a_p2 a_p2_acts p2_exceptions p2_acts t_hour x1 s.heap.size hok_28) ⟨Nat.le_of_ble_eq_true rfl, Nat.le_of_ble_eq_true rfl⟩ [1, 2] [0] [0, 1, 2] (N := 3) rfl (by decide +kernel) rfl 1 rfl rfl rfl rfl hl.1 rfl (Nat.le_of_ble_eq_true rfl) ⟨Nat.zero_le _, Nat.zero_le _⟩ dX6_endAct_28 (fun u => (wd_X6_endAct cy a_t a_p2 a_p2_acts z_t_wantsPlace t_ended t_hour u.1 u.2)) (fun _ => rfl) (fun u_28 H locs e_28 hP hD hS => ?_)
    obtain ⟨o28_0, o28_1⟩ := u_28
    replace hP : va_P D vwCl (wd_X6_endAct cy a_t a_p2 a_p2_acts z_t_wantsPlace t_ended t_hour o28_0 o28_1) H := hP
    replace hD : va_D A (wd_X6_endAct cy a_t a_p2 a_p2_acts z_t_wantsPlace t_ended t_hour o28_0 o28_1) := hD
    have hR2 := hRq (fun (q : Int32 × (Nat → Int32)) => (F_X6_endAct_b31 t_ended q.1 q.2)) e_28 hR
    replace hR : FV = (F_X6_endAct_b31 t_ended o28_0 o28_1) := hR2
    unfold F_X6_endAct_b31 at hR
    refine lv_aload_n hx hb dX6_endAct_31 rfl (lv_at hl 0 rfl) ?_
    refine lv_bipush (v := -9) hx hb dX6_endAct_32 (by decide) ?_
    refine p_X6_18 hx hb hw hown hK hP hD hS 0 rfl rfl rfl rfl dX6_endAct_34 (fun H locs hP hD hS => ?_)
    replace hP : va_P D vwCl (wd_X6_endAct cy a_t a_p2 a_p2_acts z_t_wantsPlace t_ended (-9 : Int32) o28_0 o28_1) H := hP
    replace hD : va_D A (wd_X6_endAct cy a_t a_p2 a_p2_acts z_t_wantsPlace t_ended (-9 : Int32) o28_0 o28_1) := hD
    exact hret t_ended (-9 : Int32) o28_0 o28_1 _ _ _ _ hP hD hS hR dX6_endAct_37
  · replace hR := bp hR c_6
    replace hok := hok.1 c_6
    refine lv_aload_n hx hb dX6_endAct_9 rfl (lv_at hl 2 rfl) ?_
    refine lv_iload_n hx hb dX6_endAct_10 rfl (lv_at hl 1 rfl) ?_
    have hok_11 := hok
    refine wkVV (As := [.int x1]) (rest := []) hx hb hml hown hts hG hP hD hS hA k_X6_48 (c_X5_otherwise (l := l) (D := D) (cy := cy) a_p2 a_p2_acts (.int p2_exceptions) p2_acts x1 s.heap.size hok_11) ⟨Nat.le_of_ble_eq_true rfl, Nat.le_of_ble_eq_true rfl⟩ [1, 2] [0] [0, 1, 2] (N := 3) rfl (by decide +kernel) rfl 1 rfl rfl rfl rfl hl.1 rfl (Nat.le_of_ble_eq_true rfl) ⟨Nat.zero_le _, Nat.zero_le _⟩ dX6_endAct_11 (fun u => (wd_X6_endAct cy a_t a_p2 a_p2_acts z_t_wantsPlace t_ended t_hour p2_exceptions u)) (fun _ => rfl) (fun u_11 H locs e_11 hP hD hS => ?_)
    obtain ⟨o11_0, rfl⟩ : ∃ z, z = u_11 := ⟨_, rfl⟩
    replace hP : va_P D vwCl (wd_X6_endAct cy a_t a_p2 a_p2_acts z_t_wantsPlace t_ended t_hour p2_exceptions o11_0) H := hP
    replace hD : va_D A (wd_X6_endAct cy a_t a_p2 a_p2_acts z_t_wantsPlace t_ended t_hour p2_exceptions o11_0) := hD
    have hR2 := hRq (fun (q : (Nat → Int32)) => (F_X6_endAct_b14 t_hour p2_exceptions q)) e_11 hR
    replace hR : FV = (F_X6_endAct_b14 t_hour p2_exceptions o11_0) := hR2
    unfold F_X6_endAct_b14 at hR
    refine lv_aload_n hx hb dX6_endAct_14 rfl (lv_at hl 0 rfl) ?_
    refine lv_iconst (v := 1) hx hb dX6_endAct_15 (by decide) ?_
    refine p_X6_9 hx hb hw hown hK hP hD hS 0 rfl rfl rfl rfl dX6_endAct_16 (fun H locs hP hD hS => ?_)
    replace hP : va_P D vwCl (wd_X6_endAct cy a_t a_p2 a_p2_acts z_t_wantsPlace (1 : Int32) t_hour p2_exceptions o11_0) H := hP
    replace hD : va_D A (wd_X6_endAct cy a_t a_p2 a_p2_acts z_t_wantsPlace (1 : Int32) t_hour p2_exceptions o11_0) := hD
    refine lv_goto (tgt := 37) hx hb dX6_endAct_19 (by decide) ?_
    exact hret (1 : Int32) t_hour p2_exceptions o11_0 _ _ _ _ hP hD hS hR dX6_endAct_37
set_option maxHeartbeats 1000000 in
set_option maxRecDepth 100000 in
theorem c_X6_endAct {l : Launch} {D : va_G} {cy : Nat → ClassId} (a_t : Nat) (a_p2 : Nat) (a_p2_acts : Nat) (z_t_wantsPlace : Value) (t_ended : Int32) (t_hour : Int32) (p2_exceptions : Int32) (p2_acts : Nat → Int32) (x1 : Int32) (sz : Nat) (hok : (ok_X6_endAct t_hour p2_acts x1)) : WrV (S := Int32 × Int32 × Int32 × (Nat → Int32)) l yX6_endAct cX6_endAct 3 none 2 42 D cy [.ref a_t, .int x1, .ref a_p2] (wd_X6_endAct cy a_t a_p2 a_p2_acts z_t_wantsPlace t_ended t_hour p2_exceptions p2_acts) (fun u => (wd_X6_endAct cy a_t a_p2 a_p2_acts z_t_wantsPlace u.1 u.2.1 u.2.2.1 u.2.2.2)) (F_X6_endAct t_ended t_hour p2_exceptions p2_acts x1) sz := by
  refine Met.ofW (cc := cX6_endAct) (maxL := 3) (ret := none) (by decide) rfl ?_
  intro p e s m args below meth c s₁ B hml hv
  obtain ⟨rfl, hsz, hP, hG, hD0⟩ := hv
  subst hsz
  have hD := hD0.self (sz := s.heap.size)
  have hr := B.returns
  have hlocks := B.notSynchronized
  have hl := lv_entry ([.ref a_t, .int x1, .ref a_p2]) (n := 3) (Nat.le_of_ble_eq_true rfl)
  rw [lg_entry_eq]
  generalize (lg_sl ([.ref a_t, .int x1, .ref a_p2]) ++ List.replicate (3 - (lg_sl ([.ref a_t, .int x1, .ref a_p2])).length) Slot.unset).toArray = ls at hl ⊢
  exact w_X6_endAct a_t a_p2 a_p2_acts z_t_wantsPlace t_ended t_hour p2_exceptions p2_acts x1 B.exec B.bytes hml (findClass_of_methodNamed B.named) (atoms_spec (ws := Cond.code yX6_endAct cX6_endAct 3 none :: LW) B.pre) hG (fun q h => Or.inr h) (fun o0 o1 o2 o3 H locs ls pc hP hD hS hF hdg => W.vret B.exec B.bytes hr (fun t ht hW => ⟨⟨(o0, o1, o2, o3), rfl, hF.symm, by rw [ht]; exact hP, hD⟩, hS.F ht⟩) hS.2.2 hdg) ls hl hP hD hok rfl
abbrev wd_X6_takesPlace (cy : Nat → ClassId) (a_t : Nat) (a_p2 : Nat) (a_p2_acts : Nat) (t_ended : Int32) (t_wantsPlace : Int32) (t_hour : Int32) (p2_exceptions : Int32) (p2_acts : Nat → Int32) : va_W := [(a_t, .inr (6, [.int t_ended, .int t_wantsPlace, .int t_hour])), (a_p2, .inr (5, [.ref a_p2_acts, .int p2_exceptions])), (a_p2_acts, .inl (cy 1, 10, .inl p2_acts))]
noncomputable def F_X6_takesPlace_b22 (t_ended : Int32) (t_wantsPlace : Int32) (t_hour : Int32) (p2_exceptions : Int32) (p2_acts : Nat → Int32) : Int32 × Int32 × Int32 × Int32 × Int32 × (Nat → Int32) := ((1 : Int32), t_ended, t_wantsPlace, t_hour, p2_exceptions, p2_acts)
noncomputable def F_X6_takesPlace (t_ended : Int32) (t_wantsPlace : Int32) (t_hour : Int32) (p2_exceptions : Int32) (p2_acts : Nat → Int32) (x1 : Int32) : Int32 × Int32 × Int32 × Int32 × Int32 × (Nat → Int32) := (if x1 < (0 : Int32) then ((0 : Int32), t_ended, t_wantsPlace, t_hour, p2_exceptions, p2_acts) else (if x1 < (4 : Int32) then ((fun (q : Int32 × Int32 × Int32 × (Nat → Int32)) => (F_X6_takesPlace_b22 q.1 (0 : Int32) q.2.1 q.2.2.1 q.2.2.2)) (F_X6_endAct t_ended t_hour p2_exceptions p2_acts x1)) else ((0 : Int32), t_ended, t_wantsPlace, t_hour, p2_exceptions, p2_acts)))
def ok_X6_takesPlace (t_hour : Int32) (p2_acts : Nat → Int32) (x1 : Int32) : Prop := (¬ (x1 < (0 : Int32)) → (x1 < (4 : Int32) → (ok_X6_endAct t_hour p2_acts x1)))
set_option maxHeartbeats 4000000 in
set_option maxRecDepth 100000 in
theorem w_X6_takesPlace {p : Program} {l : Launch} {e : Env} {s : State} {m : MethodId} {args : Array Value} {below : List Frame} {meth : Method} {c : Code} {D : va_G} {cy : Nat → ClassId} {A : Nat → Prop} {QQ : State → Prop} {FV : Int32 × Int32 × Int32 × Int32 × Int32 × (Nat → Int32)} (a_t : Nat) (a_p2 : Nat) (a_p2_acts : Nat) (t_ended : Int32) (t_wantsPlace : Int32) (t_hour : Int32) (p2_exceptions : Int32) (p2_acts : Nat → Int32) (x1 : Int32) (hx : p.tables.exec = Jvm.exec) (hb : c.code = cX6_takesPlace) (hml : c.maxLocals = 3) (hown : s.vm.findClass RX6 = some m.cls) (hts : ∀ w ∈ Cond.code yX6_takesPlace cX6_takesPlace 3 (some .boolean) :: LW, w.before args s = true) (hG : GW D cy s) (hA : ∀ q, s.heap.size ≤ q → A q) (hret : ∀ (r : Int32) (o0 : Int32) (o1 : Int32) (o2 : Int32) (o3 : Int32) (o4 : Nat → Int32) (H : Heap) (locs : List Loc) (ls : Array Slot) (pc : Nat), va_P D vwCl (wd_X6_takesPlace cy a_t a_p2 a_p2_acts o0 o1 o2 o3 o4) H → va_D A (wd_X6_takesPlace cy a_t a_p2 a_p2_acts o0 o1 o2 o3 o4) → va_S A s.heap H locs → FV = (r, o0, o1, o2, o3, o4) → narrow .boolean (.int r) = .int r → decode cX6_takesPlace pc = .ok (.ireturn, 1) → W p l e (rmk 3 64) s m args below meth c H locs 0 0 QQ (F0 m pc ls [.int r])) (ls : Array Slot) (hl : lv_has ls 3 [(0, .ref a_t), (1, .int x1), (2, .ref a_p2)]) (hP : va_P D vwCl (wd_X6_takesPlace cy a_t a_p2 a_p2_acts t_ended t_wantsPlace t_hour p2_exceptions p2_acts) s.heap) (hD : va_D A (wd_X6_takesPlace cy a_t a_p2 a_p2_acts t_ended t_wantsPlace t_hour p2_exceptions p2_acts)) (hok : (ok_X6_takesPlace t_hour p2_acts x1)) (hR : FV = (F_X6_takesPlace t_ended t_wantsPlace t_hour p2_exceptions p2_acts x1)) : W p l e (rmk 3 64) s m args below meth c s.heap [] 0 0 QQ (F0 m 0 ls []) := by
  have hw : ∀ w ∈ LW, w.before args s = true := fun w h => hts w (List.mem_cons_of_mem _ h)
  have hK := hG.1
  have hS : va_S A s.heap s.heap [] := va_S.rf
  unfold F_X6_takesPlace at hR
  unfold ok_X6_takesPlace at hok
  refine lv_iload_n hx hb dX6_takesPlace_0 rfl (lv_at hl 1 rfl) ?_
  refine lv_if_lt (tgt := 9) hx hb dX6_takesPlace_1 (by decide) (fun c_1 => ?_) (fun c_1 => ?_)
  · replace hR := bp hR c_1
    refine lv_iconst (v := 0) hx hb dX6_takesPlace_9 (by decide) ?_
    exact hret (0 : Int32) t_ended t_wantsPlace t_hour p2_exceptions p2_acts _ _ _ _ hP hD hS hR rfl dX6_takesPlace_10
  · replace hR := bn hR c_1
    replace hok := hok c_1
    refine lv_iload_n hx hb dX6_takesPlace_4 rfl (lv_at hl 1 rfl) ?_
    refine lv_iconst (v := 4) hx hb dX6_takesPlace_5 (by decide) ?_
    refine lv_icmp_lt (tgt := 11) hx hb dX6_takesPlace_6 (by decide) (fun c_6 => ?_) (fun c_6 => ?_)
    · replace hR := bp hR c_6
      replace hok := hok c_6
      refine lv_aload_n hx hb dX6_takesPlace_11 rfl (lv_at hl 0 rfl) ?_
      refine lv_iconst (v := 0) hx hb dX6_takesPlace_12 (by decide) ?_
      refine p_X6_15 hx hb hw hown hK hP hD hS 0 rfl rfl rfl rfl dX6_takesPlace_13 (fun H locs hP hD hS => ?_)
      replace hP : va_P D vwCl (wd_X6_takesPlace cy a_t a_p2 a_p2_acts t_ended (0 : Int32) t_hour p2_exceptions p2_acts) H := hP
      replace hD : va_D A (wd_X6_takesPlace cy a_t a_p2 a_p2_acts t_ended (0 : Int32) t_hour p2_exceptions p2_acts) := hD
      refine lv_aload_n hx hb dX6_takesPlace_16 rfl (lv_at hl 0 rfl) ?_
      refine lv_iload_n hx hb dX6_takesPlace_17 rfl (lv_at hl 1 rfl) ?_
      refine lv_aload_n hx hb dX6_takesPlace_18 rfl (lv_at hl 2 rfl) ?_
      have hok_19 := hok
      refine wkVV (As := [.int x1, .ref a_p2]) (rest := []) hx hb hml hown hts hG hP hD hS hA k_X6_34 (c_X6_endAct (l := l) (D := D) (cy := cy) a_t a_p2 a_p2_acts (.int (0 : Int32)) t_ended t_hour p2_exceptions p2_acts x1 H.size hok_19) ⟨Nat.le_of_ble_eq_true rfl, Nat.le_of_ble_eq_true rfl⟩ [0, 1, 2] [] [0, 1, 2] (N := 3) rfl (by decide +kernel) rfl 0 rfl rfl rfl rfl hl.1 rfl (Nat.le_of_ble_eq_true rfl) ⟨Nat.zero_le _, Nat.zero_le _⟩ dX6_takesPlace_19 (fun u => (wd_X6_takesPlace cy a_t a_p2 a_p2_acts u.1 (0 : Int32) u.2.1 u.2.2.1 u.2.2.2)) (fun _ => rfl) (fun u_19 H locs e_19 hP hD hS => ?_)
      obtain ⟨o19_0, o19_1, o19_2, o19_3⟩ := u_19
      replace hP : va_P D vwCl (wd_X6_takesPlace cy a_t a_p2 a_p2_acts o19_0 (0 : Int32) o19_1 o19_2 o19_3) H := hP
      replace hD : va_D A (wd_X6_takesPlace cy a_t a_p2 a_p2_acts o19_0 (0 : Int32) o19_1 o19_2 o19_3) := hD
      have hR2 := hRq (fun (q : Int32 × Int32 × Int32 × (Nat → Int32)) => (F_X6_takesPlace_b22 q.1 (0 : Int32) q.2.1 q.2.2.1 q.2.2.2)) e_19 hR
      replace hR : FV = (F_X6_takesPlace_b22 o19_0 (0 : Int32) o19_1 o19_2 o19_3) := hR2
      unfold F_X6_takesPlace_b22 at hR
      refine lv_iconst (v := 1) hx hb dX6_takesPlace_22 (by decide) ?_
      exact hret (1 : Int32) o19_0 (0 : Int32) o19_1 o19_2 o19_3 _ _ _ _ hP hD hS hR rfl dX6_takesPlace_23
    · replace hR := bn hR c_6
      refine lv_iconst (v := 0) hx hb dX6_takesPlace_9 (by decide) ?_
      exact hret (0 : Int32) t_ended t_wantsPlace t_hour p2_exceptions p2_acts _ _ _ _ hP hD hS hR rfl dX6_takesPlace_10
set_option maxHeartbeats 1000000 in
set_option maxRecDepth 100000 in
theorem c_X6_takesPlace {l : Launch} {D : va_G} {cy : Nat → ClassId} (a_t : Nat) (a_p2 : Nat) (a_p2_acts : Nat) (t_ended : Int32) (t_wantsPlace : Int32) (t_hour : Int32) (p2_exceptions : Int32) (p2_acts : Nat → Int32) (x1 : Int32) (sz : Nat) (hok : (ok_X6_takesPlace t_hour p2_acts x1)) : WrI (S := Int32 × Int32 × Int32 × Int32 × (Nat → Int32)) l yX6_takesPlace cX6_takesPlace 3 (some .boolean) 3 64 D cy [.ref a_t, .int x1, .ref a_p2] (wd_X6_takesPlace cy a_t a_p2 a_p2_acts t_ended t_wantsPlace t_hour p2_exceptions p2_acts) (fun u => (wd_X6_takesPlace cy a_t a_p2 a_p2_acts u.1 u.2.1 u.2.2.1 u.2.2.2.1 u.2.2.2.2)) (F_X6_takesPlace t_ended t_wantsPlace t_hour p2_exceptions p2_acts x1) sz := by
  refine Met.ofW (cc := cX6_takesPlace) (maxL := 3) (ret := (some .boolean)) (by decide) rfl ?_
  intro p e s m args below meth c s₁ B hml hv
  obtain ⟨rfl, hsz, hP, hG, hD0⟩ := hv
  subst hsz
  have hD := hD0.self (sz := s.heap.size)
  have hr := B.returns
  have hlocks := B.notSynchronized
  have hl := lv_entry ([.ref a_t, .int x1, .ref a_p2]) (n := 3) (Nat.le_of_ble_eq_true rfl)
  rw [lg_entry_eq]
  generalize (lg_sl ([.ref a_t, .int x1, .ref a_p2]) ++ List.replicate (3 - (lg_sl ([.ref a_t, .int x1, .ref a_p2])).length) Slot.unset).toArray = ls at hl ⊢
  exact w_X6_takesPlace a_t a_p2 a_p2_acts t_ended t_wantsPlace t_hour p2_exceptions p2_acts x1 B.exec B.bytes hml (findClass_of_methodNamed B.named) (atoms_spec (ws := Cond.code yX6_takesPlace cX6_takesPlace 3 (some .boolean) :: LW) B.pre) hG (fun q h => Or.inr h) (fun r o0 o1 o2 o3 o4 H locs ls pc hP hD hS hF hn hdg => W.zret (v := r) B.exec B.bytes hr hn (fun t ht hW => ⟨⟨r, (o0, o1, o2, o3, o4), rfl, hF.symm, by rw [ht]; exact hP, hD⟩, hS.F ht⟩) hS.2.2 hdg) ls hl hP hD hok rfl
abbrev wd_X6_takesHour (cy : Nat → ClassId) (a_t : Nat) (a_p2 : Nat) (a_p2_acts : Nat) (z_t_ended : Value) (z_t_wantsPlace : Value) (z_p2_exceptions : Value) (t_hour : Int32) (p2_acts : Nat → Int32) : va_W := [(a_t, .inr (6, [z_t_ended, z_t_wantsPlace, .int t_hour])), (a_p2, .inr (5, [.ref a_p2_acts, z_p2_exceptions])), (a_p2_acts, .inl (cy 1, 10, .inl p2_acts))]
noncomputable def F_X6_takesHour (t_hour : Int32) (p2_acts : Nat → Int32) (x1 : Int32) : Int32 × Int32 := (if t_hour = (-9 : Int32) then (if (F_X11_isHour x1) = (0 : Int32) then ((0 : Int32), t_hour) else (if (F_X5_isTold p2_acts x1) = (0 : Int32) then ((1 : Int32), x1) else ((0 : Int32), t_hour))) else ((0 : Int32), t_hour))
def ok_X6_takesHour (t_hour : Int32) (x1 : Int32) : Prop := (t_hour = (-9 : Int32) → (¬ ((F_X11_isHour x1) = (0 : Int32)) → ((ok_X5_isTold x1))))
set_option maxHeartbeats 4000000 in
set_option maxRecDepth 100000 in
theorem w_X6_takesHour {p : Program} {l : Launch} {e : Env} {s : State} {m : MethodId} {args : Array Value} {below : List Frame} {meth : Method} {c : Code} {D : va_G} {cy : Nat → ClassId} {A : Nat → Prop} {QQ : State → Prop} {FV : Int32 × Int32} (a_t : Nat) (a_p2 : Nat) (a_p2_acts : Nat) (z_t_ended : Value) (z_t_wantsPlace : Value) (z_p2_exceptions : Value) (t_hour : Int32) (p2_acts : Nat → Int32) (x1 : Int32) (hx : p.tables.exec = Jvm.exec) (hb : c.code = cX6_takesHour) (hml : c.maxLocals = 3) (hown : s.vm.findClass RX6 = some m.cls) (hts : ∀ w ∈ Cond.code yX6_takesHour cX6_takesHour 3 (some .boolean) :: LW, w.before args s = true) (hG : GW D cy s) (hA : ∀ q, s.heap.size ≤ q → A q) (hret : ∀ (r : Int32) (o0 : Int32) (H : Heap) (locs : List Loc) (ls : Array Slot) (pc : Nat), va_P D vwCl (wd_X6_takesHour cy a_t a_p2 a_p2_acts z_t_ended z_t_wantsPlace z_p2_exceptions o0 p2_acts) H → va_D A (wd_X6_takesHour cy a_t a_p2 a_p2_acts z_t_ended z_t_wantsPlace z_p2_exceptions o0 p2_acts) → va_S A s.heap H locs → FV = (r, o0) → narrow .boolean (.int r) = .int r → decode cX6_takesHour pc = .ok (.ireturn, 1) → W p l e (rmk 2 41) s m args below meth c H locs 0 0 QQ (F0 m pc ls [.int r])) (ls : Array Slot) (hl : lv_has ls 3 [(0, .ref a_t), (1, .int x1), (2, .ref a_p2)]) (hP : va_P D vwCl (wd_X6_takesHour cy a_t a_p2 a_p2_acts z_t_ended z_t_wantsPlace z_p2_exceptions t_hour p2_acts) s.heap) (hD : va_D A (wd_X6_takesHour cy a_t a_p2 a_p2_acts z_t_ended z_t_wantsPlace z_p2_exceptions t_hour p2_acts)) (hok : (ok_X6_takesHour t_hour x1)) (hR : FV = (F_X6_takesHour t_hour p2_acts x1)) : W p l e (rmk 2 41) s m args below meth c s.heap [] 0 0 QQ (F0 m 0 ls []) := by
  have hw : ∀ w ∈ LW, w.before args s = true := fun w h => hts w (List.mem_cons_of_mem _ h)
  have hK := hG.1
  have hS : va_S A s.heap s.heap [] := va_S.rf
  unfold F_X6_takesHour at hR
  unfold ok_X6_takesHour at hok
  refine lv_aload_n hx hb dX6_takesHour_0 rfl (lv_at hl 0 rfl) ?_
  refine g_X6_18 hx hb hw hown hK hP 0 rfl rfl dX6_takesHour_1 ?_
  refine lv_bipush (v := -9) hx hb dX6_takesHour_4 (by decide) ?_
  refine lv_icmp_ne (tgt := 24) hx hb dX6_takesHour_6 (by decide) (fun c_6 => ?_) (fun c_6 => ?_)
  · replace hR := bn hR c_6
    refine lv_iconst (v := 0) hx hb dX6_takesHour_24 (by decide) ?_
    exact hret (0 : Int32) t_hour _ _ _ _ hP hD hS hR rfl dX6_takesHour_25
  · replace hR := bp hR c_6
    replace hok := hok c_6
    refine lv_iload_n hx hb dX6_takesHour_9 rfl (lv_at hl 1 rfl) ?_
    refine rdIN (As := [.int x1]) (rest := []) hx hb hml hown hts hG hP k_X6_41 (c_X11_isHour (l := l) (D := D) (cy := cy) x1) ⟨Nat.le_of_ble_eq_true rfl, Nat.le_of_ble_eq_true rfl⟩ [] rfl rfl hl.1 rfl (Nat.le_of_ble_eq_true rfl) ⟨Nat.zero_le _, Nat.zero_le _⟩ dX6_takesHour_10 ?_
    refine lv_if_eq (tgt := 24) hx hb dX6_takesHour_13 (by decide) (fun c_13 => ?_) (fun c_13 => ?_)
    · replace hR := bp hR c_13
      refine lv_iconst (v := 0) hx hb dX6_takesHour_24 (by decide) ?_
      exact hret (0 : Int32) t_hour _ _ _ _ hP hD hS hR rfl dX6_takesHour_25
    · replace hR := bn hR c_13
      replace hok := hok c_13
      refine lv_aload_n hx hb dX6_takesHour_16 rfl (lv_at hl 2 rfl) ?_
      refine lv_iload_n hx hb dX6_takesHour_17 rfl (lv_at hl 1 rfl) ?_
      have h_18_0 := hok
      refine rdIV (As := [.int x1]) (rest := []) hx hb hml hown hts hG hP k_X6_45 (c_X5_isTold (l := l) (D := D) (cy := cy) a_p2 a_p2_acts z_p2_exceptions p2_acts x1 h_18_0) ⟨Nat.le_of_ble_eq_true rfl, Nat.le_of_ble_eq_true rfl⟩ [1, 2] rfl 1 rfl rfl rfl rfl hl.1 rfl (Nat.le_of_ble_eq_true rfl) ⟨Nat.zero_le _, Nat.zero_le _⟩ dX6_takesHour_18 ?_
      refine lv_if_eq (tgt := 26) hx hb dX6_takesHour_21 (by decide) (fun c_21 => ?_) (fun c_21 => ?_)
      · replace hR := bp hR c_21
        refine lv_aload_n hx hb dX6_takesHour_26 rfl (lv_at hl 0 rfl) ?_
        refine lv_iload_n hx hb dX6_takesHour_27 rfl (lv_at hl 1 rfl) ?_
        refine p_X6_18 hx hb hw hown hK hP hD hS 0 rfl rfl rfl rfl dX6_takesHour_28 (fun H locs hP hD hS => ?_)
        replace hP : va_P D vwCl (wd_X6_takesHour cy a_t a_p2 a_p2_acts z_t_ended z_t_wantsPlace z_p2_exceptions x1 p2_acts) H := hP
        replace hD : va_D A (wd_X6_takesHour cy a_t a_p2 a_p2_acts z_t_ended z_t_wantsPlace z_p2_exceptions x1 p2_acts) := hD
        refine lv_iconst (v := 1) hx hb dX6_takesHour_31 (by decide) ?_
        exact hret (1 : Int32) x1 _ _ _ _ hP hD hS hR rfl dX6_takesHour_32
      · replace hR := bn hR c_21
        refine lv_iconst (v := 0) hx hb dX6_takesHour_24 (by decide) ?_
        exact hret (0 : Int32) t_hour _ _ _ _ hP hD hS hR rfl dX6_takesHour_25
set_option maxHeartbeats 1000000 in
set_option maxRecDepth 100000 in
theorem c_X6_takesHour {l : Launch} {D : va_G} {cy : Nat → ClassId} (a_t : Nat) (a_p2 : Nat) (a_p2_acts : Nat) (z_t_ended : Value) (z_t_wantsPlace : Value) (z_p2_exceptions : Value) (t_hour : Int32) (p2_acts : Nat → Int32) (x1 : Int32) (sz : Nat) (hok : (ok_X6_takesHour t_hour x1)) : WrI (S := Int32) l yX6_takesHour cX6_takesHour 3 (some .boolean) 2 41 D cy [.ref a_t, .int x1, .ref a_p2] (wd_X6_takesHour cy a_t a_p2 a_p2_acts z_t_ended z_t_wantsPlace z_p2_exceptions t_hour p2_acts) (fun u => (wd_X6_takesHour cy a_t a_p2 a_p2_acts z_t_ended z_t_wantsPlace z_p2_exceptions u p2_acts)) (F_X6_takesHour t_hour p2_acts x1) sz := by
  refine Met.ofW (cc := cX6_takesHour) (maxL := 3) (ret := (some .boolean)) (by decide) rfl ?_
  intro p e s m args below meth c s₁ B hml hv
  obtain ⟨rfl, hsz, hP, hG, hD0⟩ := hv
  subst hsz
  have hD := hD0.self (sz := s.heap.size)
  have hr := B.returns
  have hlocks := B.notSynchronized
  have hl := lv_entry ([.ref a_t, .int x1, .ref a_p2]) (n := 3) (Nat.le_of_ble_eq_true rfl)
  rw [lg_entry_eq]
  generalize (lg_sl ([.ref a_t, .int x1, .ref a_p2]) ++ List.replicate (3 - (lg_sl ([.ref a_t, .int x1, .ref a_p2])).length) Slot.unset).toArray = ls at hl ⊢
  exact w_X6_takesHour a_t a_p2 a_p2_acts z_t_ended z_t_wantsPlace z_p2_exceptions t_hour p2_acts x1 B.exec B.bytes hml (findClass_of_methodNamed B.named) (atoms_spec (ws := Cond.code yX6_takesHour cX6_takesHour 3 (some .boolean) :: LW) B.pre) hG (fun q h => Or.inr h) (fun r o0 H locs ls pc hP hD hS hF hn hdg => W.zret (v := r) B.exec B.bytes hr hn (fun t ht hW => ⟨⟨r, o0, rfl, hF.symm, by rw [ht]; exact hP, hD⟩, hS.F ht⟩) hS.2.2 hdg) ls hl hP hD hok rfl
abbrev wd_X6_takes (cy : Nat → ClassId) (a_t : Nat) (a_p2 : Nat) (a_p2_acts : Nat) (t_ended : Int32) (t_wantsPlace : Int32) (t_hour : Int32) (p2_exceptions : Int32) (p2_acts : Nat → Int32) : va_W := [(a_t, .inr (6, [.int t_ended, .int t_wantsPlace, .int t_hour])), (a_p2, .inr (5, [.ref a_p2_acts, .int p2_exceptions])), (a_p2_acts, .inl (cy 1, 10, .inl p2_acts))]
noncomputable def F_X6_takes_b73 (t_ended : Int32) (t_wantsPlace : Int32) (t_hour : Int32) (p2_exceptions : Int32) (p2_acts : Nat → Int32) : Int32 × Int32 × Int32 × Int32 × Int32 × (Nat → Int32) := ((1 : Int32), t_ended, t_wantsPlace, t_hour, p2_exceptions, p2_acts)
noncomputable def F_X6_takes_b81 (t_ended : Int32) (t_wantsPlace : Int32) (t_hour : Int32) (p2_exceptions : Int32) (p2_acts : Nat → Int32) : Int32 × Int32 × Int32 × Int32 × Int32 × (Nat → Int32) := ((1 : Int32), t_ended, t_wantsPlace, t_hour, p2_exceptions, p2_acts)
noncomputable def F_X6_takes_b92 (t_ended : Int32) (t_wantsPlace : Int32) (t_hour : Int32) (p2_exceptions : Int32) (p2_acts : Nat → Int32) (s0 : Int32) : Int32 × Int32 × Int32 × Int32 × Int32 × (Nat → Int32) := (s0, t_ended, t_wantsPlace, t_hour, p2_exceptions, p2_acts)
def ok_X6_takes_b92 (s0 : Int32) : Prop := (isB s0)
noncomputable def F_X6_takes_b25 (t_ended : Int32) (t_wantsPlace : Int32) (t_hour : Int32) (p2_exceptions : Int32) (p2_acts : Nat → Int32) (s0 : Int32) : Int32 × Int32 × Int32 × Int32 × Int32 × (Nat → Int32) := (s0, t_ended, t_wantsPlace, t_hour, p2_exceptions, p2_acts)
def ok_X6_takes_b25 (s0 : Int32) : Prop := (isB s0)
noncomputable def F_X6_takes (t_ended : Int32) (t_wantsPlace : Int32) (t_hour : Int32) (p2_exceptions : Int32) (p2_acts : Nat → Int32) (x1 : Int32) : Int32 × Int32 × Int32 × Int32 × Int32 × (Nat → Int32) := (if t_ended = (0 : Int32) then (if t_wantsPlace = (0 : Int32) then (if x1 = (72 : Int32) then ((fun (q : Int32 × Int32 × Int32 × (Nat → Int32)) => (F_X6_takes_b73 q.1 t_wantsPlace q.2.1 q.2.2.1 q.2.2.2)) (F_X6_endAct t_ended t_hour p2_exceptions p2_acts (4 : Int32))) else (if x1 = (78 : Int32) then ((fun (q : Int32 × Int32 × Int32 × (Nat → Int32)) => (F_X6_takes_b81 q.1 t_wantsPlace q.2.1 q.2.2.1 q.2.2.2)) (F_X6_endAct t_ended t_hour p2_exceptions p2_acts (5 : Int32))) else (if x1 = (80 : Int32) then ((1 : Int32), t_ended, (1 : Int32), t_hour, p2_exceptions, p2_acts) else ((fun (q : Int32 × Int32) => (F_X6_takes_b92 t_ended t_wantsPlace q.2 p2_exceptions p2_acts q.1)) (F_X6_takesHour t_hour p2_acts (x1 - (48 : Int32))))))) else ((fun (q : Int32 × Int32 × Int32 × Int32 × Int32 × (Nat → Int32)) => (F_X6_takes_b25 q.2.1 q.2.2.1 q.2.2.2.1 q.2.2.2.2.1 q.2.2.2.2.2 q.1)) (F_X6_takesPlace t_ended t_wantsPlace t_hour p2_exceptions p2_acts (x1 - (48 : Int32))))) else ((0 : Int32), t_ended, t_wantsPlace, t_hour, p2_exceptions, p2_acts))
def ok_X6_takes (t_ended : Int32) (t_wantsPlace : Int32) (t_hour : Int32) (p2_exceptions : Int32) (p2_acts : Nat → Int32) (x1 : Int32) : Prop := (t_ended = (0 : Int32) → ((t_wantsPlace = (0 : Int32) → ((x1 = (72 : Int32) → (ok_X6_endAct t_hour p2_acts (4 : Int32))) ∧ (¬ (x1 = (72 : Int32)) → ((x1 = (78 : Int32) → (ok_X6_endAct t_hour p2_acts (5 : Int32))) ∧ (¬ (x1 = (78 : Int32)) → (¬ (x1 = (80 : Int32)) → (ok_X6_takesHour t_hour (x1 - (48 : Int32))) ∧ ((fun (q : Int32 × Int32) => (ok_X6_takes_b92 q.1)) (F_X6_takesHour t_hour p2_acts (x1 - (48 : Int32)))))))))) ∧ (¬ (t_wantsPlace = (0 : Int32)) → (ok_X6_takesPlace t_hour p2_acts (x1 - (48 : Int32))) ∧ ((fun (q : Int32 × Int32 × Int32 × Int32 × Int32 × (Nat → Int32)) => (ok_X6_takes_b25 q.1)) (F_X6_takesPlace t_ended t_wantsPlace t_hour p2_exceptions p2_acts (x1 - (48 : Int32)))))))
set_option maxHeartbeats 4000000 in
set_option maxRecDepth 100000 in
theorem w_X6_takes {p : Program} {l : Launch} {e : Env} {s : State} {m : MethodId} {args : Array Value} {below : List Frame} {meth : Method} {c : Code} {D : va_G} {cy : Nat → ClassId} {A : Nat → Prop} {QQ : State → Prop} {FV : Int32 × Int32 × Int32 × Int32 × Int32 × (Nat → Int32)} (a_t : Nat) (a_p2 : Nat) (a_p2_acts : Nat) (t_ended : Int32) (t_wantsPlace : Int32) (t_hour : Int32) (p2_exceptions : Int32) (p2_acts : Nat → Int32) (x1 : Int32) (hx : p.tables.exec = Jvm.exec) (hb : c.code = cX6_takes) (hml : c.maxLocals = 3) (hown : s.vm.findClass RX6 = some m.cls) (hts : ∀ w ∈ Cond.code yX6_takes cX6_takes 3 (some .boolean) :: LW, w.before args s = true) (hG : GW D cy s) (hA : ∀ q, s.heap.size ≤ q → A q) (hret : ∀ (r : Int32) (o0 : Int32) (o1 : Int32) (o2 : Int32) (o3 : Int32) (o4 : Nat → Int32) (H : Heap) (locs : List Loc) (ls : Array Slot) (pc : Nat), va_P D vwCl (wd_X6_takes cy a_t a_p2 a_p2_acts o0 o1 o2 o3 o4) H → va_D A (wd_X6_takes cy a_t a_p2 a_p2_acts o0 o1 o2 o3 o4) → va_S A s.heap H locs → FV = (r, o0, o1, o2, o3, o4) → narrow .boolean (.int r) = .int r → decode cX6_takes pc = .ok (.ireturn, 1) → W p l e (rmk 4 86) s m args below meth c H locs 0 0 QQ (F0 m pc ls [.int r])) (ls : Array Slot) (hl : lv_has ls 3 [(0, .ref a_t), (1, .int x1), (2, .ref a_p2)]) (hP : va_P D vwCl (wd_X6_takes cy a_t a_p2 a_p2_acts t_ended t_wantsPlace t_hour p2_exceptions p2_acts) s.heap) (hD : va_D A (wd_X6_takes cy a_t a_p2 a_p2_acts t_ended t_wantsPlace t_hour p2_exceptions p2_acts)) (hok : (ok_X6_takes t_ended t_wantsPlace t_hour p2_exceptions p2_acts x1)) (hR : FV = (F_X6_takes t_ended t_wantsPlace t_hour p2_exceptions p2_acts x1)) : W p l e (rmk 4 86) s m args below meth c s.heap [] 0 0 QQ (F0 m 0 ls []) := by
  have hw : ∀ w ∈ LW, w.before args s = true := fun w h => hts w (List.mem_cons_of_mem _ h)
  have hK := hG.1
  have hS : va_S A s.heap s.heap [] := va_S.rf
  unfold F_X6_takes at hR
  unfold ok_X6_takes at hok
  refine lv_aload_n hx hb dX6_takes_0 rfl (lv_at hl 0 rfl) ?_
  refine g_X6_9 hx hb hw hown hK hP 0 rfl rfl dX6_takes_1 ?_
  refine lv_if_eq (tgt := 9) hx hb dX6_takes_4 (by decide) (fun c_4 => ?_) (fun c_4 => ?_)
  · replace hR := bp hR c_4
    replace hok := hok c_4
    refine lv_aload_n hx hb dX6_takes_9 rfl (lv_at hl 0 rfl) ?_
    refine g_X6_15 hx hb hw hown hK hP 0 rfl rfl dX6_takes_10 ?_
    refine lv_if_eq (tgt := 26) hx hb dX6_takes_13 (by decide) (fun c_13 => ?_) (fun c_13 => ?_)
    · replace hR := bp hR c_13
      replace hok := hok.1 c_13
      refine lv_iload_n hx hb dX6_takes_26 rfl (lv_at hl 1 rfl) ?_
      by_cases n_27_72 : x1 = (72 : Int32)
      · replace hR := bp hR n_27_72
        replace hok := hok.1 n_27_72
        refine lv_lookup (off := 40) (tgt := 67) hx hb dX6_takes_27 (by decide) (by rw [n_27_72]; decide) (by decide) ?_
        refine lv_aload_n hx hb dX6_takes_67 rfl (lv_at hl 0 rfl) ?_
        refine lv_iconst (v := 4) hx hb dX6_takes_68 (by decide) ?_
        refine lv_aload_n hx hb dX6_takes_69 rfl (lv_at hl 2 rfl) ?_
        have hok_70 := hok
        refine wkVV (As := [.int (4 : Int32), .ref a_p2]) (rest := []) hx hb hml hown hts hG hP hD hS hA k_X6_34 (c_X6_endAct (l := l) (D := D) (cy := cy) a_t a_p2 a_p2_acts (.int t_wantsPlace) t_ended t_hour p2_exceptions p2_acts (4 : Int32) s.heap.size hok_70) ⟨Nat.le_of_ble_eq_true rfl, Nat.le_of_ble_eq_true rfl⟩ [0, 1, 2] [] [0, 1, 2] (N := 3) rfl (by decide +kernel) rfl 0 rfl rfl rfl rfl hl.1 rfl (Nat.le_of_ble_eq_true rfl) ⟨Nat.zero_le _, Nat.zero_le _⟩ dX6_takes_70 (fun u => (wd_X6_takes cy a_t a_p2 a_p2_acts u.1 t_wantsPlace u.2.1 u.2.2.1 u.2.2.2)) (fun _ => rfl) (fun u_70 H locs e_70 hP hD hS => ?_)
        obtain ⟨o70_0, o70_1, o70_2, o70_3⟩ := u_70
        replace hP : va_P D vwCl (wd_X6_takes cy a_t a_p2 a_p2_acts o70_0 t_wantsPlace o70_1 o70_2 o70_3) H := hP
        replace hD : va_D A (wd_X6_takes cy a_t a_p2 a_p2_acts o70_0 t_wantsPlace o70_1 o70_2 o70_3) := hD
        have hR2 := hRq (fun (q : Int32 × Int32 × Int32 × (Nat → Int32)) => (F_X6_takes_b73 q.1 t_wantsPlace q.2.1 q.2.2.1 q.2.2.2)) e_70 hR
        replace hR : FV = (F_X6_takes_b73 o70_0 t_wantsPlace o70_1 o70_2 o70_3) := hR2
        unfold F_X6_takes_b73 at hR
        refine lv_iconst (v := 1) hx hb dX6_takes_73 (by decide) ?_
        exact hret (1 : Int32) o70_0 t_wantsPlace o70_1 o70_2 o70_3 _ _ _ _ hP hD hS hR rfl dX6_takes_74
      · replace hR := bn hR n_27_72
        replace hok := hok.2 n_27_72
        by_cases n_27_78 : x1 = (78 : Int32)
        · replace hR := bp hR n_27_78
          replace hok := hok.1 n_27_78
          refine lv_lookup (off := 48) (tgt := 75) hx hb dX6_takes_27 (by decide) (by rw [n_27_78]; decide) (by decide) ?_
          refine lv_aload_n hx hb dX6_takes_75 rfl (lv_at hl 0 rfl) ?_
          refine lv_iconst (v := 5) hx hb dX6_takes_76 (by decide) ?_
          refine lv_aload_n hx hb dX6_takes_77 rfl (lv_at hl 2 rfl) ?_
          have hok_78 := hok
          refine wkVV (As := [.int (5 : Int32), .ref a_p2]) (rest := []) hx hb hml hown hts hG hP hD hS hA k_X6_34 (c_X6_endAct (l := l) (D := D) (cy := cy) a_t a_p2 a_p2_acts (.int t_wantsPlace) t_ended t_hour p2_exceptions p2_acts (5 : Int32) s.heap.size hok_78) ⟨Nat.le_of_ble_eq_true rfl, Nat.le_of_ble_eq_true rfl⟩ [0, 1, 2] [] [0, 1, 2] (N := 3) rfl (by decide +kernel) rfl 0 rfl rfl rfl rfl hl.1 rfl (Nat.le_of_ble_eq_true rfl) ⟨Nat.zero_le _, Nat.zero_le _⟩ dX6_takes_78 (fun u => (wd_X6_takes cy a_t a_p2 a_p2_acts u.1 t_wantsPlace u.2.1 u.2.2.1 u.2.2.2)) (fun _ => rfl) (fun u_78 H locs e_78 hP hD hS => ?_)
          obtain ⟨o78_0, o78_1, o78_2, o78_3⟩ := u_78
          replace hP : va_P D vwCl (wd_X6_takes cy a_t a_p2 a_p2_acts o78_0 t_wantsPlace o78_1 o78_2 o78_3) H := hP
          replace hD : va_D A (wd_X6_takes cy a_t a_p2 a_p2_acts o78_0 t_wantsPlace o78_1 o78_2 o78_3) := hD
          have hR2 := hRq (fun (q : Int32 × Int32 × Int32 × (Nat → Int32)) => (F_X6_takes_b81 q.1 t_wantsPlace q.2.1 q.2.2.1 q.2.2.2)) e_78 hR
          replace hR : FV = (F_X6_takes_b81 o78_0 t_wantsPlace o78_1 o78_2 o78_3) := hR2
          unfold F_X6_takes_b81 at hR
          refine lv_iconst (v := 1) hx hb dX6_takes_81 (by decide) ?_
          exact hret (1 : Int32) o78_0 t_wantsPlace o78_1 o78_2 o78_3 _ _ _ _ hP hD hS hR rfl dX6_takes_82
        · replace hR := bn hR n_27_78
          replace hok := hok.2 n_27_78
          by_cases n_27_80 : x1 = (80 : Int32)
          · replace hR := bp hR n_27_80
            refine lv_lookup (off := 33) (tgt := 60) hx hb dX6_takes_27 (by decide) (by rw [n_27_80]; decide) (by decide) ?_
            refine lv_aload_n hx hb dX6_takes_60 rfl (lv_at hl 0 rfl) ?_
            refine lv_iconst (v := 1) hx hb dX6_takes_61 (by decide) ?_
            refine p_X6_15 hx hb hw hown hK hP hD hS 0 rfl rfl rfl rfl dX6_takes_62 (fun H locs hP hD hS => ?_)
            replace hP : va_P D vwCl (wd_X6_takes cy a_t a_p2 a_p2_acts t_ended (1 : Int32) t_hour p2_exceptions p2_acts) H := hP
            replace hD : va_D A (wd_X6_takes cy a_t a_p2 a_p2_acts t_ended (1 : Int32) t_hour p2_exceptions p2_acts) := hD
            refine lv_iconst (v := 1) hx hb dX6_takes_65 (by decide) ?_
            exact hret (1 : Int32) t_ended (1 : Int32) t_hour p2_exceptions p2_acts _ _ _ _ hP hD hS hR rfl dX6_takes_66
          · replace hR := bn hR n_27_80
            replace hok := hok n_27_80
            refine lv_lookup (off := 56) (tgt := 83) hx hb dX6_takes_27 (by decide) (by simp only []; rw [lv_osw n_27_72 (by decide), lv_osw n_27_78 (by decide), lv_osw n_27_80 (by decide)]; rfl) (by decide) ?_
            refine lv_aload_n hx hb dX6_takes_83 rfl (lv_at hl 0 rfl) ?_
            refine lv_iload_n hx hb dX6_takes_84 rfl (lv_at hl 1 rfl) ?_
            refine lv_bipush (v := 48) hx hb dX6_takes_85 (by decide) ?_
            refine lv_isub hx hb dX6_takes_87 ?_
            refine lv_aload_n hx hb dX6_takes_88 rfl (lv_at hl 2 rfl) ?_
            obtain ⟨hok_89, hok⟩ := hok
            refine wkIV (As := [.int (x1 - (48 : Int32)), .ref a_p2]) (rest := []) hx hb hml hown hts hG hP hD hS hA k_X6_38 (c_X6_takesHour (l := l) (D := D) (cy := cy) a_t a_p2 a_p2_acts (.int t_ended) (.int t_wantsPlace) (.int p2_exceptions) t_hour p2_acts (x1 - (48 : Int32)) s.heap.size hok_89) ⟨Nat.le_of_ble_eq_true rfl, Nat.le_of_ble_eq_true rfl⟩ [0, 1, 2] [] [0, 1, 2] (N := 3) rfl (by decide +kernel) rfl 0 rfl rfl rfl rfl hl.1 rfl (Nat.le_of_ble_eq_true rfl) ⟨Nat.zero_le _, Nat.zero_le _⟩ dX6_takes_89 (fun u => (wd_X6_takes cy a_t a_p2 a_p2_acts t_ended t_wantsPlace u p2_exceptions p2_acts)) (fun _ => rfl) (fun r_89 u_89 H locs e_89 hP hD hS => ?_)
            obtain ⟨o89_0, rfl⟩ : ∃ z, z = u_89 := ⟨_, rfl⟩
            replace hP : va_P D vwCl (wd_X6_takes cy a_t a_p2 a_p2_acts t_ended t_wantsPlace o89_0 p2_exceptions p2_acts) H := hP
            replace hD : va_D A (wd_X6_takes cy a_t a_p2 a_p2_acts t_ended t_wantsPlace o89_0 p2_exceptions p2_acts) := hD
            have hR2 := hRq (fun (q : Int32 × Int32) => (F_X6_takes_b92 t_ended t_wantsPlace q.2 p2_exceptions p2_acts q.1)) e_89 hR
            replace hR : FV = (F_X6_takes_b92 t_ended t_wantsPlace o89_0 p2_exceptions p2_acts r_89) := hR2
            have hok2 := hokq (fun (q : Int32 × Int32) => (ok_X6_takes_b92 q.1)) e_89 hok
            replace hok : (ok_X6_takes_b92 r_89) := hok2
            unfold F_X6_takes_b92 at hR
            unfold ok_X6_takes_b92 at hok
            exact hret r_89 t_ended t_wantsPlace o89_0 p2_exceptions p2_acts _ _ _ _ hP hD hS hR (isB.nar hok) dX6_takes_92
    · replace hR := bn hR c_13
      replace hok := hok.2 c_13
      refine lv_aload_n hx hb dX6_takes_16 rfl (lv_at hl 0 rfl) ?_
      refine lv_iload_n hx hb dX6_takes_17 rfl (lv_at hl 1 rfl) ?_
      refine lv_bipush (v := 48) hx hb dX6_takes_18 (by decide) ?_
      refine lv_isub hx hb dX6_takes_20 ?_
      refine lv_aload_n hx hb dX6_takes_21 rfl (lv_at hl 2 rfl) ?_
      obtain ⟨hok_22, hok⟩ := hok
      refine wkIV (As := [.int (x1 - (48 : Int32)), .ref a_p2]) (rest := []) hx hb hml hown hts hG hP hD hS hA k_X6_31 (c_X6_takesPlace (l := l) (D := D) (cy := cy) a_t a_p2 a_p2_acts t_ended t_wantsPlace t_hour p2_exceptions p2_acts (x1 - (48 : Int32)) s.heap.size hok_22) ⟨Nat.le_of_ble_eq_true rfl, Nat.le_of_ble_eq_true rfl⟩ [0, 1, 2] [] [0, 1, 2] (N := 3) rfl (by decide +kernel) rfl 0 rfl rfl rfl rfl hl.1 rfl (Nat.le_of_ble_eq_true rfl) ⟨Nat.zero_le _, Nat.zero_le _⟩ dX6_takes_22 (fun u => (wd_X6_takes cy a_t a_p2 a_p2_acts u.1 u.2.1 u.2.2.1 u.2.2.2.1 u.2.2.2.2)) (fun _ => rfl) (fun r_22 u_22 H locs e_22 hP hD hS => ?_)
      obtain ⟨o22_0, o22_1, o22_2, o22_3, o22_4⟩ := u_22
      replace hP : va_P D vwCl (wd_X6_takes cy a_t a_p2 a_p2_acts o22_0 o22_1 o22_2 o22_3 o22_4) H := hP
      replace hD : va_D A (wd_X6_takes cy a_t a_p2 a_p2_acts o22_0 o22_1 o22_2 o22_3 o22_4) := hD
      have hR2 := hRq (fun (q : Int32 × Int32 × Int32 × Int32 × Int32 × (Nat → Int32)) => (F_X6_takes_b25 q.2.1 q.2.2.1 q.2.2.2.1 q.2.2.2.2.1 q.2.2.2.2.2 q.1)) e_22 hR
      replace hR : FV = (F_X6_takes_b25 o22_0 o22_1 o22_2 o22_3 o22_4 r_22) := hR2
      have hok2 := hokq (fun (q : Int32 × Int32 × Int32 × Int32 × Int32 × (Nat → Int32)) => (ok_X6_takes_b25 q.1)) e_22 hok
      replace hok : (ok_X6_takes_b25 r_22) := hok2
      unfold F_X6_takes_b25 at hR
      unfold ok_X6_takes_b25 at hok
      exact hret r_22 o22_0 o22_1 o22_2 o22_3 o22_4 _ _ _ _ hP hD hS hR (isB.nar hok) dX6_takes_25
  · replace hR := bn hR c_4
    refine lv_iconst (v := 0) hx hb dX6_takes_7 (by decide) ?_
    exact hret (0 : Int32) t_ended t_wantsPlace t_hour p2_exceptions p2_acts _ _ _ _ hP hD hS hR rfl dX6_takes_8
set_option maxHeartbeats 1000000 in
set_option maxRecDepth 100000 in
theorem c_X6_takes {l : Launch} {D : va_G} {cy : Nat → ClassId} (a_t : Nat) (a_p2 : Nat) (a_p2_acts : Nat) (t_ended : Int32) (t_wantsPlace : Int32) (t_hour : Int32) (p2_exceptions : Int32) (p2_acts : Nat → Int32) (x1 : Int32) (sz : Nat) (hok : (ok_X6_takes t_ended t_wantsPlace t_hour p2_exceptions p2_acts x1)) : WrI (S := Int32 × Int32 × Int32 × Int32 × (Nat → Int32)) l yX6_takes cX6_takes 3 (some .boolean) 4 86 D cy [.ref a_t, .int x1, .ref a_p2] (wd_X6_takes cy a_t a_p2 a_p2_acts t_ended t_wantsPlace t_hour p2_exceptions p2_acts) (fun u => (wd_X6_takes cy a_t a_p2 a_p2_acts u.1 u.2.1 u.2.2.1 u.2.2.2.1 u.2.2.2.2)) (F_X6_takes t_ended t_wantsPlace t_hour p2_exceptions p2_acts x1) sz := by
  refine Met.ofW (cc := cX6_takes) (maxL := 3) (ret := (some .boolean)) (by decide) rfl ?_
  intro p e s m args below meth c s₁ B hml hv
  obtain ⟨rfl, hsz, hP, hG, hD0⟩ := hv
  subst hsz
  have hD := hD0.self (sz := s.heap.size)
  have hr := B.returns
  have hlocks := B.notSynchronized
  have hl := lv_entry ([.ref a_t, .int x1, .ref a_p2]) (n := 3) (Nat.le_of_ble_eq_true rfl)
  rw [lg_entry_eq]
  generalize (lg_sl ([.ref a_t, .int x1, .ref a_p2]) ++ List.replicate (3 - (lg_sl ([.ref a_t, .int x1, .ref a_p2])).length) Slot.unset).toArray = ls at hl ⊢
  exact w_X6_takes a_t a_p2 a_p2_acts t_ended t_wantsPlace t_hour p2_exceptions p2_acts x1 B.exec B.bytes hml (findClass_of_methodNamed B.named) (atoms_spec (ws := Cond.code yX6_takes cX6_takes 3 (some .boolean) :: LW) B.pre) hG (fun q h => Or.inr h) (fun r o0 o1 o2 o3 o4 H locs ls pc hP hD hS hF hn hdg => W.zret (v := r) B.exec B.bytes hr hn (fun t ht hW => ⟨⟨r, (o0, o1, o2, o3, o4), rfl, hF.symm, by rw [ht]; exact hP, hD⟩, hS.F ht⟩) hS.2.2 hdg) ls hl hP hD hok rfl

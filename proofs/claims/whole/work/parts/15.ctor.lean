/-! constructors: they make cells -/
abbrev rmc (f mc ms lo : Nat) : Room := { frames := f, cells := mc, slots := ms, locals := lo }
def LkI (own : String) (ix : Nat) (y : MethodName) (b : ByteArray) (ml n : Nat) : Prop := Cond.methodLink own ix y ∈ LW ∧ Cond.instanceMethod y ∈ LW ∧ Cond.initialized y.cls ∈ LW ∧ Cond.code y b ml none ∈ LW ∧ nmOk y n ∧ y.name = "<init>"
def LkJ (own : String) (ix : Nat) (y : MethodName) (b : ByteArray) (ml n : Nat) : Prop := (own, ix, y, RX11) ∈ nestL ∧ Cond.instanceMethod y ∈ LW ∧ Cond.initialized y.cls ∈ LW ∧ Cond.code y b ml none ∈ LW ∧ nmOk y n ∧ y.name = "<init>"
abbrev Ct {S : Type} (l : Launch) (y : MethodName) (b : ByteArray) (ml f mc ms lo : Nat) (D : va_G) (cy : Nat → ClassId) (av : List Value) (ws : va_W) (w1 : S → va_W) (sz : Nat) : Prop :=
  Met l y (.code y b ml none :: LW) (rmc f mc ms lo) (va_Pc av (PrM D cy ws sz)) (va_Qv (fun (_ : S) => True) (PoM D ws w1 sz) (va_A ws sz)) mc ms (va_A ws sz)
section CT
variable {p : Program} {l : Launch} {e : Env} {R : Room} {s : State} {m : MethodId} {args : Array Value} {below : List Frame} {meth : Method} {c : Code} {H : Heap} {locs : List Loc} {cells slots : Nat} {Q : State → Prop}
variable {cc b : ByteArray} {pc ml f mc ms lo n ix nL a N : Nat} {ls : Array Slot} {rest As st0 : List Value} {D : va_G} {cy : Nat → ClassId} {A : Nat → Prop} {ws wc : va_W} {c0 : Cond} {own : String} {y : MethodName}
theorem ctI {S : Type} {w1 : S → va_W} (hx : p.tables.exec = Jvm.exec) (hb : c.code = cc) (hml : c.maxLocals = nL) (hown : s.vm.findClass own = some m.cls) (ht : ∀ w ∈ c0 :: LW, w.before args s = true) (hG : GW D cy s) (hP : va_P D vwCl ws H) (hD : va_D A ws) (hS : va_S A s.heap H locs) (hA : ∀ q, s.heap.size ≤ q → A q)
    (lk : LkI own ix y b ml n) (hM : Ct l y b ml f mc ms lo D cy (.ref a :: As) wc w1 H.size) (hR : f + 1 ≤ R.frames ∧ 8 + (ml + 11) + lo ≤ R.locals) (isC isR : List Nat) (hN : ws.length = N) (hk : wchk isC isR [] N = true) (hC : isC.filterMap (fun i => ws[i]?) = wc)
    (hn : As.length = n) (hsize : ls.size = nL) (hst : st0 = As.reverse ++ .ref a :: rest) (hW : (rest.map fun v => v.category).sum ≤ 8) (hf : cells + mc ≤ R.cells ∧ slots + ms ≤ R.slots) (hdg : decode cc pc = .ok (.invokespecial ix, 3))
    (kk : ∀ (u : S) (H1 : Heap) (locs1 : List Loc), va_P D vwCl (isR.filterMap (fun i => ws[i]?) ++ w1 u) H1 → va_D A (isR.filterMap (fun i => ws[i]?) ++ w1 u) → va_S A s.heap H1 locs1 → W p l e R s m args below meth c H1 locs1 (cells + mc) (slots + ms) Q (F0 m (pc + 3) ls rest)) : W p l e R s m args below meth c H locs cells slots Q (F0 m pc ls st0) := by
  obtain ⟨h1, h2, h3, h4, h5, h6⟩ := wchk_spec hk
  subst hN
  subst hst
  have hFc := wr_free hD hS hA isC hC h1
  obtain ⟨k1, k2, k3, k4, k5, k6⟩ := lk
  have up : ∀ w ∈ LW, w.before args s = true := fun w h => ht w (List.mem_cons_of_mem _ h)
  refine va_callv (va_runI (As := As) (rest := rest) ⟨hx, hb, hml, hown, ht⟩ hM ⟨callB_of n ht (LW_in k4) rfl rfl rfl (up _ k3) (up _ k1) k5 hR, k6, up _ k2⟩ (preMS (As := .ref a :: As) hG hP hD isC hC h1 h3) rfl hn hsize rfl (lv_room hW) hdg hf) hS (fun q _ h => hFc q h) hFc (fun u t H1 locs1 ht hvm hw hB hz1 hk1 hS => ?_)
  obtain ⟨hP, hD⟩ := wr_join hP hD hFc isC isR hC h1 h2 h4 h5 hk1 ht hB
  exact kk u H1 locs1 hP hD hS
theorem ctJ {S : Type} {w1 : S → va_W} (hx : p.tables.exec = Jvm.exec) (hb : c.code = cc) (hml : c.maxLocals = nL) (hown : s.vm.findClass own = some m.cls) (ht : ∀ w ∈ c0 :: LW, w.before args s = true) (hG : GW D cy s) (hP : va_P D vwCl ws H) (hD : va_D A ws) (hS : va_S A s.heap H locs) (hA : ∀ q, s.heap.size ≤ q → A q)
    (lk : LkJ own ix y b ml n) (hM : Ct l y b ml f mc ms lo D cy (.ref a :: As) wc w1 H.size) (hR : f + 1 ≤ R.frames ∧ 8 + (ml + 11) + lo ≤ R.locals) (isC isR : List Nat) (hN : ws.length = N) (hk : wchk isC isR [] N = true) (hC : isC.filterMap (fun i => ws[i]?) = wc)
    (hn : As.length = n) (hsize : ls.size = nL) (hst : st0 = As.reverse ++ .ref a :: rest) (hW : (rest.map fun v => v.category).sum ≤ 8) (hf : cells + mc ≤ R.cells ∧ slots + ms ≤ R.slots) (hdg : decode cc pc = .ok (.invokespecial ix, 3))
    (kk : ∀ (u : S) (H1 : Heap) (locs1 : List Loc), va_P D vwCl (isR.filterMap (fun i => ws[i]?) ++ w1 u) H1 → va_D A (isR.filterMap (fun i => ws[i]?) ++ w1 u) → va_S A s.heap H1 locs1 → W p l e R s m args below meth c H1 locs1 (cells + mc) (slots + ms) Q (F0 m (pc + 3) ls rest)) : W p l e R s m args below meth c H locs cells slots Q (F0 m pc ls st0) := by
  obtain ⟨h1, h2, h3, h4, h5, h6⟩ := wchk_spec hk
  subst hN
  subst hst
  have hFc := wr_free hD hS hA isC hC h1
  obtain ⟨k1, k2, k3, k4, k5, k6⟩ := lk
  have up : ∀ w ∈ LW, w.before args s = true := fun w h => ht w (List.mem_cons_of_mem _ h)
  refine va_callv (va_runIN (As := As) (rest := rest) ⟨hx, hb, hml, hown, ht⟩ hM ⟨va_cnB n ht (LW_in k4) rfl rfl rfl (hG.2 _ k1) (up _ k3) k5 hR, k6, up _ k2⟩ (preMS (As := .ref a :: As) hG hP hD isC hC h1 h3) rfl hn hsize rfl (lv_room hW) hdg hf) hS (fun q _ h => hFc q h) hFc (fun u t H1 locs1 ht hvm hw hB hz1 hk1 hS => ?_)
  obtain ⟨hP, hD⟩ := wr_join hP hD hFc isC isR hC h1 h2 h4 h5 hk1 ht hB
  exact kk u H1 locs1 hP hD hS
/-- new arrays: their class is the one of that name -/
theorem nwa (hx : p.tables.exec = Jvm.exec) (hb : c.code = cc) {atype : ArrayType} {ty : FieldType} (hty : newarray.typeOf atype = ty) (harr : (Cond.arrayClass (newarray.typeOf atype)).before args s = true) (hK : va_K D vwCl (TY cy) s) (hP : va_P D vwCl ws H) (hD : va_D A ws) (hS : va_S A s.heap H locs) (hA : ∀ q, s.heap.size ≤ q → A q) (k : Nat) (hk : (TY cy)[k]? = some (cy k, ty)) (hra : ∀ cA, va_RA s cA ty = (s.vm.findClass ("[" ++ ty.toString) = some cA))
    {n : Int32} {N' : Nat} {a0 : vp_A} (ha : ∀ cA : ClassId, vp_cell cA a0 = arrV cA N' (fun _ => defaultValue ty)) (hn : ¬ n < 0) (hN : n.toNatClampNeg = N') (hbytes : N' * componentBytes ty ≤ 536870912) (hcells : cells + 1 ≤ R.cells) (hslots : slots + N' ≤ R.slots) (hdg : decode cc pc = .ok (.newarray atype, 2))
    (kk : ∀ (q : Nat) (H1 : Heap), va_P D vwCl (ws ++ [(q, .inl (cy k, a0))]) H1 → va_D A (ws ++ [(q, .inl (cy k, a0))]) → va_S A s.heap H1 locs →
      W p l e R s m args below meth c H1 locs (cells + 1) (slots + N') Q (F0 m (pc + 2) ls (.ref q :: rest))) : W p l e R s m args below meth c H locs cells slots Q (F0 m pc ls (.int n :: rest)) := by
  refine va_newa hx hb harr hty hK hP hD hS hA ha hn hN hbytes hcells hslots hdg (fun q cA H1 hK2 hP hD hS => ?_)
  have e1 := (hK2.2 6 (cA, ty) rfl).2
  have e2 := (hK.2 k (cy k, ty) hk).2
  rw [hra] at e1 e2
  have e3 : cA = cy k := Option.some.inj (e1.symm.trans e2)
  subst e3
  exact kk q H1 hP hD hS
theorem nwq (hx : p.tables.exec = Jvm.exec) (hb : c.code = cc) {C : String} {index : Nat} (hown : s.vm.findClass own = some m.cls) (hclink : (Cond.classLink own index C).before args s = true) (hover : va_AO C s) (hK : va_K D vwCl (TY cy) s) (hP : va_P D vwCl ws H) (hD : va_D A ws) (hS : va_S A s.heap H locs) (hA : ∀ q, s.heap.size ≤ q → A q) (k : Nat) (hk : (TY cy)[k]? = some (cy k, .object C))
    {n : Int32} {N' : Nat} (hn : ¬ n < 0) (hN : n.toNatClampNeg = N') (hbytes : N' * 4 ≤ 536870912) (hcells : cells + 1 ≤ R.cells) (hslots : slots + N' ≤ R.slots) (hdg : decode cc pc = .ok (.anewarray index, 3))
    (kk : ∀ (q : Nat) (H1 : Heap), va_P D vwCl (ws ++ [(q, .inl (cy k, N', .inr (.inr (.inr (.inr (fun _ => none))))))]) H1 → va_D A (ws ++ [(q, .inl (cy k, N', .inr (.inr (.inr (.inr (fun _ => none))))))]) → va_S A s.heap H1 locs →
      W p l e R s m args below meth c H1 locs (cells + 1) (slots + N') Q (F0 m (pc + 3) ls (.ref q :: rest))) : W p l e R s m args below meth c H locs cells slots Q (F0 m pc ls (.int n :: rest)) := by
  refine va_newq hx hb hown hclink hover hK hP hD hS hA hn hN hbytes hcells hslots hdg (fun q cA H1 hK2 hP hD hS => ?_)
  obtain ⟨_, _, _, _, _, e1⟩ := (hK2.2 6 (cA, .object C) rfl).2
  obtain ⟨_, _, _, _, _, e2⟩ := (hK.2 k (cy k, .object C) hk).2
  have e3 : cA = cy k := Option.some.inj (e1.symm.trans e2)
  subst e3
  exact kk q H1 hP hD hS
end CT
/-- Arrays.fill over ints, longs -/
theorem fi_loop (x : Int32) (N : Nat) (hN : N < 2 ^ 31) : ∀ (n i : Nat) (f : Nat → Int32), i ≤ N → N < i + n → F_J7_fill_53178_L5 x (nI N) n f (nI i) = fun j => if i ≤ j ∧ j < N then x else f j := by
  intro n
  induction n with
  | zero => intro i f h1 h2; omega
  | succ n ih =>
    intro i f h1 h2
    rw [F_J7_fill_53178_L5_s]
    by_cases h : i = N
    · subst h
      rw [if_pos (Int32.le_refl _)]
      funext j
      rw [if_neg (by omega)]
    · have hlt : i < N := by omega
      rw [if_neg (nI_ge hlt hN), nI_1, ih (i + 1) _ (by omega) (by omega), nI_clamp (by omega)]
      funext j
      by_cases hj : j = i
      · subst hj
        rw [if_neg (by omega), if_pos (by omega)]
        simp [upd]
      · by_cases hj2 : i ≤ j ∧ j < N
        · rw [if_pos (by omega), if_pos hj2]
        · rw [if_neg (by omega), if_neg hj2]
          simp [upd, hj]
theorem fi_ok_loop (x : Int32) (N : Nat) (hN : N < 2 ^ 31) : ∀ (n i : Nat) (f : Nat → Int32), i ≤ N → N < i + n → ok_J7_fill_53178_L5 N x (nI N) n f (nI i) := by
  intro n
  induction n with
  | zero => intro i f h1 h2; omega
  | succ n ih =>
    intro i f h1 h2
    rw [ok_J7_fill_53178_L5_s]
    intro h
    have hne : ¬ i = N := fun q => h (by subst q; exact Int32.le_refl _)
    refine ⟨vp_in_nI (by omega) hN, ?_⟩
    rw [nI_1]
    exact ih (i + 1) _ (by omega) (by omega)
theorem fill_eq (N : Nat) (hN : N < 4096) (f : Nat → Int32) (x : Int32) : F_J7_fill_53178 N f x = fun j => if j < N then x else f j := by
  have h := fi_loop x N (by omega) FU 0 f (Nat.zero_le _) (by have := FU_ge; omega)
  rw [nI_0] at h
  refine Eq.trans (b := F_J7_fill_53178_L5 x (nI N) FU f 0) rfl (h.trans ?_)
  funext j
  by_cases hj : j < N
  · rw [if_pos ⟨Nat.zero_le _, hj⟩, if_pos hj]
  · rw [if_neg (fun q => hj q.2), if_neg hj]
theorem fill_ok (N : Nat) (hN : N < 4096) (f : Nat → Int32) (x : Int32) : ok_J7_fill_53178 N f x := by
  have h := fi_ok_loop x N (by omega) FU 0 f (Nat.zero_le _) (by have := FU_ge; omega)
  rw [nI_0] at h
  exact h
theorem mx_1_24 : Cond.instanceMethod objectInit ∈ LW := lw_1 (List.mem_of_getElem? (i := 24) (by decide +kernel)) (by decide +kernel)
theorem mx_1_25 : Cond.code objectInit ⟨#[0xb1]⟩ 1 none ∈ LW := lw_1 (List.mem_of_getElem? (i := 25) (by decide +kernel)) (by decide +kernel)
theorem mx_1_123 : Cond.arrayClass .byte ∈ LW := lw_1 (List.mem_of_getElem? (i := 123) (by decide +kernel)) (by decide +kernel)
theorem mx_1_124 : Cond.arrayClass .int ∈ LW := lw_1 (List.mem_of_getElem? (i := 124) (by decide +kernel)) (by decide +kernel)
theorem mx_2_185 : Cond.arrayClass .long ∈ LW := lw_2 (List.mem_of_getElem? (i := 185) (by decide +kernel)) (by decide +kernel)
theorem mx_2_25 : Cond.arrayClass .boolean ∈ LW := lw_2 (List.mem_of_getElem? (i := 25) (by decide +kernel)) (by decide +kernel)
theorem mx_1_190 : Cond.methodLink RX3 3 objectInit ∈ LW := lw_1 (List.mem_of_getElem? (i := 190) (by decide +kernel)) (by decide +kernel)
set_option maxHeartbeats 4000000 in
set_option maxRecDepth 100000 in
theorem t_X3_init {l : Launch} {D : va_G} {cy : Nat → ClassId} (a_t : Nat) (sz : Nat) : Ct (S := Unit) l yX3_init cX3_init 1 1 0 0 12 D cy [.ref a_t] [(a_t, .inr (3, [.int 0, .int 0, .int 0, .int 0, .int 0, .int 0, .int 0, .int 0, .int 0]))] (fun u => [(a_t, .inr (3, [.int (0 : Int32), .int (10 : Int32), .int (0 : Int32), .int (0 : Int32), .int (0 : Int32), .int (0 : Int32), .int (0 : Int32), .int (0 : Int32), .int (0 : Int32)]))]) sz := by
  refine Met.ofW (cc := cX3_init) (maxL := 1) (ret := none) (by decide) rfl ?_
  intro p e s m args below meth c s₁ B hml hv
  obtain ⟨rfl, hsz, hP, hG, hD0⟩ := hv
  subst hsz
  have hD := hD0.self (sz := s.heap.size)
  have hx := B.exec
  have hb := B.bytes
  have hr := B.returns
  have hlocks := B.notSynchronized
  have hown : s.vm.findClass RX3 = some m.cls := findClass_of_methodNamed B.named
  have hts := atoms_spec (ws := Cond.code yX3_init cX3_init 1 none :: LW) B.pre
  have hw : ∀ w ∈ LW, w.before _ s = true := fun w h => hts w (List.mem_cons_of_mem _ h)
  have hK := hG.1
  have hin : meth.name = "<init>" := (name_of_methodNamed B.named B.method).1
  generalize hAe : va_A [(a_t, .inr (3, [.int 0, .int 0, .int 0, .int 0, .int 0, .int 0, .int 0, .int 0, .int 0]))] s.heap.size = A at hD ⊢
  have hA : ∀ q : Nat, s.heap.size ≤ q → A q := fun q h => by rw [← hAe]; exact Or.inr h
  have hS : va_S A s.heap s.heap [] := va_S.rf
  have hl := lv_entry ([.ref a_t]) (n := 1) (Nat.le_of_ble_eq_true rfl)
  rw [lg_entry_eq]
  generalize (lg_sl ([.ref a_t]) ++ List.replicate (1 - (lg_sl ([.ref a_t])).length) Slot.unset).toArray = ls at hl ⊢
  refine lv_aload_n hx hb dX3_init_0 rfl (lv_at hl 0 rfl) ?_
  refine W.objInit hx hb hown (hw _ mx_1_190) (hw _ mx_1_24) (hw _ mx_1_25) rfl (by rw [hml]; exact hl.1) rfl dX3_init_1 (Nat.le_of_ble_eq_true rfl) (Nat.le_of_ble_eq_true rfl) ?_
  refine W.eq (g2 := F0 m 4 ls []) rfl ?_
  refine lv_aload_n hx hb dX3_init_4 rfl (lv_at hl 0 rfl) ?_
  refine lv_iconst (v := 0) hx hb dX3_init_5 (by decide) ?_
  refine p_X3_9 hx hb hw hown hK hP hD hS 0 rfl rfl rfl rfl dX3_init_6 (fun H locs hP hD hS => ?_)
  replace hP : va_P D vwCl [(a_t, .inr (3, [.int (0 : Int32), .int 0, .int 0, .int 0, .int 0, .int 0, .int 0, .int 0, .int 0]))] H := hP
  replace hD : va_D A [(a_t, .inr (3, [.int (0 : Int32), .int 0, .int 0, .int 0, .int 0, .int 0, .int 0, .int 0, .int 0]))] := hD
  refine lv_aload_n hx hb dX3_init_9 rfl (lv_at hl 0 rfl) ?_
  refine lv_bipush (v := 10) hx hb dX3_init_10 (by decide) ?_
  refine p_X3_15 hx hb hw hown hK hP hD hS 0 rfl rfl rfl rfl dX3_init_12 (fun H locs hP hD hS => ?_)
  replace hP : va_P D vwCl [(a_t, .inr (3, [.int (0 : Int32), .int (10 : Int32), .int 0, .int 0, .int 0, .int 0, .int 0, .int 0, .int 0]))] H := hP
  replace hD : va_D A [(a_t, .inr (3, [.int (0 : Int32), .int (10 : Int32), .int 0, .int 0, .int 0, .int 0, .int 0, .int 0, .int 0]))] := hD
  refine lv_aload_n hx hb dX3_init_15 rfl (lv_at hl 0 rfl) ?_
  refine lv_iconst (v := 0) hx hb dX3_init_16 (by decide) ?_
  refine p_X3_18 hx hb hw hown hK hP hD hS 0 rfl rfl rfl rfl dX3_init_17 (fun H locs hP hD hS => ?_)
  replace hP : va_P D vwCl [(a_t, .inr (3, [.int (0 : Int32), .int (10 : Int32), .int (0 : Int32), .int 0, .int 0, .int 0, .int 0, .int 0, .int 0]))] H := hP
  replace hD : va_D A [(a_t, .inr (3, [.int (0 : Int32), .int (10 : Int32), .int (0 : Int32), .int 0, .int 0, .int 0, .int 0, .int 0, .int 0]))] := hD
  refine lv_aload_n hx hb dX3_init_20 rfl (lv_at hl 0 rfl) ?_
  refine lv_iconst (v := 0) hx hb dX3_init_21 (by decide) ?_
  refine p_X3_21 hx hb hw hown hK hP hD hS 0 rfl rfl rfl rfl dX3_init_22 (fun H locs hP hD hS => ?_)
  replace hP : va_P D vwCl [(a_t, .inr (3, [.int (0 : Int32), .int (10 : Int32), .int (0 : Int32), .int (0 : Int32), .int 0, .int 0, .int 0, .int 0, .int 0]))] H := hP
  replace hD : va_D A [(a_t, .inr (3, [.int (0 : Int32), .int (10 : Int32), .int (0 : Int32), .int (0 : Int32), .int 0, .int 0, .int 0, .int 0, .int 0]))] := hD
  refine lv_aload_n hx hb dX3_init_25 rfl (lv_at hl 0 rfl) ?_
  refine lv_iconst (v := 0) hx hb dX3_init_26 (by decide) ?_
  refine p_X3_24 hx hb hw hown hK hP hD hS 0 rfl rfl rfl rfl dX3_init_27 (fun H locs hP hD hS => ?_)
  replace hP : va_P D vwCl [(a_t, .inr (3, [.int (0 : Int32), .int (10 : Int32), .int (0 : Int32), .int (0 : Int32), .int (0 : Int32), .int 0, .int 0, .int 0, .int 0]))] H := hP
  replace hD : va_D A [(a_t, .inr (3, [.int (0 : Int32), .int (10 : Int32), .int (0 : Int32), .int (0 : Int32), .int (0 : Int32), .int 0, .int 0, .int 0, .int 0]))] := hD
  refine lv_aload_n hx hb dX3_init_30 rfl (lv_at hl 0 rfl) ?_
  refine lv_iconst (v := 0) hx hb dX3_init_31 (by decide) ?_
  refine p_X3_27 hx hb hw hown hK hP hD hS 0 rfl rfl rfl rfl dX3_init_32 (fun H locs hP hD hS => ?_)
  replace hP : va_P D vwCl [(a_t, .inr (3, [.int (0 : Int32), .int (10 : Int32), .int (0 : Int32), .int (0 : Int32), .int (0 : Int32), .int (0 : Int32), .int 0, .int 0, .int 0]))] H := hP
  replace hD : va_D A [(a_t, .inr (3, [.int (0 : Int32), .int (10 : Int32), .int (0 : Int32), .int (0 : Int32), .int (0 : Int32), .int (0 : Int32), .int 0, .int 0, .int 0]))] := hD
  refine lv_aload_n hx hb dX3_init_35 rfl (lv_at hl 0 rfl) ?_
  refine lv_iconst (v := 0) hx hb dX3_init_36 (by decide) ?_
  refine p_X3_30 hx hb hw hown hK hP hD hS 0 rfl rfl rfl rfl dX3_init_37 (fun H locs hP hD hS => ?_)
  replace hP : va_P D vwCl [(a_t, .inr (3, [.int (0 : Int32), .int (10 : Int32), .int (0 : Int32), .int (0 : Int32), .int (0 : Int32), .int (0 : Int32), .int (0 : Int32), .int 0, .int 0]))] H := hP
  replace hD : va_D A [(a_t, .inr (3, [.int (0 : Int32), .int (10 : Int32), .int (0 : Int32), .int (0 : Int32), .int (0 : Int32), .int (0 : Int32), .int (0 : Int32), .int 0, .int 0]))] := hD
  refine lv_aload_n hx hb dX3_init_40 rfl (lv_at hl 0 rfl) ?_
  refine lv_iconst (v := 0) hx hb dX3_init_41 (by decide) ?_
  refine p_X3_33 hx hb hw hown hK hP hD hS 0 rfl rfl rfl rfl dX3_init_42 (fun H locs hP hD hS => ?_)
  replace hP : va_P D vwCl [(a_t, .inr (3, [.int (0 : Int32), .int (10 : Int32), .int (0 : Int32), .int (0 : Int32), .int (0 : Int32), .int (0 : Int32), .int (0 : Int32), .int (0 : Int32), .int 0]))] H := hP
  replace hD : va_D A [(a_t, .inr (3, [.int (0 : Int32), .int (10 : Int32), .int (0 : Int32), .int (0 : Int32), .int (0 : Int32), .int (0 : Int32), .int (0 : Int32), .int (0 : Int32), .int 0]))] := hD
  refine lv_aload_n hx hb dX3_init_45 rfl (lv_at hl 0 rfl) ?_
  refine lv_iconst (v := 0) hx hb dX3_init_46 (by decide) ?_
  refine p_X3_36 hx hb hw hown hK hP hD hS 0 rfl rfl rfl rfl dX3_init_47 (fun H locs hP hD hS => ?_)
  replace hP : va_P D vwCl [(a_t, .inr (3, [.int (0 : Int32), .int (10 : Int32), .int (0 : Int32), .int (0 : Int32), .int (0 : Int32), .int (0 : Int32), .int (0 : Int32), .int (0 : Int32), .int (0 : Int32)]))] H := hP
  replace hD : va_D A [(a_t, .inr (3, [.int (0 : Int32), .int (10 : Int32), .int (0 : Int32), .int (0 : Int32), .int (0 : Int32), .int (0 : Int32), .int (0 : Int32), .int (0 : Int32), .int (0 : Int32)]))] := hD
  refine W.widen (k := 0) (n := 0) (Nat.le_of_ble_eq_true rfl) (Nat.le_of_ble_eq_true rfl) ?_
  exact W.vret hx hb hr (fun t ht hW => ⟨⟨(), rfl, trivial, by rw [ht]; exact hP, by rw [hAe]; exact hD⟩, hS.F ht⟩) hS.2.2 dX3_init_50
theorem mx_2_6 : Cond.methodLink RX10 3 objectInit ∈ LW := lw_2 (List.mem_of_getElem? (i := 6) (by decide +kernel)) (by decide +kernel)
theorem mx_2_7 : Cond.classLink RX10 9 RX3 ∈ LW := lw_2 (List.mem_of_getElem? (i := 7) (by decide +kernel)) (by decide +kernel)
theorem mx_1_186 : Cond.instantiable RX3 9 ∈ LW := lw_1 (List.mem_of_getElem? (i := 186) (by decide +kernel)) (by decide +kernel)
theorem mx_1_7 : Cond.initialized RX3 ∈ LW := lw_1 (List.mem_of_getElem? (i := 7) (by decide +kernel)) (by decide +kernel)
theorem mx_1_188 : Cond.instanceMethod yX3_init ∈ LW := lw_1 (List.mem_of_getElem? (i := 188) (by decide +kernel)) (by decide +kernel)
theorem mx_1_189 : Cond.code yX3_init cX3_init 1 none ∈ LW := lw_1 (List.mem_of_getElem? (i := 189) (by decide +kernel)) (by decide +kernel)
theorem kt_X10_11 : LkJ RX10 11 yX3_init cX3_init 1 0 := ⟨List.mem_of_getElem? (i := 23) rfl, mx_1_188, mx_1_7, mx_1_189, ⟨by decide +kernel, by decide +kernel, by decide +kernel⟩, rfl⟩
theorem mx_2_9 : Cond.fieldLink RX10 12 "BoathouseKey$Week" "state" "LBoathouseKey$Live;" ∈ LW := lw_2 (List.mem_of_getElem? (i := 9) (by decide +kernel)) (by decide +kernel)
theorem pf_X10_12 {p : Program} {l : Launch} {e : Env} {R : Room} {s : State} {m : MethodId} {args : Array Value} {below : List Frame} {meth : Method} {c : Code} {H : Heap} {locs : List Loc} {cells slots : Nat} {Q : State → Prop} {cc : ByteArray} {pc : Nat} {ls : Array Slot} {rest : List Value} {D : va_G} {A : Nat → Prop} {a : Nat} {tys : List (ClassId × FieldType)} {ws : va_W} {H0 : Heap} (hx : p.tables.exec = Jvm.exec) (hb : c.code = cc) (hw : ∀ w ∈ LW, w.before args s = true) (hown : s.vm.findClass RX10 = some m.cls) (hin : meth.name = "<init>") (hK : va_K D vwCl tys s) (hP : va_P D vwCl ws H) (hD : va_D A ws) (hS : va_S A H0 H locs) (q0 : Nat) {fs : List Value} (he : ws[q0]? = some (a, .inr (10, fs))) {v : Value} (hn : narrow (tyX10 0) v = v) (hfit : fits (tyX10 0) v = true) (hl : Nat.ble (0 + 1) fs.length = true) (hdg : decode cc pc = .ok (.putfield 12, 3)) (kk : ∀ (H1 : Heap) (locs1 : List Loc), va_P D vwCl (ws.set q0 (a, .inr (10, fs.set 0 v))) H1 → va_D A (ws.set q0 (a, .inr (10, fs.set 0 v))) → va_S A H0 H1 locs1 → W p l e R s m args below meth c H1 locs1 cells slots Q (F0 m (pc + 3) ls rest)) : W p l e R s m args below meth c H locs cells slots Q (F0 m pc ls (v :: .ref a :: rest)) := va_putF hx hb hw i_X10 tyX10 tyX10_ok nmX10 hown hK hP hD hS q0 he rfl 0 (Nat.le_of_ble_eq_true rfl) (hw _ mx_2_9) (fun _ h => h) rfl hin rfl (tyX10_ok 0 (Nat.le_of_ble_eq_true rfl)) hn hfit (Nat.le_of_ble_eq_true hl) hdg kk
theorem mx_2_13 : Cond.fieldLink RX10 18 "BoathouseKey$Week" "keyAhead" "[I" ∈ LW := lw_2 (List.mem_of_getElem? (i := 13) (by decide +kernel)) (by decide +kernel)
theorem pf_X10_18 {p : Program} {l : Launch} {e : Env} {R : Room} {s : State} {m : MethodId} {args : Array Value} {below : List Frame} {meth : Method} {c : Code} {H : Heap} {locs : List Loc} {cells slots : Nat} {Q : State → Prop} {cc : ByteArray} {pc : Nat} {ls : Array Slot} {rest : List Value} {D : va_G} {A : Nat → Prop} {a : Nat} {tys : List (ClassId × FieldType)} {ws : va_W} {H0 : Heap} (hx : p.tables.exec = Jvm.exec) (hb : c.code = cc) (hw : ∀ w ∈ LW, w.before args s = true) (hown : s.vm.findClass RX10 = some m.cls) (hin : meth.name = "<init>") (hK : va_K D vwCl tys s) (hP : va_P D vwCl ws H) (hD : va_D A ws) (hS : va_S A H0 H locs) (q0 : Nat) {fs : List Value} (he : ws[q0]? = some (a, .inr (10, fs))) {v : Value} (hn : narrow (tyX10 1) v = v) (hfit : fits (tyX10 1) v = true) (hl : Nat.ble (1 + 1) fs.length = true) (hdg : decode cc pc = .ok (.putfield 18, 3)) (kk : ∀ (H1 : Heap) (locs1 : List Loc), va_P D vwCl (ws.set q0 (a, .inr (10, fs.set 1 v))) H1 → va_D A (ws.set q0 (a, .inr (10, fs.set 1 v))) → va_S A H0 H1 locs1 → W p l e R s m args below meth c H1 locs1 cells slots Q (F0 m (pc + 3) ls rest)) : W p l e R s m args below meth c H locs cells slots Q (F0 m pc ls (v :: .ref a :: rest)) := va_putF hx hb hw i_X10 tyX10 tyX10_ok nmX10 hown hK hP hD hS q0 he rfl 1 (Nat.le_of_ble_eq_true rfl) (hw _ mx_2_13) (fun _ h => h) rfl hin rfl (tyX10_ok 1 (Nat.le_of_ble_eq_true rfl)) hn hfit (Nat.le_of_ble_eq_true hl) hdg kk
theorem mx_2_16 : Cond.fieldLink RX10 22 "BoathouseKey$Week" "stoodAt" "[I" ∈ LW := lw_2 (List.mem_of_getElem? (i := 16) (by decide +kernel)) (by decide +kernel)
theorem pf_X10_22 {p : Program} {l : Launch} {e : Env} {R : Room} {s : State} {m : MethodId} {args : Array Value} {below : List Frame} {meth : Method} {c : Code} {H : Heap} {locs : List Loc} {cells slots : Nat} {Q : State → Prop} {cc : ByteArray} {pc : Nat} {ls : Array Slot} {rest : List Value} {D : va_G} {A : Nat → Prop} {a : Nat} {tys : List (ClassId × FieldType)} {ws : va_W} {H0 : Heap} (hx : p.tables.exec = Jvm.exec) (hb : c.code = cc) (hw : ∀ w ∈ LW, w.before args s = true) (hown : s.vm.findClass RX10 = some m.cls) (hin : meth.name = "<init>") (hK : va_K D vwCl tys s) (hP : va_P D vwCl ws H) (hD : va_D A ws) (hS : va_S A H0 H locs) (q0 : Nat) {fs : List Value} (he : ws[q0]? = some (a, .inr (10, fs))) {v : Value} (hn : narrow (tyX10 2) v = v) (hfit : fits (tyX10 2) v = true) (hl : Nat.ble (2 + 1) fs.length = true) (hdg : decode cc pc = .ok (.putfield 22, 3)) (kk : ∀ (H1 : Heap) (locs1 : List Loc), va_P D vwCl (ws.set q0 (a, .inr (10, fs.set 2 v))) H1 → va_D A (ws.set q0 (a, .inr (10, fs.set 2 v))) → va_S A H0 H1 locs1 → W p l e R s m args below meth c H1 locs1 cells slots Q (F0 m (pc + 3) ls rest)) : W p l e R s m args below meth c H locs cells slots Q (F0 m pc ls (v :: .ref a :: rest)) := va_putF hx hb hw i_X10 tyX10 tyX10_ok nmX10 hown hK hP hD hS q0 he rfl 2 (Nat.le_of_ble_eq_true rfl) (hw _ mx_2_16) (fun _ h => h) rfl hin rfl (tyX10_ok 2 (Nat.le_of_ble_eq_true rfl)) hn hfit (Nat.le_of_ble_eq_true hl) hdg kk
set_option maxHeartbeats 4000000 in
set_option maxRecDepth 100000 in
theorem t_X10_init {l : Launch} {D : va_G} {cy : Nat → ClassId} (a_t : Nat) (sz : Nat) : Ct (S := Nat × Nat × Nat) l yX10_init cX10_init 1 2 3 29 32 D cy [.ref a_t] [(a_t, .inr (10, [.null, .null, .null]))] (fun u => [(a_t, .inr (10, [.ref (u.1), .ref (u.2.1), .ref (u.2.2)])), ((u.1), .inr (3, [.int (0 : Int32), .int (10 : Int32), .int (0 : Int32), .int (0 : Int32), .int (0 : Int32), .int (0 : Int32), .int (0 : Int32), .int (0 : Int32), .int (0 : Int32)])), ((u.2.1), .inl (cy 1, 10, .inl (fun _ => 0))), ((u.2.2), .inl (cy 1, 10, .inl (fun _ => 0)))]) sz := by
  refine Met.ofW (cc := cX10_init) (maxL := 1) (ret := none) (by decide) rfl ?_
  intro p e s m args below meth c s₁ B hml hv
  obtain ⟨rfl, hsz, hP, hG, hD0⟩ := hv
  subst hsz
  have hD := hD0.self (sz := s.heap.size)
  have hx := B.exec
  have hb := B.bytes
  have hr := B.returns
  have hlocks := B.notSynchronized
  have hown : s.vm.findClass RX10 = some m.cls := findClass_of_methodNamed B.named
  have hts := atoms_spec (ws := Cond.code yX10_init cX10_init 1 none :: LW) B.pre
  have hw : ∀ w ∈ LW, w.before _ s = true := fun w h => hts w (List.mem_cons_of_mem _ h)
  have hK := hG.1
  have hin : meth.name = "<init>" := (name_of_methodNamed B.named B.method).1
  generalize hAe : va_A [(a_t, .inr (10, [.null, .null, .null]))] s.heap.size = A at hD ⊢
  have hA : ∀ q : Nat, s.heap.size ≤ q → A q := fun q h => by rw [← hAe]; exact Or.inr h
  have hS : va_S A s.heap s.heap [] := va_S.rf
  have hl := lv_entry ([.ref a_t]) (n := 1) (Nat.le_of_ble_eq_true rfl)
  rw [lg_entry_eq]
  generalize (lg_sl ([.ref a_t]) ++ List.replicate (1 - (lg_sl ([.ref a_t])).length) Slot.unset).toArray = ls at hl ⊢
  refine lv_aload_n hx hb dX10_init_0 rfl (lv_at hl 0 rfl) ?_
  refine W.objInit hx hb hown (hw _ mx_2_6) (hw _ mx_1_24) (hw _ mx_1_25) rfl (by rw [hml]; exact hl.1) rfl dX10_init_1 (Nat.le_of_ble_eq_true rfl) (Nat.le_of_ble_eq_true rfl) ?_
  refine W.eq (g2 := F0 m 4 ls []) rfl ?_
  refine lv_aload_n hx hb dX10_init_4 rfl (lv_at hl 0 rfl) ?_
  refine va_new (ci := 3) (fs := [.int 0, .int 0, .int 0, .int 0, .int 0, .int 0, .int 0, .int 0, .int 0]) (C := RX3) (T := TX3) (N := 9) hx hb hw i_X3 tyX3 tyX3_ok hown (hw _ mx_2_7) (hw _ mx_1_186) (hw _ mx_1_7) hK hP hD hS hA rfl (fun j hj => by match j, hj with | 0, _ => rfl | 1, _ => rfl | 2, _ => rfl | 3, _ => rfl | 4, _ => rfl | 5, _ => rfl | 6, _ => rfl | 7, _ => rfl | 8, _ => rfl | j + 9, h => exact absurd h (by omega)) (Nat.le_of_ble_eq_true rfl) (Nat.le_of_ble_eq_true rfl) dX10_init_5 (fun q_5_4 H hP hD hS => ?_)
  replace hP : va_P D vwCl [(a_t, .inr (10, [.null, .null, .null])), (q_5_4, .inr (3, [.int 0, .int 0, .int 0, .int 0, .int 0, .int 0, .int 0, .int 0, .int 0]))] H := hP
  replace hD : va_D A [(a_t, .inr (10, [.null, .null, .null])), (q_5_4, .inr (3, [.int 0, .int 0, .int 0, .int 0, .int 0, .int 0, .int 0, .int 0, .int 0]))] := hD
  refine lv_dup hx hb dX10_init_8 rfl ?_
  refine ctJ (As := []) (rest := [.ref q_5_4, .ref a_t]) hx hb hml hown hts hG hP hD hS hA kt_X10_11 (t_X3_init (l := l) (D := D) (cy := cy) q_5_4 H.size) ⟨Nat.le_of_ble_eq_true rfl, Nat.le_of_ble_eq_true rfl⟩ [1] [0] (N := 2) rfl (by decide +kernel) rfl rfl hl.1 rfl (Nat.le_of_ble_eq_true rfl) ⟨Nat.le_of_ble_eq_true rfl, Nat.le_of_ble_eq_true rfl⟩ dX10_init_9 (fun u_6 H locs hP hD hS => ?_)
  replace hP : va_P D vwCl [(a_t, .inr (10, [.null, .null, .null])), (q_5_4, .inr (3, [.int (0 : Int32), .int (10 : Int32), .int (0 : Int32), .int (0 : Int32), .int (0 : Int32), .int (0 : Int32), .int (0 : Int32), .int (0 : Int32), .int (0 : Int32)]))] H := hP
  replace hD : va_D A [(a_t, .inr (10, [.null, .null, .null])), (q_5_4, .inr (3, [.int (0 : Int32), .int (10 : Int32), .int (0 : Int32), .int (0 : Int32), .int (0 : Int32), .int (0 : Int32), .int (0 : Int32), .int (0 : Int32), .int (0 : Int32)]))] := hD
  refine pf_X10_12 hx hb hw hown hin hK hP hD hS 0 rfl rfl rfl rfl dX10_init_12 (fun H locs hP hD hS => ?_)
  replace hP : va_P D vwCl [(a_t, .inr (10, [.ref q_5_4, .null, .null])), (q_5_4, .inr (3, [.int (0 : Int32), .int (10 : Int32), .int (0 : Int32), .int (0 : Int32), .int (0 : Int32), .int (0 : Int32), .int (0 : Int32), .int (0 : Int32), .int (0 : Int32)]))] H := hP
  replace hD : va_D A [(a_t, .inr (10, [.ref q_5_4, .null, .null])), (q_5_4, .inr (3, [.int (0 : Int32), .int (10 : Int32), .int (0 : Int32), .int (0 : Int32), .int (0 : Int32), .int (0 : Int32), .int (0 : Int32), .int (0 : Int32), .int (0 : Int32)]))] := hD
  refine lv_aload_n hx hb dX10_init_15 rfl (lv_at hl 0 rfl) ?_
  refine lv_bipush (v := 10) hx hb dX10_init_16 (by decide) ?_
  refine nwa (atype := .int) (ty := .int) (N' := 10) (a0 := (10, .inl (fun _ => 0))) hx hb rfl (hw _ mx_1_124) hK hP hD hS hA 1 rfl (fun _ => rfl) (fun _ => rfl) (by decide) (by decide) (by decide) (Nat.le_of_ble_eq_true rfl) (Nat.le_of_ble_eq_true rfl) dX10_init_18 (fun q_18_10 H hP hD hS => ?_)
  replace hP : va_P D vwCl [(a_t, .inr (10, [.ref q_5_4, .null, .null])), (q_5_4, .inr (3, [.int (0 : Int32), .int (10 : Int32), .int (0 : Int32), .int (0 : Int32), .int (0 : Int32), .int (0 : Int32), .int (0 : Int32), .int (0 : Int32), .int (0 : Int32)])), (q_18_10, .inl (cy 1, 10, .inl (fun _ => 0)))] H := hP
  replace hD : va_D A [(a_t, .inr (10, [.ref q_5_4, .null, .null])), (q_5_4, .inr (3, [.int (0 : Int32), .int (10 : Int32), .int (0 : Int32), .int (0 : Int32), .int (0 : Int32), .int (0 : Int32), .int (0 : Int32), .int (0 : Int32), .int (0 : Int32)])), (q_18_10, .inl (cy 1, 10, .inl (fun _ => 0)))] := hD
  refine pf_X10_18 hx hb hw hown hin hK hP hD hS 0 rfl rfl rfl rfl dX10_init_20 (fun H locs hP hD hS => ?_)
  replace hP : va_P D vwCl [(a_t, .inr (10, [.ref q_5_4, .ref q_18_10, .null])), (q_5_4, .inr (3, [.int (0 : Int32), .int (10 : Int32), .int (0 : Int32), .int (0 : Int32), .int (0 : Int32), .int (0 : Int32), .int (0 : Int32), .int (0 : Int32), .int (0 : Int32)])), (q_18_10, .inl (cy 1, 10, .inl (fun _ => 0)))] H := hP
  replace hD : va_D A [(a_t, .inr (10, [.ref q_5_4, .ref q_18_10, .null])), (q_5_4, .inr (3, [.int (0 : Int32), .int (10 : Int32), .int (0 : Int32), .int (0 : Int32), .int (0 : Int32), .int (0 : Int32), .int (0 : Int32), .int (0 : Int32), .int (0 : Int32)])), (q_18_10, .inl (cy 1, 10, .inl (fun _ => 0)))] := hD
  refine lv_aload_n hx hb dX10_init_23 rfl (lv_at hl 0 rfl) ?_
  refine lv_bipush (v := 10) hx hb dX10_init_24 (by decide) ?_
  refine nwa (atype := .int) (ty := .int) (N' := 10) (a0 := (10, .inl (fun _ => 0))) hx hb rfl (hw _ mx_1_124) hK hP hD hS hA 1 rfl (fun _ => rfl) (fun _ => rfl) (by decide) (by decide) (by decide) (Nat.le_of_ble_eq_true rfl) (Nat.le_of_ble_eq_true rfl) dX10_init_26 (fun q_26_14 H hP hD hS => ?_)
  replace hP : va_P D vwCl [(a_t, .inr (10, [.ref q_5_4, .ref q_18_10, .null])), (q_5_4, .inr (3, [.int (0 : Int32), .int (10 : Int32), .int (0 : Int32), .int (0 : Int32), .int (0 : Int32), .int (0 : Int32), .int (0 : Int32), .int (0 : Int32), .int (0 : Int32)])), (q_18_10, .inl (cy 1, 10, .inl (fun _ => 0))), (q_26_14, .inl (cy 1, 10, .inl (fun _ => 0)))] H := hP
  replace hD : va_D A [(a_t, .inr (10, [.ref q_5_4, .ref q_18_10, .null])), (q_5_4, .inr (3, [.int (0 : Int32), .int (10 : Int32), .int (0 : Int32), .int (0 : Int32), .int (0 : Int32), .int (0 : Int32), .int (0 : Int32), .int (0 : Int32), .int (0 : Int32)])), (q_18_10, .inl (cy 1, 10, .inl (fun _ => 0))), (q_26_14, .inl (cy 1, 10, .inl (fun _ => 0)))] := hD
  refine pf_X10_22 hx hb hw hown hin hK hP hD hS 0 rfl rfl rfl rfl dX10_init_28 (fun H locs hP hD hS => ?_)
  replace hP : va_P D vwCl [(a_t, .inr (10, [.ref q_5_4, .ref q_18_10, .ref q_26_14])), (q_5_4, .inr (3, [.int (0 : Int32), .int (10 : Int32), .int (0 : Int32), .int (0 : Int32), .int (0 : Int32), .int (0 : Int32), .int (0 : Int32), .int (0 : Int32), .int (0 : Int32)])), (q_18_10, .inl (cy 1, 10, .inl (fun _ => 0))), (q_26_14, .inl (cy 1, 10, .inl (fun _ => 0)))] H := hP
  replace hD : va_D A [(a_t, .inr (10, [.ref q_5_4, .ref q_18_10, .ref q_26_14])), (q_5_4, .inr (3, [.int (0 : Int32), .int (10 : Int32), .int (0 : Int32), .int (0 : Int32), .int (0 : Int32), .int (0 : Int32), .int (0 : Int32), .int (0 : Int32), .int (0 : Int32)])), (q_18_10, .inl (cy 1, 10, .inl (fun _ => 0))), (q_26_14, .inl (cy 1, 10, .inl (fun _ => 0)))] := hD
  refine W.widen (k := 3) (n := 29) (Nat.le_of_ble_eq_true rfl) (Nat.le_of_ble_eq_true rfl) ?_
  exact W.vret hx hb hr (fun t ht hW => ⟨⟨(q_5_4, q_18_10, q_26_14), rfl, trivial, by rw [ht]; exact hP, by rw [hAe]; exact hD⟩, hS.F ht⟩) hS.2.2 dX10_init_31
theorem mx_1_159 : Cond.methodLink RX5 3 objectInit ∈ LW := lw_1 (List.mem_of_getElem? (i := 159) (by decide +kernel)) (by decide +kernel)
theorem mx_1_161 : Cond.fieldLink RX5 9 "BoathouseKey$Rule" "acts" "[I" ∈ LW := lw_1 (List.mem_of_getElem? (i := 161) (by decide +kernel)) (by decide +kernel)
theorem pf_X5_9 {p : Program} {l : Launch} {e : Env} {R : Room} {s : State} {m : MethodId} {args : Array Value} {below : List Frame} {meth : Method} {c : Code} {H : Heap} {locs : List Loc} {cells slots : Nat} {Q : State → Prop} {cc : ByteArray} {pc : Nat} {ls : Array Slot} {rest : List Value} {D : va_G} {A : Nat → Prop} {a : Nat} {tys : List (ClassId × FieldType)} {ws : va_W} {H0 : Heap} (hx : p.tables.exec = Jvm.exec) (hb : c.code = cc) (hw : ∀ w ∈ LW, w.before args s = true) (hown : s.vm.findClass RX5 = some m.cls) (hin : meth.name = "<init>") (hK : va_K D vwCl tys s) (hP : va_P D vwCl ws H) (hD : va_D A ws) (hS : va_S A H0 H locs) (q0 : Nat) {fs : List Value} (he : ws[q0]? = some (a, .inr (5, fs))) {v : Value} (hn : narrow (tyX5 0) v = v) (hfit : fits (tyX5 0) v = true) (hl : Nat.ble (0 + 1) fs.length = true) (hdg : decode cc pc = .ok (.putfield 9, 3)) (kk : ∀ (H1 : Heap) (locs1 : List Loc), va_P D vwCl (ws.set q0 (a, .inr (5, fs.set 0 v))) H1 → va_D A (ws.set q0 (a, .inr (5, fs.set 0 v))) → va_S A H0 H1 locs1 → W p l e R s m args below meth c H1 locs1 cells slots Q (F0 m (pc + 3) ls rest)) : W p l e R s m args below meth c H locs cells slots Q (F0 m pc ls (v :: .ref a :: rest)) := va_putF hx hb hw i_X5 tyX5 tyX5_ok nmX5 hown hK hP hD hS q0 he rfl 0 (Nat.le_of_ble_eq_true rfl) (hw _ mx_1_161) (fun _ h => h) rfl hin rfl (tyX5_ok 0 (Nat.le_of_ble_eq_true rfl)) hn hfit (Nat.le_of_ble_eq_true hl) hdg kk
set_option maxHeartbeats 4000000 in
set_option maxRecDepth 100000 in
theorem t_X5_init {l : Launch} {D : va_G} {cy : Nat → ClassId} (a_t : Nat) (sz : Nat) : Ct (S := Nat) l yX5_init cX5_init 1 1 1 10 23 D cy [.ref a_t] [(a_t, .inr (5, [.null, .int 0]))] (fun u => [(a_t, .inr (5, [.ref u, .int (0 : Int32)])), (u, .inl (cy 1, 10, .inl (F_J7_fill_53178 10 (fun _ => 0) (4 : Int32))))]) sz := by
  refine Met.ofW (cc := cX5_init) (maxL := 1) (ret := none) (by decide) rfl ?_
  intro p e s m args below meth c s₁ B hml hv
  obtain ⟨rfl, hsz, hP, hG, hD0⟩ := hv
  subst hsz
  have hD := hD0.self (sz := s.heap.size)
  have hx := B.exec
  have hb := B.bytes
  have hr := B.returns
  have hlocks := B.notSynchronized
  have hown : s.vm.findClass RX5 = some m.cls := findClass_of_methodNamed B.named
  have hts := atoms_spec (ws := Cond.code yX5_init cX5_init 1 none :: LW) B.pre
  have hw : ∀ w ∈ LW, w.before _ s = true := fun w h => hts w (List.mem_cons_of_mem _ h)
  have hK := hG.1
  have hin : meth.name = "<init>" := (name_of_methodNamed B.named B.method).1
  generalize hAe : va_A [(a_t, .inr (5, [.null, .int 0]))] s.heap.size = A at hD ⊢
  have hA : ∀ q : Nat, s.heap.size ≤ q → A q := fun q h => by rw [← hAe]; exact Or.inr h
  have hS : va_S A s.heap s.heap [] := va_S.rf
  have hl := lv_entry ([.ref a_t]) (n := 1) (Nat.le_of_ble_eq_true rfl)
  rw [lg_entry_eq]
  generalize (lg_sl ([.ref a_t]) ++ List.replicate (1 - (lg_sl ([.ref a_t])).length) Slot.unset).toArray = ls at hl ⊢
  refine lv_aload_n hx hb dX5_init_0 rfl (lv_at hl 0 rfl) ?_
  refine W.objInit hx hb hown (hw _ mx_1_159) (hw _ mx_1_24) (hw _ mx_1_25) rfl (by rw [hml]; exact hl.1) rfl dX5_init_1 (Nat.le_of_ble_eq_true rfl) (Nat.le_of_ble_eq_true rfl) ?_
  refine W.eq (g2 := F0 m 4 ls []) rfl ?_
  refine lv_aload_n hx hb dX5_init_4 rfl (lv_at hl 0 rfl) ?_
  refine lv_bipush (v := 10) hx hb dX5_init_5 (by decide) ?_
  refine nwa (atype := .int) (ty := .int) (N' := 10) (a0 := (10, .inl (fun _ => 0))) hx hb rfl (hw _ mx_1_124) hK hP hD hS hA 1 rfl (fun _ => rfl) (fun _ => rfl) (by decide) (by decide) (by decide) (Nat.le_of_ble_eq_true rfl) (Nat.le_of_ble_eq_true rfl) dX5_init_7 (fun q_7_5 H hP hD hS => ?_)
  replace hP : va_P D vwCl [(a_t, .inr (5, [.null, .int 0])), (q_7_5, .inl (cy 1, 10, .inl (fun _ => 0)))] H := hP
  replace hD : va_D A [(a_t, .inr (5, [.null, .int 0])), (q_7_5, .inl (cy 1, 10, .inl (fun _ => 0)))] := hD
  refine pf_X5_9 hx hb hw hown hin hK hP hD hS 0 rfl rfl rfl rfl dX5_init_9 (fun H locs hP hD hS => ?_)
  replace hP : va_P D vwCl [(a_t, .inr (5, [.ref q_7_5, .int 0])), (q_7_5, .inl (cy 1, 10, .inl (fun _ => 0)))] H := hP
  replace hD : va_D A [(a_t, .inr (5, [.ref q_7_5, .int 0])), (q_7_5, .inl (cy 1, 10, .inl (fun _ => 0)))] := hD
  refine lv_aload_n hx hb dX5_init_12 rfl (lv_at hl 0 rfl) ?_
  refine lv_iconst (v := 0) hx hb dX5_init_13 (by decide) ?_
  refine p_X5_15 hx hb hw hown hK hP hD hS 0 rfl rfl rfl rfl dX5_init_14 (fun H locs hP hD hS => ?_)
  replace hP : va_P D vwCl [(a_t, .inr (5, [.ref q_7_5, .int (0 : Int32)])), (q_7_5, .inl (cy 1, 10, .inl (fun _ => 0)))] H := hP
  replace hD : va_D A [(a_t, .inr (5, [.ref q_7_5, .int (0 : Int32)])), (q_7_5, .inl (cy 1, 10, .inl (fun _ => 0)))] := hD
  refine lv_aload_n hx hb dX5_init_17 rfl (lv_at hl 0 rfl) ?_
  refine g_X5_9 hx hb hw hown hK hP 0 rfl rfl dX5_init_18 ?_
  refine lv_iconst (v := 4) hx hb dX5_init_21 (by decide) ?_
  refine wkVS (As := [.ref q_7_5, .int (4 : Int32)]) (rest := []) hx hb hml hown hts hG hP hD hS hA k_X5_19 (c_J7_fill_53178 (l := l) (D := D) (cy := cy) q_7_5 10 (fun _ => 0) (4 : Int32) H.size (fill_ok _ (by decide) _ _)) ⟨Nat.le_of_ble_eq_true rfl, Nat.le_of_ble_eq_true rfl⟩ [1] [0] [0, 1] (N := 2) rfl (by decide +kernel) rfl rfl hl.1 rfl (Nat.le_of_ble_eq_true rfl) ⟨Nat.le_of_ble_eq_true rfl, Nat.le_of_ble_eq_true rfl⟩ dX5_init_22 (fun u => [(a_t, .inr (5, [.ref q_7_5, .int (0 : Int32)])), (q_7_5, .inl (cy 1, 10, .inl u))]) (fun _ => rfl) (fun u_13 H locs e_13 hP hD hS => ?_)
  subst e_13
  replace hP : va_P D vwCl [(a_t, .inr (5, [.ref q_7_5, .int (0 : Int32)])), (q_7_5, .inl (cy 1, 10, .inl (F_J7_fill_53178 10 (fun _ => 0) (4 : Int32))))] H := hP
  replace hD : va_D A [(a_t, .inr (5, [.ref q_7_5, .int (0 : Int32)])), (q_7_5, .inl (cy 1, 10, .inl (F_J7_fill_53178 10 (fun _ => 0) (4 : Int32))))] := hD
  refine W.widen (k := 1) (n := 10) (Nat.le_of_ble_eq_true rfl) (Nat.le_of_ble_eq_true rfl) ?_
  exact W.vret hx hb hr (fun t ht hW => ⟨⟨q_7_5, rfl, trivial, by rw [ht]; exact hP, by rw [hAe]; exact hD⟩, hS.F ht⟩) hS.2.2 dX5_init_25
theorem mx_1_130 : Cond.methodLink RX2 3 objectInit ∈ LW := lw_1 (List.mem_of_getElem? (i := 130) (by decide +kernel)) (by decide +kernel)
theorem mx_1_137 : Cond.fieldLink RX2 30 "BoathouseKey$ClubReader" "busy" "[I" ∈ LW := lw_1 (List.mem_of_getElem? (i := 137) (by decide +kernel)) (by decide +kernel)
theorem pf_X2_30 {p : Program} {l : Launch} {e : Env} {R : Room} {s : State} {m : MethodId} {args : Array Value} {below : List Frame} {meth : Method} {c : Code} {H : Heap} {locs : List Loc} {cells slots : Nat} {Q : State → Prop} {cc : ByteArray} {pc : Nat} {ls : Array Slot} {rest : List Value} {D : va_G} {A : Nat → Prop} {a : Nat} {tys : List (ClassId × FieldType)} {ws : va_W} {H0 : Heap} (hx : p.tables.exec = Jvm.exec) (hb : c.code = cc) (hw : ∀ w ∈ LW, w.before args s = true) (hown : s.vm.findClass RX2 = some m.cls) (hin : meth.name = "<init>") (hK : va_K D vwCl tys s) (hP : va_P D vwCl ws H) (hD : va_D A ws) (hS : va_S A H0 H locs) (q0 : Nat) {fs : List Value} (he : ws[q0]? = some (a, .inr (2, fs))) {v : Value} (hn : narrow (tyX2 6) v = v) (hfit : fits (tyX2 6) v = true) (hl : Nat.ble (6 + 1) fs.length = true) (hdg : decode cc pc = .ok (.putfield 30, 3)) (kk : ∀ (H1 : Heap) (locs1 : List Loc), va_P D vwCl (ws.set q0 (a, .inr (2, fs.set 6 v))) H1 → va_D A (ws.set q0 (a, .inr (2, fs.set 6 v))) → va_S A H0 H1 locs1 → W p l e R s m args below meth c H1 locs1 cells slots Q (F0 m (pc + 3) ls rest)) : W p l e R s m args below meth c H locs cells slots Q (F0 m pc ls (v :: .ref a :: rest)) := va_putF hx hb hw i_X2 tyX2 tyX2_ok nmX2 hown hK hP hD hS q0 he rfl 6 (Nat.le_of_ble_eq_true rfl) (hw _ mx_1_137) (fun _ h => h) rfl hin rfl (tyX2_ok 6 (Nat.le_of_ble_eq_true rfl)) hn hfit (Nat.le_of_ble_eq_true hl) hdg kk
set_option maxHeartbeats 4000000 in
set_option maxRecDepth 100000 in
theorem t_X2_init {l : Launch} {D : va_G} {cy : Nat → ClassId} (a_t : Nat) (sz : Nat) : Ct (S := Nat) l yX2_init cX2_init 1 1 1 6 12 D cy [.ref a_t] [(a_t, .inr (2, [.int 0, .int 0, .int 0, .int 0, .int 0, .int 0, .null]))] (fun u => [(a_t, .inr (2, [.int (0 : Int32), .int (0 : Int32), .int (0 : Int32), .int (0 : Int32), .int (0 : Int32), .int (0 : Int32), .ref u])), (u, .inl (cy 1, 6, .inl (fun _ => 0)))]) sz := by
  refine Met.ofW (cc := cX2_init) (maxL := 1) (ret := none) (by decide) rfl ?_
  intro p e s m args below meth c s₁ B hml hv
  obtain ⟨rfl, hsz, hP, hG, hD0⟩ := hv
  subst hsz
  have hD := hD0.self (sz := s.heap.size)
  have hx := B.exec
  have hb := B.bytes
  have hr := B.returns
  have hlocks := B.notSynchronized
  have hown : s.vm.findClass RX2 = some m.cls := findClass_of_methodNamed B.named
  have hts := atoms_spec (ws := Cond.code yX2_init cX2_init 1 none :: LW) B.pre
  have hw : ∀ w ∈ LW, w.before _ s = true := fun w h => hts w (List.mem_cons_of_mem _ h)
  have hK := hG.1
  have hin : meth.name = "<init>" := (name_of_methodNamed B.named B.method).1
  generalize hAe : va_A [(a_t, .inr (2, [.int 0, .int 0, .int 0, .int 0, .int 0, .int 0, .null]))] s.heap.size = A at hD ⊢
  have hA : ∀ q : Nat, s.heap.size ≤ q → A q := fun q h => by rw [← hAe]; exact Or.inr h
  have hS : va_S A s.heap s.heap [] := va_S.rf
  have hl := lv_entry ([.ref a_t]) (n := 1) (Nat.le_of_ble_eq_true rfl)
  rw [lg_entry_eq]
  generalize (lg_sl ([.ref a_t]) ++ List.replicate (1 - (lg_sl ([.ref a_t])).length) Slot.unset).toArray = ls at hl ⊢
  refine lv_aload_n hx hb dX2_init_0 rfl (lv_at hl 0 rfl) ?_
  refine W.objInit hx hb hown (hw _ mx_1_130) (hw _ mx_1_24) (hw _ mx_1_25) rfl (by rw [hml]; exact hl.1) rfl dX2_init_1 (Nat.le_of_ble_eq_true rfl) (Nat.le_of_ble_eq_true rfl) ?_
  refine W.eq (g2 := F0 m 4 ls []) rfl ?_
  refine lv_aload_n hx hb dX2_init_4 rfl (lv_at hl 0 rfl) ?_
  refine lv_iconst (v := 0) hx hb dX2_init_5 (by decide) ?_
  refine p_X2_9 hx hb hw hown hK hP hD hS 0 rfl rfl rfl rfl dX2_init_6 (fun H locs hP hD hS => ?_)
  replace hP : va_P D vwCl [(a_t, .inr (2, [.int (0 : Int32), .int 0, .int 0, .int 0, .int 0, .int 0, .null]))] H := hP
  replace hD : va_D A [(a_t, .inr (2, [.int (0 : Int32), .int 0, .int 0, .int 0, .int 0, .int 0, .null]))] := hD
  refine lv_aload_n hx hb dX2_init_9 rfl (lv_at hl 0 rfl) ?_
  refine lv_iconst (v := 0) hx hb dX2_init_10 (by decide) ?_
  refine p_X2_15 hx hb hw hown hK hP hD hS 0 rfl rfl rfl rfl dX2_init_11 (fun H locs hP hD hS => ?_)
  replace hP : va_P D vwCl [(a_t, .inr (2, [.int (0 : Int32), .int (0 : Int32), .int 0, .int 0, .int 0, .int 0, .null]))] H := hP
  replace hD : va_D A [(a_t, .inr (2, [.int (0 : Int32), .int (0 : Int32), .int 0, .int 0, .int 0, .int 0, .null]))] := hD
  refine lv_aload_n hx hb dX2_init_14 rfl (lv_at hl 0 rfl) ?_
  refine lv_iconst (v := 0) hx hb dX2_init_15 (by decide) ?_
  refine p_X2_18 hx hb hw hown hK hP hD hS 0 rfl rfl rfl rfl dX2_init_16 (fun H locs hP hD hS => ?_)
  replace hP : va_P D vwCl [(a_t, .inr (2, [.int (0 : Int32), .int (0 : Int32), .int (0 : Int32), .int 0, .int 0, .int 0, .null]))] H := hP
  replace hD : va_D A [(a_t, .inr (2, [.int (0 : Int32), .int (0 : Int32), .int (0 : Int32), .int 0, .int 0, .int 0, .null]))] := hD
  refine lv_aload_n hx hb dX2_init_19 rfl (lv_at hl 0 rfl) ?_
  refine lv_iconst (v := 0) hx hb dX2_init_20 (by decide) ?_
  refine p_X2_21 hx hb hw hown hK hP hD hS 0 rfl rfl rfl rfl dX2_init_21 (fun H locs hP hD hS => ?_)
  replace hP : va_P D vwCl [(a_t, .inr (2, [.int (0 : Int32), .int (0 : Int32), .int (0 : Int32), .int (0 : Int32), .int 0, .int 0, .null]))] H := hP
  replace hD : va_D A [(a_t, .inr (2, [.int (0 : Int32), .int (0 : Int32), .int (0 : Int32), .int (0 : Int32), .int 0, .int 0, .null]))] := hD
  refine lv_aload_n hx hb dX2_init_24 rfl (lv_at hl 0 rfl) ?_
  refine lv_iconst (v := 0) hx hb dX2_init_25 (by decide) ?_
  refine p_X2_24 hx hb hw hown hK hP hD hS 0 rfl rfl rfl rfl dX2_init_26 (fun H locs hP hD hS => ?_)
  replace hP : va_P D vwCl [(a_t, .inr (2, [.int (0 : Int32), .int (0 : Int32), .int (0 : Int32), .int (0 : Int32), .int (0 : Int32), .int 0, .null]))] H := hP
  replace hD : va_D A [(a_t, .inr (2, [.int (0 : Int32), .int (0 : Int32), .int (0 : Int32), .int (0 : Int32), .int (0 : Int32), .int 0, .null]))] := hD
  refine lv_aload_n hx hb dX2_init_29 rfl (lv_at hl 0 rfl) ?_
  refine lv_iconst (v := 0) hx hb dX2_init_30 (by decide) ?_
  refine p_X2_27 hx hb hw hown hK hP hD hS 0 rfl rfl rfl rfl dX2_init_31 (fun H locs hP hD hS => ?_)
  replace hP : va_P D vwCl [(a_t, .inr (2, [.int (0 : Int32), .int (0 : Int32), .int (0 : Int32), .int (0 : Int32), .int (0 : Int32), .int (0 : Int32), .null]))] H := hP
  replace hD : va_D A [(a_t, .inr (2, [.int (0 : Int32), .int (0 : Int32), .int (0 : Int32), .int (0 : Int32), .int (0 : Int32), .int (0 : Int32), .null]))] := hD
  refine lv_aload_n hx hb dX2_init_34 rfl (lv_at hl 0 rfl) ?_
  refine lv_bipush (v := 6) hx hb dX2_init_35 (by decide) ?_
  refine nwa (atype := .int) (ty := .int) (N' := 6) (a0 := (6, .inl (fun _ => 0))) hx hb rfl (hw _ mx_1_124) hK hP hD hS hA 1 rfl (fun _ => rfl) (fun _ => rfl) (by decide) (by decide) (by decide) (Nat.le_of_ble_eq_true rfl) (Nat.le_of_ble_eq_true rfl) dX2_init_37 (fun q_37_23 H hP hD hS => ?_)
  replace hP : va_P D vwCl [(a_t, .inr (2, [.int (0 : Int32), .int (0 : Int32), .int (0 : Int32), .int (0 : Int32), .int (0 : Int32), .int (0 : Int32), .null])), (q_37_23, .inl (cy 1, 6, .inl (fun _ => 0)))] H := hP
  replace hD : va_D A [(a_t, .inr (2, [.int (0 : Int32), .int (0 : Int32), .int (0 : Int32), .int (0 : Int32), .int (0 : Int32), .int (0 : Int32), .null])), (q_37_23, .inl (cy 1, 6, .inl (fun _ => 0)))] := hD
  refine pf_X2_30 hx hb hw hown hin hK hP hD hS 0 rfl rfl rfl rfl dX2_init_39 (fun H locs hP hD hS => ?_)
  replace hP : va_P D vwCl [(a_t, .inr (2, [.int (0 : Int32), .int (0 : Int32), .int (0 : Int32), .int (0 : Int32), .int (0 : Int32), .int (0 : Int32), .ref q_37_23])), (q_37_23, .inl (cy 1, 6, .inl (fun _ => 0)))] H := hP
  replace hD : va_D A [(a_t, .inr (2, [.int (0 : Int32), .int (0 : Int32), .int (0 : Int32), .int (0 : Int32), .int (0 : Int32), .int (0 : Int32), .ref q_37_23])), (q_37_23, .inl (cy 1, 6, .inl (fun _ => 0)))] := hD
  refine W.widen (k := 1) (n := 6) (Nat.le_of_ble_eq_true rfl) (Nat.le_of_ble_eq_true rfl) ?_
  exact W.vret hx hb hr (fun t ht hW => ⟨⟨q_37_23, rfl, trivial, by rw [ht]; exact hP, by rw [hAe]; exact hD⟩, hS.F ht⟩) hS.2.2 dX2_init_42
theorem mx_1_174 : Cond.methodLink RX6 3 objectInit ∈ LW := lw_1 (List.mem_of_getElem? (i := 174) (by decide +kernel)) (by decide +kernel)
set_option maxHeartbeats 4000000 in
set_option maxRecDepth 100000 in
theorem t_X6_init {l : Launch} {D : va_G} {cy : Nat → ClassId} (a_t : Nat) (sz : Nat) : Ct (S := Unit) l yX6_init cX6_init 1 1 0 0 12 D cy [.ref a_t] [(a_t, .inr (6, [.int 0, .int 0, .int 0]))] (fun u => [(a_t, .inr (6, [.int (0 : Int32), .int (0 : Int32), .int (-9 : Int32)]))]) sz := by
  refine Met.ofW (cc := cX6_init) (maxL := 1) (ret := none) (by decide) rfl ?_
  intro p e s m args below meth c s₁ B hml hv
  obtain ⟨rfl, hsz, hP, hG, hD0⟩ := hv
  subst hsz
  have hD := hD0.self (sz := s.heap.size)
  have hx := B.exec
  have hb := B.bytes
  have hr := B.returns
  have hlocks := B.notSynchronized
  have hown : s.vm.findClass RX6 = some m.cls := findClass_of_methodNamed B.named
  have hts := atoms_spec (ws := Cond.code yX6_init cX6_init 1 none :: LW) B.pre
  have hw : ∀ w ∈ LW, w.before _ s = true := fun w h => hts w (List.mem_cons_of_mem _ h)
  have hK := hG.1
  have hin : meth.name = "<init>" := (name_of_methodNamed B.named B.method).1
  generalize hAe : va_A [(a_t, .inr (6, [.int 0, .int 0, .int 0]))] s.heap.size = A at hD ⊢
  have hA : ∀ q : Nat, s.heap.size ≤ q → A q := fun q h => by rw [← hAe]; exact Or.inr h
  have hS : va_S A s.heap s.heap [] := va_S.rf
  have hl := lv_entry ([.ref a_t]) (n := 1) (Nat.le_of_ble_eq_true rfl)
  rw [lg_entry_eq]
  generalize (lg_sl ([.ref a_t]) ++ List.replicate (1 - (lg_sl ([.ref a_t])).length) Slot.unset).toArray = ls at hl ⊢
  refine lv_aload_n hx hb dX6_init_0 rfl (lv_at hl 0 rfl) ?_
  refine W.objInit hx hb hown (hw _ mx_1_174) (hw _ mx_1_24) (hw _ mx_1_25) rfl (by rw [hml]; exact hl.1) rfl dX6_init_1 (Nat.le_of_ble_eq_true rfl) (Nat.le_of_ble_eq_true rfl) ?_
  refine W.eq (g2 := F0 m 4 ls []) rfl ?_
  refine lv_aload_n hx hb dX6_init_4 rfl (lv_at hl 0 rfl) ?_
  refine lv_iconst (v := 0) hx hb dX6_init_5 (by decide) ?_
  refine p_X6_9 hx hb hw hown hK hP hD hS 0 rfl rfl rfl rfl dX6_init_6 (fun H locs hP hD hS => ?_)
  replace hP : va_P D vwCl [(a_t, .inr (6, [.int (0 : Int32), .int 0, .int 0]))] H := hP
  replace hD : va_D A [(a_t, .inr (6, [.int (0 : Int32), .int 0, .int 0]))] := hD
  refine lv_aload_n hx hb dX6_init_9 rfl (lv_at hl 0 rfl) ?_
  refine lv_iconst (v := 0) hx hb dX6_init_10 (by decide) ?_
  refine p_X6_15 hx hb hw hown hK hP hD hS 0 rfl rfl rfl rfl dX6_init_11 (fun H locs hP hD hS => ?_)
  replace hP : va_P D vwCl [(a_t, .inr (6, [.int (0 : Int32), .int (0 : Int32), .int 0]))] H := hP
  replace hD : va_D A [(a_t, .inr (6, [.int (0 : Int32), .int (0 : Int32), .int 0]))] := hD
  refine lv_aload_n hx hb dX6_init_14 rfl (lv_at hl 0 rfl) ?_
  refine lv_bipush (v := -9) hx hb dX6_init_15 (by decide) ?_
  refine p_X6_18 hx hb hw hown hK hP hD hS 0 rfl rfl rfl rfl dX6_init_17 (fun H locs hP hD hS => ?_)
  replace hP : va_P D vwCl [(a_t, .inr (6, [.int (0 : Int32), .int (0 : Int32), .int (-9 : Int32)]))] H := hP
  replace hD : va_D A [(a_t, .inr (6, [.int (0 : Int32), .int (0 : Int32), .int (-9 : Int32)]))] := hD
  refine W.widen (k := 0) (n := 0) (Nat.le_of_ble_eq_true rfl) (Nat.le_of_ble_eq_true rfl) ?_
  exact W.vret hx hb hr (fun t ht hW => ⟨⟨(), rfl, trivial, by rw [ht]; exact hP, by rw [hAe]; exact hD⟩, hS.F ht⟩) hS.2.2 dX6_init_20
theorem mx_2_66 : Cond.methodLink RX8 3 objectInit ∈ LW := lw_2 (List.mem_of_getElem? (i := 66) (by decide +kernel)) (by decide +kernel)
theorem mx_2_69 : Cond.fieldLink RX8 9 "BoathouseKey$Steps" "next" "[I" ∈ LW := lw_2 (List.mem_of_getElem? (i := 69) (by decide +kernel)) (by decide +kernel)
theorem pf_X8_9 {p : Program} {l : Launch} {e : Env} {R : Room} {s : State} {m : MethodId} {args : Array Value} {below : List Frame} {meth : Method} {c : Code} {H : Heap} {locs : List Loc} {cells slots : Nat} {Q : State → Prop} {cc : ByteArray} {pc : Nat} {ls : Array Slot} {rest : List Value} {D : va_G} {A : Nat → Prop} {a : Nat} {tys : List (ClassId × FieldType)} {ws : va_W} {H0 : Heap} (hx : p.tables.exec = Jvm.exec) (hb : c.code = cc) (hw : ∀ w ∈ LW, w.before args s = true) (hown : s.vm.findClass RX8 = some m.cls) (hin : meth.name = "<init>") (hK : va_K D vwCl tys s) (hP : va_P D vwCl ws H) (hD : va_D A ws) (hS : va_S A H0 H locs) (q0 : Nat) {fs : List Value} (he : ws[q0]? = some (a, .inr (8, fs))) {v : Value} (hn : narrow (tyX8 0) v = v) (hfit : fits (tyX8 0) v = true) (hl : Nat.ble (0 + 1) fs.length = true) (hdg : decode cc pc = .ok (.putfield 9, 3)) (kk : ∀ (H1 : Heap) (locs1 : List Loc), va_P D vwCl (ws.set q0 (a, .inr (8, fs.set 0 v))) H1 → va_D A (ws.set q0 (a, .inr (8, fs.set 0 v))) → va_S A H0 H1 locs1 → W p l e R s m args below meth c H1 locs1 cells slots Q (F0 m (pc + 3) ls rest)) : W p l e R s m args below meth c H locs cells slots Q (F0 m pc ls (v :: .ref a :: rest)) := va_putF hx hb hw i_X8 tyX8 tyX8_ok nmX8 hown hK hP hD hS q0 he rfl 0 (Nat.le_of_ble_eq_true rfl) (hw _ mx_2_69) (fun _ h => h) rfl hin rfl (tyX8_ok 0 (Nat.le_of_ble_eq_true rfl)) hn hfit (Nat.le_of_ble_eq_true hl) hdg kk
theorem mx_2_70 : Cond.fieldLink RX8 15 "BoathouseKey$Steps" "walk" "[I" ∈ LW := lw_2 (List.mem_of_getElem? (i := 70) (by decide +kernel)) (by decide +kernel)
theorem pf_X8_15 {p : Program} {l : Launch} {e : Env} {R : Room} {s : State} {m : MethodId} {args : Array Value} {below : List Frame} {meth : Method} {c : Code} {H : Heap} {locs : List Loc} {cells slots : Nat} {Q : State → Prop} {cc : ByteArray} {pc : Nat} {ls : Array Slot} {rest : List Value} {D : va_G} {A : Nat → Prop} {a : Nat} {tys : List (ClassId × FieldType)} {ws : va_W} {H0 : Heap} (hx : p.tables.exec = Jvm.exec) (hb : c.code = cc) (hw : ∀ w ∈ LW, w.before args s = true) (hown : s.vm.findClass RX8 = some m.cls) (hin : meth.name = "<init>") (hK : va_K D vwCl tys s) (hP : va_P D vwCl ws H) (hD : va_D A ws) (hS : va_S A H0 H locs) (q0 : Nat) {fs : List Value} (he : ws[q0]? = some (a, .inr (8, fs))) {v : Value} (hn : narrow (tyX8 1) v = v) (hfit : fits (tyX8 1) v = true) (hl : Nat.ble (1 + 1) fs.length = true) (hdg : decode cc pc = .ok (.putfield 15, 3)) (kk : ∀ (H1 : Heap) (locs1 : List Loc), va_P D vwCl (ws.set q0 (a, .inr (8, fs.set 1 v))) H1 → va_D A (ws.set q0 (a, .inr (8, fs.set 1 v))) → va_S A H0 H1 locs1 → W p l e R s m args below meth c H1 locs1 cells slots Q (F0 m (pc + 3) ls rest)) : W p l e R s m args below meth c H locs cells slots Q (F0 m pc ls (v :: .ref a :: rest)) := va_putF hx hb hw i_X8 tyX8 tyX8_ok nmX8 hown hK hP hD hS q0 he rfl 1 (Nat.le_of_ble_eq_true rfl) (hw _ mx_2_70) (fun _ h => h) rfl hin rfl (tyX8_ok 1 (Nat.le_of_ble_eq_true rfl)) hn hfit (Nat.le_of_ble_eq_true hl) hdg kk
theorem mx_2_71 : Cond.fieldLink RX8 18 "BoathouseKey$Steps" "risk" "[I" ∈ LW := lw_2 (List.mem_of_getElem? (i := 71) (by decide +kernel)) (by decide +kernel)
theorem pf_X8_18 {p : Program} {l : Launch} {e : Env} {R : Room} {s : State} {m : MethodId} {args : Array Value} {below : List Frame} {meth : Method} {c : Code} {H : Heap} {locs : List Loc} {cells slots : Nat} {Q : State → Prop} {cc : ByteArray} {pc : Nat} {ls : Array Slot} {rest : List Value} {D : va_G} {A : Nat → Prop} {a : Nat} {tys : List (ClassId × FieldType)} {ws : va_W} {H0 : Heap} (hx : p.tables.exec = Jvm.exec) (hb : c.code = cc) (hw : ∀ w ∈ LW, w.before args s = true) (hown : s.vm.findClass RX8 = some m.cls) (hin : meth.name = "<init>") (hK : va_K D vwCl tys s) (hP : va_P D vwCl ws H) (hD : va_D A ws) (hS : va_S A H0 H locs) (q0 : Nat) {fs : List Value} (he : ws[q0]? = some (a, .inr (8, fs))) {v : Value} (hn : narrow (tyX8 2) v = v) (hfit : fits (tyX8 2) v = true) (hl : Nat.ble (2 + 1) fs.length = true) (hdg : decode cc pc = .ok (.putfield 18, 3)) (kk : ∀ (H1 : Heap) (locs1 : List Loc), va_P D vwCl (ws.set q0 (a, .inr (8, fs.set 2 v))) H1 → va_D A (ws.set q0 (a, .inr (8, fs.set 2 v))) → va_S A H0 H1 locs1 → W p l e R s m args below meth c H1 locs1 cells slots Q (F0 m (pc + 3) ls rest)) : W p l e R s m args below meth c H locs cells slots Q (F0 m pc ls (v :: .ref a :: rest)) := va_putF hx hb hw i_X8 tyX8 tyX8_ok nmX8 hown hK hP hD hS q0 he rfl 2 (Nat.le_of_ble_eq_true rfl) (hw _ mx_2_71) (fun _ h => h) rfl hin rfl (tyX8_ok 2 (Nat.le_of_ble_eq_true rfl)) hn hfit (Nat.le_of_ble_eq_true hl) hdg kk
theorem mx_2_72 : Cond.fieldLink RX8 21 "BoathouseKey$Steps" "acted" "[Z" ∈ LW := lw_2 (List.mem_of_getElem? (i := 72) (by decide +kernel)) (by decide +kernel)
theorem pf_X8_21 {p : Program} {l : Launch} {e : Env} {R : Room} {s : State} {m : MethodId} {args : Array Value} {below : List Frame} {meth : Method} {c : Code} {H : Heap} {locs : List Loc} {cells slots : Nat} {Q : State → Prop} {cc : ByteArray} {pc : Nat} {ls : Array Slot} {rest : List Value} {D : va_G} {A : Nat → Prop} {a : Nat} {tys : List (ClassId × FieldType)} {ws : va_W} {H0 : Heap} (hx : p.tables.exec = Jvm.exec) (hb : c.code = cc) (hw : ∀ w ∈ LW, w.before args s = true) (hown : s.vm.findClass RX8 = some m.cls) (hin : meth.name = "<init>") (hK : va_K D vwCl tys s) (hP : va_P D vwCl ws H) (hD : va_D A ws) (hS : va_S A H0 H locs) (q0 : Nat) {fs : List Value} (he : ws[q0]? = some (a, .inr (8, fs))) {v : Value} (hn : narrow (tyX8 3) v = v) (hfit : fits (tyX8 3) v = true) (hl : Nat.ble (3 + 1) fs.length = true) (hdg : decode cc pc = .ok (.putfield 21, 3)) (kk : ∀ (H1 : Heap) (locs1 : List Loc), va_P D vwCl (ws.set q0 (a, .inr (8, fs.set 3 v))) H1 → va_D A (ws.set q0 (a, .inr (8, fs.set 3 v))) → va_S A H0 H1 locs1 → W p l e R s m args below meth c H1 locs1 cells slots Q (F0 m (pc + 3) ls rest)) : W p l e R s m args below meth c H locs cells slots Q (F0 m pc ls (v :: .ref a :: rest)) := va_putF hx hb hw i_X8 tyX8 tyX8_ok nmX8 hown hK hP hD hS q0 he rfl 3 (Nat.le_of_ble_eq_true rfl) (hw _ mx_2_72) (fun _ h => h) rfl hin rfl (tyX8_ok 3 (Nat.le_of_ble_eq_true rfl)) hn hfit (Nat.le_of_ble_eq_true hl) hdg kk
theorem mx_2_67 : Cond.classLink RX8 25 RX3 ∈ LW := lw_2 (List.mem_of_getElem? (i := 67) (by decide +kernel)) (by decide +kernel)
theorem kt_X8_27 : LkJ RX8 27 yX3_init cX3_init 1 0 := ⟨List.mem_of_getElem? (i := 19) rfl, mx_1_188, mx_1_7, mx_1_189, ⟨by decide +kernel, by decide +kernel, by decide +kernel⟩, rfl⟩
theorem mx_2_73 : Cond.fieldLink RX8 28 "BoathouseKey$Steps" "probe" "LBoathouseKey$Live;" ∈ LW := lw_2 (List.mem_of_getElem? (i := 73) (by decide +kernel)) (by decide +kernel)
theorem pf_X8_28 {p : Program} {l : Launch} {e : Env} {R : Room} {s : State} {m : MethodId} {args : Array Value} {below : List Frame} {meth : Method} {c : Code} {H : Heap} {locs : List Loc} {cells slots : Nat} {Q : State → Prop} {cc : ByteArray} {pc : Nat} {ls : Array Slot} {rest : List Value} {D : va_G} {A : Nat → Prop} {a : Nat} {tys : List (ClassId × FieldType)} {ws : va_W} {H0 : Heap} (hx : p.tables.exec = Jvm.exec) (hb : c.code = cc) (hw : ∀ w ∈ LW, w.before args s = true) (hown : s.vm.findClass RX8 = some m.cls) (hin : meth.name = "<init>") (hK : va_K D vwCl tys s) (hP : va_P D vwCl ws H) (hD : va_D A ws) (hS : va_S A H0 H locs) (q0 : Nat) {fs : List Value} (he : ws[q0]? = some (a, .inr (8, fs))) {v : Value} (hn : narrow (tyX8 4) v = v) (hfit : fits (tyX8 4) v = true) (hl : Nat.ble (4 + 1) fs.length = true) (hdg : decode cc pc = .ok (.putfield 28, 3)) (kk : ∀ (H1 : Heap) (locs1 : List Loc), va_P D vwCl (ws.set q0 (a, .inr (8, fs.set 4 v))) H1 → va_D A (ws.set q0 (a, .inr (8, fs.set 4 v))) → va_S A H0 H1 locs1 → W p l e R s m args below meth c H1 locs1 cells slots Q (F0 m (pc + 3) ls rest)) : W p l e R s m args below meth c H locs cells slots Q (F0 m pc ls (v :: .ref a :: rest)) := va_putF hx hb hw i_X8 tyX8 tyX8_ok nmX8 hown hK hP hD hS q0 he rfl 4 (Nat.le_of_ble_eq_true rfl) (hw _ mx_2_73) (fun _ h => h) rfl hin rfl (tyX8_ok 4 (Nat.le_of_ble_eq_true rfl)) hn hfit (Nat.le_of_ble_eq_true hl) hdg kk
set_option maxHeartbeats 4000000 in
set_option maxRecDepth 100000 in
theorem t_X8_init {l : Launch} {D : va_G} {cy : Nat → ClassId} (a_t : Nat) (sz : Nat) : Ct (S := Nat × Nat × Nat × Nat × Nat) l yX8_init cX8_init 1 2 5 1549 32 D cy [.ref a_t] [(a_t, .inr (8, [.null, .null, .null, .null, .null]))] (fun u => [(a_t, .inr (8, [.ref (u.1), .ref (u.2.1), .ref (u.2.2.1), .ref (u.2.2.2.1), .ref (u.2.2.2.2)])), ((u.1), .inl (cy 1, 660, .inl (fun _ => 0))), ((u.2.1), .inl (cy 1, 660, .inl (fun _ => 0))), ((u.2.2.1), .inl (cy 1, 110, .inl (fun _ => 0))), ((u.2.2.2.1), .inl (cy 3, 110, .inl (fun _ => 0))), ((u.2.2.2.2), .inr (3, [.int (0 : Int32), .int (10 : Int32), .int (0 : Int32), .int (0 : Int32), .int (0 : Int32), .int (0 : Int32), .int (0 : Int32), .int (0 : Int32), .int (0 : Int32)]))]) sz := by
  refine Met.ofW (cc := cX8_init) (maxL := 1) (ret := none) (by decide) rfl ?_
  intro p e s m args below meth c s₁ B hml hv
  obtain ⟨rfl, hsz, hP, hG, hD0⟩ := hv
  subst hsz
  have hD := hD0.self (sz := s.heap.size)
  have hx := B.exec
  have hb := B.bytes
  have hr := B.returns
  have hlocks := B.notSynchronized
  have hown : s.vm.findClass RX8 = some m.cls := findClass_of_methodNamed B.named
  have hts := atoms_spec (ws := Cond.code yX8_init cX8_init 1 none :: LW) B.pre
  have hw : ∀ w ∈ LW, w.before _ s = true := fun w h => hts w (List.mem_cons_of_mem _ h)
  have hK := hG.1
  have hin : meth.name = "<init>" := (name_of_methodNamed B.named B.method).1
  generalize hAe : va_A [(a_t, .inr (8, [.null, .null, .null, .null, .null]))] s.heap.size = A at hD ⊢
  have hA : ∀ q : Nat, s.heap.size ≤ q → A q := fun q h => by rw [← hAe]; exact Or.inr h
  have hS : va_S A s.heap s.heap [] := va_S.rf
  have hl := lv_entry ([.ref a_t]) (n := 1) (Nat.le_of_ble_eq_true rfl)
  rw [lg_entry_eq]
  generalize (lg_sl ([.ref a_t]) ++ List.replicate (1 - (lg_sl ([.ref a_t])).length) Slot.unset).toArray = ls at hl ⊢
  refine lv_aload_n hx hb dX8_init_0 rfl (lv_at hl 0 rfl) ?_
  refine W.objInit hx hb hown (hw _ mx_2_66) (hw _ mx_1_24) (hw _ mx_1_25) rfl (by rw [hml]; exact hl.1) rfl dX8_init_1 (Nat.le_of_ble_eq_true rfl) (Nat.le_of_ble_eq_true rfl) ?_
  refine W.eq (g2 := F0 m 4 ls []) rfl ?_
  refine lv_aload_n hx hb dX8_init_4 rfl (lv_at hl 0 rfl) ?_
  refine lv_sipush (v := 660) hx hb dX8_init_5 (by decide) ?_
  refine nwa (atype := .int) (ty := .int) (N' := 660) (a0 := (660, .inl (fun _ => 0))) hx hb rfl (hw _ mx_1_124) hK hP hD hS hA 1 rfl (fun _ => rfl) (fun _ => rfl) (by decide) (by decide) (by decide) (Nat.le_of_ble_eq_true rfl) (Nat.le_of_ble_eq_true rfl) dX8_init_8 (fun q_8_5 H hP hD hS => ?_)
  replace hP : va_P D vwCl [(a_t, .inr (8, [.null, .null, .null, .null, .null])), (q_8_5, .inl (cy 1, 660, .inl (fun _ => 0)))] H := hP
  replace hD : va_D A [(a_t, .inr (8, [.null, .null, .null, .null, .null])), (q_8_5, .inl (cy 1, 660, .inl (fun _ => 0)))] := hD
  refine pf_X8_9 hx hb hw hown hin hK hP hD hS 0 rfl rfl rfl rfl dX8_init_10 (fun H locs hP hD hS => ?_)
  replace hP : va_P D vwCl [(a_t, .inr (8, [.ref q_8_5, .null, .null, .null, .null])), (q_8_5, .inl (cy 1, 660, .inl (fun _ => 0)))] H := hP
  replace hD : va_D A [(a_t, .inr (8, [.ref q_8_5, .null, .null, .null, .null])), (q_8_5, .inl (cy 1, 660, .inl (fun _ => 0)))] := hD
  refine lv_aload_n hx hb dX8_init_13 rfl (lv_at hl 0 rfl) ?_
  refine lv_sipush (v := 660) hx hb dX8_init_14 (by decide) ?_
  refine nwa (atype := .int) (ty := .int) (N' := 660) (a0 := (660, .inl (fun _ => 0))) hx hb rfl (hw _ mx_1_124) hK hP hD hS hA 1 rfl (fun _ => rfl) (fun _ => rfl) (by decide) (by decide) (by decide) (Nat.le_of_ble_eq_true rfl) (Nat.le_of_ble_eq_true rfl) dX8_init_17 (fun q_17_9 H hP hD hS => ?_)
  replace hP : va_P D vwCl [(a_t, .inr (8, [.ref q_8_5, .null, .null, .null, .null])), (q_8_5, .inl (cy 1, 660, .inl (fun _ => 0))), (q_17_9, .inl (cy 1, 660, .inl (fun _ => 0)))] H := hP
  replace hD : va_D A [(a_t, .inr (8, [.ref q_8_5, .null, .null, .null, .null])), (q_8_5, .inl (cy 1, 660, .inl (fun _ => 0))), (q_17_9, .inl (cy 1, 660, .inl (fun _ => 0)))] := hD
  refine pf_X8_15 hx hb hw hown hin hK hP hD hS 0 rfl rfl rfl rfl dX8_init_19 (fun H locs hP hD hS => ?_)
  replace hP : va_P D vwCl [(a_t, .inr (8, [.ref q_8_5, .ref q_17_9, .null, .null, .null])), (q_8_5, .inl (cy 1, 660, .inl (fun _ => 0))), (q_17_9, .inl (cy 1, 660, .inl (fun _ => 0)))] H := hP
  replace hD : va_D A [(a_t, .inr (8, [.ref q_8_5, .ref q_17_9, .null, .null, .null])), (q_8_5, .inl (cy 1, 660, .inl (fun _ => 0))), (q_17_9, .inl (cy 1, 660, .inl (fun _ => 0)))] := hD
  refine lv_aload_n hx hb dX8_init_22 rfl (lv_at hl 0 rfl) ?_
  refine lv_bipush (v := 110) hx hb dX8_init_23 (by decide) ?_
  refine nwa (atype := .int) (ty := .int) (N' := 110) (a0 := (110, .inl (fun _ => 0))) hx hb rfl (hw _ mx_1_124) hK hP hD hS hA 1 rfl (fun _ => rfl) (fun _ => rfl) (by decide) (by decide) (by decide) (Nat.le_of_ble_eq_true rfl) (Nat.le_of_ble_eq_true rfl) dX8_init_25 (fun q_25_13 H hP hD hS => ?_)
  replace hP : va_P D vwCl [(a_t, .inr (8, [.ref q_8_5, .ref q_17_9, .null, .null, .null])), (q_8_5, .inl (cy 1, 660, .inl (fun _ => 0))), (q_17_9, .inl (cy 1, 660, .inl (fun _ => 0))), (q_25_13, .inl (cy 1, 110, .inl (fun _ => 0)))] H := hP
  replace hD : va_D A [(a_t, .inr (8, [.ref q_8_5, .ref q_17_9, .null, .null, .null])), (q_8_5, .inl (cy 1, 660, .inl (fun _ => 0))), (q_17_9, .inl (cy 1, 660, .inl (fun _ => 0))), (q_25_13, .inl (cy 1, 110, .inl (fun _ => 0)))] := hD
  refine pf_X8_18 hx hb hw hown hin hK hP hD hS 0 rfl rfl rfl rfl dX8_init_27 (fun H locs hP hD hS => ?_)
  replace hP : va_P D vwCl [(a_t, .inr (8, [.ref q_8_5, .ref q_17_9, .ref q_25_13, .null, .null])), (q_8_5, .inl (cy 1, 660, .inl (fun _ => 0))), (q_17_9, .inl (cy 1, 660, .inl (fun _ => 0))), (q_25_13, .inl (cy 1, 110, .inl (fun _ => 0)))] H := hP
  replace hD : va_D A [(a_t, .inr (8, [.ref q_8_5, .ref q_17_9, .ref q_25_13, .null, .null])), (q_8_5, .inl (cy 1, 660, .inl (fun _ => 0))), (q_17_9, .inl (cy 1, 660, .inl (fun _ => 0))), (q_25_13, .inl (cy 1, 110, .inl (fun _ => 0)))] := hD
  refine lv_aload_n hx hb dX8_init_30 rfl (lv_at hl 0 rfl) ?_
  refine lv_bipush (v := 110) hx hb dX8_init_31 (by decide) ?_
  refine nwa (atype := .boolean) (ty := .boolean) (N' := 110) (a0 := (110, .inl (fun _ => 0))) hx hb rfl (hw _ mx_2_25) hK hP hD hS hA 3 rfl (fun _ => rfl) (fun _ => rfl) (by decide) (by decide) (by decide) (Nat.le_of_ble_eq_true rfl) (Nat.le_of_ble_eq_true rfl) dX8_init_33 (fun q_33_17 H hP hD hS => ?_)
  replace hP : va_P D vwCl [(a_t, .inr (8, [.ref q_8_5, .ref q_17_9, .ref q_25_13, .null, .null])), (q_8_5, .inl (cy 1, 660, .inl (fun _ => 0))), (q_17_9, .inl (cy 1, 660, .inl (fun _ => 0))), (q_25_13, .inl (cy 1, 110, .inl (fun _ => 0))), (q_33_17, .inl (cy 3, 110, .inl (fun _ => 0)))] H := hP
  replace hD : va_D A [(a_t, .inr (8, [.ref q_8_5, .ref q_17_9, .ref q_25_13, .null, .null])), (q_8_5, .inl (cy 1, 660, .inl (fun _ => 0))), (q_17_9, .inl (cy 1, 660, .inl (fun _ => 0))), (q_25_13, .inl (cy 1, 110, .inl (fun _ => 0))), (q_33_17, .inl (cy 3, 110, .inl (fun _ => 0)))] := hD
  refine pf_X8_21 hx hb hw hown hin hK hP hD hS 0 rfl rfl rfl rfl dX8_init_35 (fun H locs hP hD hS => ?_)
  replace hP : va_P D vwCl [(a_t, .inr (8, [.ref q_8_5, .ref q_17_9, .ref q_25_13, .ref q_33_17, .null])), (q_8_5, .inl (cy 1, 660, .inl (fun _ => 0))), (q_17_9, .inl (cy 1, 660, .inl (fun _ => 0))), (q_25_13, .inl (cy 1, 110, .inl (fun _ => 0))), (q_33_17, .inl (cy 3, 110, .inl (fun _ => 0)))] H := hP
  replace hD : va_D A [(a_t, .inr (8, [.ref q_8_5, .ref q_17_9, .ref q_25_13, .ref q_33_17, .null])), (q_8_5, .inl (cy 1, 660, .inl (fun _ => 0))), (q_17_9, .inl (cy 1, 660, .inl (fun _ => 0))), (q_25_13, .inl (cy 1, 110, .inl (fun _ => 0))), (q_33_17, .inl (cy 3, 110, .inl (fun _ => 0)))] := hD
  refine lv_aload_n hx hb dX8_init_38 rfl (lv_at hl 0 rfl) ?_
  refine va_new (ci := 3) (fs := [.int 0, .int 0, .int 0, .int 0, .int 0, .int 0, .int 0, .int 0, .int 0]) (C := RX3) (T := TX3) (N := 9) hx hb hw i_X3 tyX3 tyX3_ok hown (hw _ mx_2_67) (hw _ mx_1_186) (hw _ mx_1_7) hK hP hD hS hA rfl (fun j hj => by match j, hj with | 0, _ => rfl | 1, _ => rfl | 2, _ => rfl | 3, _ => rfl | 4, _ => rfl | 5, _ => rfl | 6, _ => rfl | 7, _ => rfl | 8, _ => rfl | j + 9, h => exact absurd h (by omega)) (Nat.le_of_ble_eq_true rfl) (Nat.le_of_ble_eq_true rfl) dX8_init_39 (fun q_39_20 H hP hD hS => ?_)
  replace hP : va_P D vwCl [(a_t, .inr (8, [.ref q_8_5, .ref q_17_9, .ref q_25_13, .ref q_33_17, .null])), (q_8_5, .inl (cy 1, 660, .inl (fun _ => 0))), (q_17_9, .inl (cy 1, 660, .inl (fun _ => 0))), (q_25_13, .inl (cy 1, 110, .inl (fun _ => 0))), (q_33_17, .inl (cy 3, 110, .inl (fun _ => 0))), (q_39_20, .inr (3, [.int 0, .int 0, .int 0, .int 0, .int 0, .int 0, .int 0, .int 0, .int 0]))] H := hP
  replace hD : va_D A [(a_t, .inr (8, [.ref q_8_5, .ref q_17_9, .ref q_25_13, .ref q_33_17, .null])), (q_8_5, .inl (cy 1, 660, .inl (fun _ => 0))), (q_17_9, .inl (cy 1, 660, .inl (fun _ => 0))), (q_25_13, .inl (cy 1, 110, .inl (fun _ => 0))), (q_33_17, .inl (cy 3, 110, .inl (fun _ => 0))), (q_39_20, .inr (3, [.int 0, .int 0, .int 0, .int 0, .int 0, .int 0, .int 0, .int 0, .int 0]))] := hD
  refine lv_dup hx hb dX8_init_42 rfl ?_
  refine ctJ (As := []) (rest := [.ref q_39_20, .ref a_t]) hx hb hml hown hts hG hP hD hS hA kt_X8_27 (t_X3_init (l := l) (D := D) (cy := cy) q_39_20 H.size) ⟨Nat.le_of_ble_eq_true rfl, Nat.le_of_ble_eq_true rfl⟩ [5] [0, 1, 2, 3, 4] (N := 6) rfl (by decide +kernel) rfl rfl hl.1 rfl (Nat.le_of_ble_eq_true rfl) ⟨Nat.le_of_ble_eq_true rfl, Nat.le_of_ble_eq_true rfl⟩ dX8_init_43 (fun u_22 H locs hP hD hS => ?_)
  replace hP : va_P D vwCl [(a_t, .inr (8, [.ref q_8_5, .ref q_17_9, .ref q_25_13, .ref q_33_17, .null])), (q_8_5, .inl (cy 1, 660, .inl (fun _ => 0))), (q_17_9, .inl (cy 1, 660, .inl (fun _ => 0))), (q_25_13, .inl (cy 1, 110, .inl (fun _ => 0))), (q_33_17, .inl (cy 3, 110, .inl (fun _ => 0))), (q_39_20, .inr (3, [.int (0 : Int32), .int (10 : Int32), .int (0 : Int32), .int (0 : Int32), .int (0 : Int32), .int (0 : Int32), .int (0 : Int32), .int (0 : Int32), .int (0 : Int32)]))] H := hP
  replace hD : va_D A [(a_t, .inr (8, [.ref q_8_5, .ref q_17_9, .ref q_25_13, .ref q_33_17, .null])), (q_8_5, .inl (cy 1, 660, .inl (fun _ => 0))), (q_17_9, .inl (cy 1, 660, .inl (fun _ => 0))), (q_25_13, .inl (cy 1, 110, .inl (fun _ => 0))), (q_33_17, .inl (cy 3, 110, .inl (fun _ => 0))), (q_39_20, .inr (3, [.int (0 : Int32), .int (10 : Int32), .int (0 : Int32), .int (0 : Int32), .int (0 : Int32), .int (0 : Int32), .int (0 : Int32), .int (0 : Int32), .int (0 : Int32)]))] := hD
  refine pf_X8_28 hx hb hw hown hin hK hP hD hS 0 rfl rfl rfl rfl dX8_init_46 (fun H locs hP hD hS => ?_)
  replace hP : va_P D vwCl [(a_t, .inr (8, [.ref q_8_5, .ref q_17_9, .ref q_25_13, .ref q_33_17, .ref q_39_20])), (q_8_5, .inl (cy 1, 660, .inl (fun _ => 0))), (q_17_9, .inl (cy 1, 660, .inl (fun _ => 0))), (q_25_13, .inl (cy 1, 110, .inl (fun _ => 0))), (q_33_17, .inl (cy 3, 110, .inl (fun _ => 0))), (q_39_20, .inr (3, [.int (0 : Int32), .int (10 : Int32), .int (0 : Int32), .int (0 : Int32), .int (0 : Int32), .int (0 : Int32), .int (0 : Int32), .int (0 : Int32), .int (0 : Int32)]))] H := hP
  replace hD : va_D A [(a_t, .inr (8, [.ref q_8_5, .ref q_17_9, .ref q_25_13, .ref q_33_17, .ref q_39_20])), (q_8_5, .inl (cy 1, 660, .inl (fun _ => 0))), (q_17_9, .inl (cy 1, 660, .inl (fun _ => 0))), (q_25_13, .inl (cy 1, 110, .inl (fun _ => 0))), (q_33_17, .inl (cy 3, 110, .inl (fun _ => 0))), (q_39_20, .inr (3, [.int (0 : Int32), .int (10 : Int32), .int (0 : Int32), .int (0 : Int32), .int (0 : Int32), .int (0 : Int32), .int (0 : Int32), .int (0 : Int32), .int (0 : Int32)]))] := hD
  refine W.widen (k := 5) (n := 1549) (Nat.le_of_ble_eq_true rfl) (Nat.le_of_ble_eq_true rfl) ?_
  exact W.vret hx hb hr (fun t ht hW => ⟨⟨(q_8_5, q_17_9, q_25_13, q_33_17, q_39_20), rfl, trivial, by rw [ht]; exact hP, by rw [hAe]; exact hD⟩, hS.F ht⟩) hS.2.2 dX8_init_49
theorem mx_2_90 : Cond.methodLink RX9 3 objectInit ∈ LW := lw_2 (List.mem_of_getElem? (i := 90) (by decide +kernel)) (by decide +kernel)
theorem mx_2_95 : Cond.fieldLink RX9 18 "BoathouseKey$Ways" "acts" "[I" ∈ LW := lw_2 (List.mem_of_getElem? (i := 95) (by decide +kernel)) (by decide +kernel)
theorem pf_X9_18 {p : Program} {l : Launch} {e : Env} {R : Room} {s : State} {m : MethodId} {args : Array Value} {below : List Frame} {meth : Method} {c : Code} {H : Heap} {locs : List Loc} {cells slots : Nat} {Q : State → Prop} {cc : ByteArray} {pc : Nat} {ls : Array Slot} {rest : List Value} {D : va_G} {A : Nat → Prop} {a : Nat} {tys : List (ClassId × FieldType)} {ws : va_W} {H0 : Heap} (hx : p.tables.exec = Jvm.exec) (hb : c.code = cc) (hw : ∀ w ∈ LW, w.before args s = true) (hown : s.vm.findClass RX9 = some m.cls) (hin : meth.name = "<init>") (hK : va_K D vwCl tys s) (hP : va_P D vwCl ws H) (hD : va_D A ws) (hS : va_S A H0 H locs) (q0 : Nat) {fs : List Value} (he : ws[q0]? = some (a, .inr (9, fs))) {v : Value} (hn : narrow (tyX9 2) v = v) (hfit : fits (tyX9 2) v = true) (hl : Nat.ble (2 + 1) fs.length = true) (hdg : decode cc pc = .ok (.putfield 18, 3)) (kk : ∀ (H1 : Heap) (locs1 : List Loc), va_P D vwCl (ws.set q0 (a, .inr (9, fs.set 2 v))) H1 → va_D A (ws.set q0 (a, .inr (9, fs.set 2 v))) → va_S A H0 H1 locs1 → W p l e R s m args below meth c H1 locs1 cells slots Q (F0 m (pc + 3) ls rest)) : W p l e R s m args below meth c H locs cells slots Q (F0 m pc ls (v :: .ref a :: rest)) := va_putF hx hb hw i_X9 tyX9 tyX9_ok nmX9 hown hK hP hD hS q0 he rfl 2 (Nat.le_of_ble_eq_true rfl) (hw _ mx_2_95) (fun _ h => h) rfl hin rfl (tyX9_ok 2 (Nat.le_of_ble_eq_true rfl)) hn hfit (Nat.le_of_ble_eq_true hl) hdg kk
theorem mx_2_100 : Cond.fieldLink RX9 28 "BoathouseKey$Ways" "priceToGo" "[I" ∈ LW := lw_2 (List.mem_of_getElem? (i := 100) (by decide +kernel)) (by decide +kernel)
theorem pf_X9_28 {p : Program} {l : Launch} {e : Env} {R : Room} {s : State} {m : MethodId} {args : Array Value} {below : List Frame} {meth : Method} {c : Code} {H : Heap} {locs : List Loc} {cells slots : Nat} {Q : State → Prop} {cc : ByteArray} {pc : Nat} {ls : Array Slot} {rest : List Value} {D : va_G} {A : Nat → Prop} {a : Nat} {tys : List (ClassId × FieldType)} {ws : va_W} {H0 : Heap} (hx : p.tables.exec = Jvm.exec) (hb : c.code = cc) (hw : ∀ w ∈ LW, w.before args s = true) (hown : s.vm.findClass RX9 = some m.cls) (hin : meth.name = "<init>") (hK : va_K D vwCl tys s) (hP : va_P D vwCl ws H) (hD : va_D A ws) (hS : va_S A H0 H locs) (q0 : Nat) {fs : List Value} (he : ws[q0]? = some (a, .inr (9, fs))) {v : Value} (hn : narrow (tyX9 6) v = v) (hfit : fits (tyX9 6) v = true) (hl : Nat.ble (6 + 1) fs.length = true) (hdg : decode cc pc = .ok (.putfield 28, 3)) (kk : ∀ (H1 : Heap) (locs1 : List Loc), va_P D vwCl (ws.set q0 (a, .inr (9, fs.set 6 v))) H1 → va_D A (ws.set q0 (a, .inr (9, fs.set 6 v))) → va_S A H0 H1 locs1 → W p l e R s m args below meth c H1 locs1 cells slots Q (F0 m (pc + 3) ls rest)) : W p l e R s m args below meth c H locs cells slots Q (F0 m pc ls (v :: .ref a :: rest)) := va_putF hx hb hw i_X9 tyX9 tyX9_ok nmX9 hown hK hP hD hS q0 he rfl 6 (Nat.le_of_ble_eq_true rfl) (hw _ mx_2_100) (fun _ h => h) rfl hin rfl (tyX9_ok 6 (Nat.le_of_ble_eq_true rfl)) hn hfit (Nat.le_of_ble_eq_true hl) hdg kk
theorem mx_2_99 : Cond.fieldLink RX9 31 "BoathouseKey$Ways" "steps" "LBoathouseKey$Steps;" ∈ LW := lw_2 (List.mem_of_getElem? (i := 99) (by decide +kernel)) (by decide +kernel)
theorem pf_X9_31 {p : Program} {l : Launch} {e : Env} {R : Room} {s : State} {m : MethodId} {args : Array Value} {below : List Frame} {meth : Method} {c : Code} {H : Heap} {locs : List Loc} {cells slots : Nat} {Q : State → Prop} {cc : ByteArray} {pc : Nat} {ls : Array Slot} {rest : List Value} {D : va_G} {A : Nat → Prop} {a : Nat} {tys : List (ClassId × FieldType)} {ws : va_W} {H0 : Heap} (hx : p.tables.exec = Jvm.exec) (hb : c.code = cc) (hw : ∀ w ∈ LW, w.before args s = true) (hown : s.vm.findClass RX9 = some m.cls) (hin : meth.name = "<init>") (hK : va_K D vwCl tys s) (hP : va_P D vwCl ws H) (hD : va_D A ws) (hS : va_S A H0 H locs) (q0 : Nat) {fs : List Value} (he : ws[q0]? = some (a, .inr (9, fs))) {v : Value} (hn : narrow (tyX9 5) v = v) (hfit : fits (tyX9 5) v = true) (hl : Nat.ble (5 + 1) fs.length = true) (hdg : decode cc pc = .ok (.putfield 31, 3)) (kk : ∀ (H1 : Heap) (locs1 : List Loc), va_P D vwCl (ws.set q0 (a, .inr (9, fs.set 5 v))) H1 → va_D A (ws.set q0 (a, .inr (9, fs.set 5 v))) → va_S A H0 H1 locs1 → W p l e R s m args below meth c H1 locs1 cells slots Q (F0 m (pc + 3) ls rest)) : W p l e R s m args below meth c H locs cells slots Q (F0 m pc ls (v :: .ref a :: rest)) := va_putF hx hb hw i_X9 tyX9 tyX9_ok nmX9 hown hK hP hD hS q0 he rfl 5 (Nat.le_of_ble_eq_true rfl) (hw _ mx_2_99) (fun _ h => h) rfl hin rfl (tyX9_ok 5 (Nat.le_of_ble_eq_true rfl)) hn hfit (Nat.le_of_ble_eq_true hl) hdg kk
set_option maxHeartbeats 4000000 in
set_option maxRecDepth 100000 in
theorem t_X9_init {l : Launch} {D : va_G} {cy : Nat → ClassId} (a_t : Nat) (b_1 : Nat) (sz : Nat) : Ct (S := Nat × Nat) l yX9_init cX9_init 2 1 2 131 12 D cy [.ref a_t, .ref b_1] [(a_t, .inr (9, [.int 0, .int 0, .null, .int 0, .int 0, .null, .null]))] (fun u => [(a_t, .inr (9, [.int (-9 : Int32), .int (-9 : Int32), .ref (u.1), .int (0 : Int32), .int (0 : Int32), .ref b_1, .ref (u.2)])), ((u.1), .inl (cy 1, 10, .inl (fun _ => 0))), ((u.2), .inl (cy 1, 121, .inl (fun _ => 0)))]) sz := by
  refine Met.ofW (cc := cX9_init) (maxL := 2) (ret := none) (by decide) rfl ?_
  intro p e s m args below meth c s₁ B hml hv
  obtain ⟨rfl, hsz, hP, hG, hD0⟩ := hv
  subst hsz
  have hD := hD0.self (sz := s.heap.size)
  have hx := B.exec
  have hb := B.bytes
  have hr := B.returns
  have hlocks := B.notSynchronized
  have hown : s.vm.findClass RX9 = some m.cls := findClass_of_methodNamed B.named
  have hts := atoms_spec (ws := Cond.code yX9_init cX9_init 2 none :: LW) B.pre
  have hw : ∀ w ∈ LW, w.before _ s = true := fun w h => hts w (List.mem_cons_of_mem _ h)
  have hK := hG.1
  have hin : meth.name = "<init>" := (name_of_methodNamed B.named B.method).1
  generalize hAe : va_A [(a_t, .inr (9, [.int 0, .int 0, .null, .int 0, .int 0, .null, .null]))] s.heap.size = A at hD ⊢
  have hA : ∀ q : Nat, s.heap.size ≤ q → A q := fun q h => by rw [← hAe]; exact Or.inr h
  have hS : va_S A s.heap s.heap [] := va_S.rf
  have hl := lv_entry ([.ref a_t, .ref b_1]) (n := 2) (Nat.le_of_ble_eq_true rfl)
  rw [lg_entry_eq]
  generalize (lg_sl ([.ref a_t, .ref b_1]) ++ List.replicate (2 - (lg_sl ([.ref a_t, .ref b_1])).length) Slot.unset).toArray = ls at hl ⊢
  refine lv_aload_n hx hb dX9_init_0 rfl (lv_at hl 0 rfl) ?_
  refine W.objInit hx hb hown (hw _ mx_2_90) (hw _ mx_1_24) (hw _ mx_1_25) rfl (by rw [hml]; exact hl.1) rfl dX9_init_1 (Nat.le_of_ble_eq_true rfl) (Nat.le_of_ble_eq_true rfl) ?_
  refine W.eq (g2 := F0 m 4 ls []) rfl ?_
  refine lv_aload_n hx hb dX9_init_4 rfl (lv_at hl 0 rfl) ?_
  refine lv_bipush (v := -9) hx hb dX9_init_5 (by decide) ?_
  refine p_X9_9 hx hb hw hown hK hP hD hS 0 rfl rfl rfl rfl dX9_init_7 (fun H locs hP hD hS => ?_)
  replace hP : va_P D vwCl [(a_t, .inr (9, [.int (-9 : Int32), .int 0, .null, .int 0, .int 0, .null, .null]))] H := hP
  replace hD : va_D A [(a_t, .inr (9, [.int (-9 : Int32), .int 0, .null, .int 0, .int 0, .null, .null]))] := hD
  refine lv_aload_n hx hb dX9_init_10 rfl (lv_at hl 0 rfl) ?_
  refine lv_bipush (v := -9) hx hb dX9_init_11 (by decide) ?_
  refine p_X9_15 hx hb hw hown hK hP hD hS 0 rfl rfl rfl rfl dX9_init_13 (fun H locs hP hD hS => ?_)
  replace hP : va_P D vwCl [(a_t, .inr (9, [.int (-9 : Int32), .int (-9 : Int32), .null, .int 0, .int 0, .null, .null]))] H := hP
  replace hD : va_D A [(a_t, .inr (9, [.int (-9 : Int32), .int (-9 : Int32), .null, .int 0, .int 0, .null, .null]))] := hD
  refine lv_aload_n hx hb dX9_init_16 rfl (lv_at hl 0 rfl) ?_
  refine lv_bipush (v := 10) hx hb dX9_init_17 (by decide) ?_
  refine nwa (atype := .int) (ty := .int) (N' := 10) (a0 := (10, .inl (fun _ => 0))) hx hb rfl (hw _ mx_1_124) hK hP hD hS hA 1 rfl (fun _ => rfl) (fun _ => rfl) (by decide) (by decide) (by decide) (Nat.le_of_ble_eq_true rfl) (Nat.le_of_ble_eq_true rfl) dX9_init_19 (fun q_19_11 H hP hD hS => ?_)
  replace hP : va_P D vwCl [(a_t, .inr (9, [.int (-9 : Int32), .int (-9 : Int32), .null, .int 0, .int 0, .null, .null])), (q_19_11, .inl (cy 1, 10, .inl (fun _ => 0)))] H := hP
  replace hD : va_D A [(a_t, .inr (9, [.int (-9 : Int32), .int (-9 : Int32), .null, .int 0, .int 0, .null, .null])), (q_19_11, .inl (cy 1, 10, .inl (fun _ => 0)))] := hD
  refine pf_X9_18 hx hb hw hown hin hK hP hD hS 0 rfl rfl rfl rfl dX9_init_21 (fun H locs hP hD hS => ?_)
  replace hP : va_P D vwCl [(a_t, .inr (9, [.int (-9 : Int32), .int (-9 : Int32), .ref q_19_11, .int 0, .int 0, .null, .null])), (q_19_11, .inl (cy 1, 10, .inl (fun _ => 0)))] H := hP
  replace hD : va_D A [(a_t, .inr (9, [.int (-9 : Int32), .int (-9 : Int32), .ref q_19_11, .int 0, .int 0, .null, .null])), (q_19_11, .inl (cy 1, 10, .inl (fun _ => 0)))] := hD
  refine lv_aload_n hx hb dX9_init_24 rfl (lv_at hl 0 rfl) ?_
  refine lv_iconst (v := 0) hx hb dX9_init_25 (by decide) ?_
  refine p_X9_22 hx hb hw hown hK hP hD hS 0 rfl rfl rfl rfl dX9_init_26 (fun H locs hP hD hS => ?_)
  replace hP : va_P D vwCl [(a_t, .inr (9, [.int (-9 : Int32), .int (-9 : Int32), .ref q_19_11, .int (0 : Int32), .int 0, .null, .null])), (q_19_11, .inl (cy 1, 10, .inl (fun _ => 0)))] H := hP
  replace hD : va_D A [(a_t, .inr (9, [.int (-9 : Int32), .int (-9 : Int32), .ref q_19_11, .int (0 : Int32), .int 0, .null, .null])), (q_19_11, .inl (cy 1, 10, .inl (fun _ => 0)))] := hD
  refine lv_aload_n hx hb dX9_init_29 rfl (lv_at hl 0 rfl) ?_
  refine lv_iconst (v := 0) hx hb dX9_init_30 (by decide) ?_
  refine p_X9_25 hx hb hw hown hK hP hD hS 0 rfl rfl rfl rfl dX9_init_31 (fun H locs hP hD hS => ?_)
  replace hP : va_P D vwCl [(a_t, .inr (9, [.int (-9 : Int32), .int (-9 : Int32), .ref q_19_11, .int (0 : Int32), .int (0 : Int32), .null, .null])), (q_19_11, .inl (cy 1, 10, .inl (fun _ => 0)))] H := hP
  replace hD : va_D A [(a_t, .inr (9, [.int (-9 : Int32), .int (-9 : Int32), .ref q_19_11, .int (0 : Int32), .int (0 : Int32), .null, .null])), (q_19_11, .inl (cy 1, 10, .inl (fun _ => 0)))] := hD
  refine lv_aload_n hx hb dX9_init_34 rfl (lv_at hl 0 rfl) ?_
  refine lv_bipush (v := 121) hx hb dX9_init_35 (by decide) ?_
  refine nwa (atype := .int) (ty := .int) (N' := 121) (a0 := (121, .inl (fun _ => 0))) hx hb rfl (hw _ mx_1_124) hK hP hD hS hA 1 rfl (fun _ => rfl) (fun _ => rfl) (by decide) (by decide) (by decide) (Nat.le_of_ble_eq_true rfl) (Nat.le_of_ble_eq_true rfl) dX9_init_37 (fun q_37_21 H hP hD hS => ?_)
  replace hP : va_P D vwCl [(a_t, .inr (9, [.int (-9 : Int32), .int (-9 : Int32), .ref q_19_11, .int (0 : Int32), .int (0 : Int32), .null, .null])), (q_19_11, .inl (cy 1, 10, .inl (fun _ => 0))), (q_37_21, .inl (cy 1, 121, .inl (fun _ => 0)))] H := hP
  replace hD : va_D A [(a_t, .inr (9, [.int (-9 : Int32), .int (-9 : Int32), .ref q_19_11, .int (0 : Int32), .int (0 : Int32), .null, .null])), (q_19_11, .inl (cy 1, 10, .inl (fun _ => 0))), (q_37_21, .inl (cy 1, 121, .inl (fun _ => 0)))] := hD
  refine pf_X9_28 hx hb hw hown hin hK hP hD hS 0 rfl rfl rfl rfl dX9_init_39 (fun H locs hP hD hS => ?_)
  replace hP : va_P D vwCl [(a_t, .inr (9, [.int (-9 : Int32), .int (-9 : Int32), .ref q_19_11, .int (0 : Int32), .int (0 : Int32), .null, .ref q_37_21])), (q_19_11, .inl (cy 1, 10, .inl (fun _ => 0))), (q_37_21, .inl (cy 1, 121, .inl (fun _ => 0)))] H := hP
  replace hD : va_D A [(a_t, .inr (9, [.int (-9 : Int32), .int (-9 : Int32), .ref q_19_11, .int (0 : Int32), .int (0 : Int32), .null, .ref q_37_21])), (q_19_11, .inl (cy 1, 10, .inl (fun _ => 0))), (q_37_21, .inl (cy 1, 121, .inl (fun _ => 0)))] := hD
  refine lv_aload_n hx hb dX9_init_42 rfl (lv_at hl 0 rfl) ?_
  refine lv_aload_n hx hb dX9_init_43 rfl (lv_at hl 1 rfl) ?_
  refine pf_X9_31 hx hb hw hown hin hK hP hD hS 0 rfl rfl rfl rfl dX9_init_44 (fun H locs hP hD hS => ?_)
  replace hP : va_P D vwCl [(a_t, .inr (9, [.int (-9 : Int32), .int (-9 : Int32), .ref q_19_11, .int (0 : Int32), .int (0 : Int32), .ref b_1, .ref q_37_21])), (q_19_11, .inl (cy 1, 10, .inl (fun _ => 0))), (q_37_21, .inl (cy 1, 121, .inl (fun _ => 0)))] H := hP
  replace hD : va_D A [(a_t, .inr (9, [.int (-9 : Int32), .int (-9 : Int32), .ref q_19_11, .int (0 : Int32), .int (0 : Int32), .ref b_1, .ref q_37_21])), (q_19_11, .inl (cy 1, 10, .inl (fun _ => 0))), (q_37_21, .inl (cy 1, 121, .inl (fun _ => 0)))] := hD
  refine W.widen (k := 2) (n := 131) (Nat.le_of_ble_eq_true rfl) (Nat.le_of_ble_eq_true rfl) ?_
  exact W.vret hx hb hr (fun t ht hW => ⟨⟨(q_19_11, q_37_21), rfl, trivial, by rw [ht]; exact hP, by rw [hAe]; exact hD⟩, hS.F ht⟩) hS.2.2 dX9_init_47
theorem mx_2_121 : Cond.methodLink RX7 3 objectInit ∈ LW := lw_2 (List.mem_of_getElem? (i := 121) (by decide +kernel)) (by decide +kernel)
theorem mx_2_122 : Cond.classLink RX7 33 RX5 ∈ LW := lw_2 (List.mem_of_getElem? (i := 122) (by decide +kernel)) (by decide +kernel)
theorem mx_1_155 : Cond.instantiable RX5 2 ∈ LW := lw_1 (List.mem_of_getElem? (i := 155) (by decide +kernel)) (by decide +kernel)
theorem mx_1_5 : Cond.initialized RX5 ∈ LW := lw_1 (List.mem_of_getElem? (i := 5) (by decide +kernel)) (by decide +kernel)
theorem mx_1_157 : Cond.instanceMethod yX5_init ∈ LW := lw_1 (List.mem_of_getElem? (i := 157) (by decide +kernel)) (by decide +kernel)
theorem mx_1_158 : Cond.code yX5_init cX5_init 1 none ∈ LW := lw_1 (List.mem_of_getElem? (i := 158) (by decide +kernel)) (by decide +kernel)
theorem mx_2_123 : Cond.methodLink RX7 35 yX5_init ∈ LW := lw_2 (List.mem_of_getElem? (i := 123) (by decide +kernel)) (by decide +kernel)
theorem kt_X7_35 : LkI RX7 35 yX5_init cX5_init 1 0 := ⟨mx_2_123, mx_1_157, mx_1_5, mx_1_158, ⟨by decide +kernel, by decide +kernel, by decide +kernel⟩, rfl⟩
theorem mx_2_135 : Cond.fieldLink RX7 36 "BoathouseKey$ShortRules" "trial" "LBoathouseKey$Rule;" ∈ LW := lw_2 (List.mem_of_getElem? (i := 135) (by decide +kernel)) (by decide +kernel)
theorem pf_X7_36 {p : Program} {l : Launch} {e : Env} {R : Room} {s : State} {m : MethodId} {args : Array Value} {below : List Frame} {meth : Method} {c : Code} {H : Heap} {locs : List Loc} {cells slots : Nat} {Q : State → Prop} {cc : ByteArray} {pc : Nat} {ls : Array Slot} {rest : List Value} {D : va_G} {A : Nat → Prop} {a : Nat} {tys : List (ClassId × FieldType)} {ws : va_W} {H0 : Heap} (hx : p.tables.exec = Jvm.exec) (hb : c.code = cc) (hw : ∀ w ∈ LW, w.before args s = true) (hown : s.vm.findClass RX7 = some m.cls) (hin : meth.name = "<init>") (hK : va_K D vwCl tys s) (hP : va_P D vwCl ws H) (hD : va_D A ws) (hS : va_S A H0 H locs) (q0 : Nat) {fs : List Value} (he : ws[q0]? = some (a, .inr (7, fs))) {v : Value} (hn : narrow (tyX7 8) v = v) (hfit : fits (tyX7 8) v = true) (hl : Nat.ble (8 + 1) fs.length = true) (hdg : decode cc pc = .ok (.putfield 36, 3)) (kk : ∀ (H1 : Heap) (locs1 : List Loc), va_P D vwCl (ws.set q0 (a, .inr (7, fs.set 8 v))) H1 → va_D A (ws.set q0 (a, .inr (7, fs.set 8 v))) → va_S A H0 H1 locs1 → W p l e R s m args below meth c H1 locs1 cells slots Q (F0 m (pc + 3) ls rest)) : W p l e R s m args below meth c H locs cells slots Q (F0 m pc ls (v :: .ref a :: rest)) := va_putF hx hb hw i_X7 tyX7 tyX7_ok nmX7 hown hK hP hD hS q0 he rfl 8 (Nat.le_of_ble_eq_true rfl) (hw _ mx_2_135) (fun _ h => h) rfl hin rfl (tyX7_ok 8 (Nat.le_of_ble_eq_true rfl)) hn hfit (Nat.le_of_ble_eq_true hl) hdg kk
theorem mx_2_136 : Cond.fieldLink RX7 40 "BoathouseKey$ShortRules" "weekOf" "[I" ∈ LW := lw_2 (List.mem_of_getElem? (i := 136) (by decide +kernel)) (by decide +kernel)
theorem pf_X7_40 {p : Program} {l : Launch} {e : Env} {R : Room} {s : State} {m : MethodId} {args : Array Value} {below : List Frame} {meth : Method} {c : Code} {H : Heap} {locs : List Loc} {cells slots : Nat} {Q : State → Prop} {cc : ByteArray} {pc : Nat} {ls : Array Slot} {rest : List Value} {D : va_G} {A : Nat → Prop} {a : Nat} {tys : List (ClassId × FieldType)} {ws : va_W} {H0 : Heap} (hx : p.tables.exec = Jvm.exec) (hb : c.code = cc) (hw : ∀ w ∈ LW, w.before args s = true) (hown : s.vm.findClass RX7 = some m.cls) (hin : meth.name = "<init>") (hK : va_K D vwCl tys s) (hP : va_P D vwCl ws H) (hD : va_D A ws) (hS : va_S A H0 H locs) (q0 : Nat) {fs : List Value} (he : ws[q0]? = some (a, .inr (7, fs))) {v : Value} (hn : narrow (tyX7 9) v = v) (hfit : fits (tyX7 9) v = true) (hl : Nat.ble (9 + 1) fs.length = true) (hdg : decode cc pc = .ok (.putfield 40, 3)) (kk : ∀ (H1 : Heap) (locs1 : List Loc), va_P D vwCl (ws.set q0 (a, .inr (7, fs.set 9 v))) H1 → va_D A (ws.set q0 (a, .inr (7, fs.set 9 v))) → va_S A H0 H1 locs1 → W p l e R s m args below meth c H1 locs1 cells slots Q (F0 m (pc + 3) ls rest)) : W p l e R s m args below meth c H locs cells slots Q (F0 m pc ls (v :: .ref a :: rest)) := va_putF hx hb hw i_X7 tyX7 tyX7_ok nmX7 hown hK hP hD hS q0 he rfl 9 (Nat.le_of_ble_eq_true rfl) (hw _ mx_2_136) (fun _ h => h) rfl hin rfl (tyX7_ok 9 (Nat.le_of_ble_eq_true rfl)) hn hfit (Nat.le_of_ble_eq_true hl) hdg kk
theorem mx_2_137 : Cond.fieldLink RX7 44 "BoathouseKey$ShortRules" "priceTill" "[I" ∈ LW := lw_2 (List.mem_of_getElem? (i := 137) (by decide +kernel)) (by decide +kernel)
theorem pf_X7_44 {p : Program} {l : Launch} {e : Env} {R : Room} {s : State} {m : MethodId} {args : Array Value} {below : List Frame} {meth : Method} {c : Code} {H : Heap} {locs : List Loc} {cells slots : Nat} {Q : State → Prop} {cc : ByteArray} {pc : Nat} {ls : Array Slot} {rest : List Value} {D : va_G} {A : Nat → Prop} {a : Nat} {tys : List (ClassId × FieldType)} {ws : va_W} {H0 : Heap} (hx : p.tables.exec = Jvm.exec) (hb : c.code = cc) (hw : ∀ w ∈ LW, w.before args s = true) (hown : s.vm.findClass RX7 = some m.cls) (hin : meth.name = "<init>") (hK : va_K D vwCl tys s) (hP : va_P D vwCl ws H) (hD : va_D A ws) (hS : va_S A H0 H locs) (q0 : Nat) {fs : List Value} (he : ws[q0]? = some (a, .inr (7, fs))) {v : Value} (hn : narrow (tyX7 10) v = v) (hfit : fits (tyX7 10) v = true) (hl : Nat.ble (10 + 1) fs.length = true) (hdg : decode cc pc = .ok (.putfield 44, 3)) (kk : ∀ (H1 : Heap) (locs1 : List Loc), va_P D vwCl (ws.set q0 (a, .inr (7, fs.set 10 v))) H1 → va_D A (ws.set q0 (a, .inr (7, fs.set 10 v))) → va_S A H0 H1 locs1 → W p l e R s m args below meth c H1 locs1 cells slots Q (F0 m (pc + 3) ls rest)) : W p l e R s m args below meth c H locs cells slots Q (F0 m pc ls (v :: .ref a :: rest)) := va_putF hx hb hw i_X7 tyX7 tyX7_ok nmX7 hown hK hP hD hS q0 he rfl 10 (Nat.le_of_ble_eq_true rfl) (hw _ mx_2_137) (fun _ h => h) rfl hin rfl (tyX7_ok 10 (Nat.le_of_ble_eq_true rfl)) hn hfit (Nat.le_of_ble_eq_true hl) hdg kk
theorem mx_2_134 : Cond.fieldLink RX7 47 "BoathouseKey$ShortRules" "steps" "LBoathouseKey$Steps;" ∈ LW := lw_2 (List.mem_of_getElem? (i := 134) (by decide +kernel)) (by decide +kernel)
theorem pf_X7_47 {p : Program} {l : Launch} {e : Env} {R : Room} {s : State} {m : MethodId} {args : Array Value} {below : List Frame} {meth : Method} {c : Code} {H : Heap} {locs : List Loc} {cells slots : Nat} {Q : State → Prop} {cc : ByteArray} {pc : Nat} {ls : Array Slot} {rest : List Value} {D : va_G} {A : Nat → Prop} {a : Nat} {tys : List (ClassId × FieldType)} {ws : va_W} {H0 : Heap} (hx : p.tables.exec = Jvm.exec) (hb : c.code = cc) (hw : ∀ w ∈ LW, w.before args s = true) (hown : s.vm.findClass RX7 = some m.cls) (hin : meth.name = "<init>") (hK : va_K D vwCl tys s) (hP : va_P D vwCl ws H) (hD : va_D A ws) (hS : va_S A H0 H locs) (q0 : Nat) {fs : List Value} (he : ws[q0]? = some (a, .inr (7, fs))) {v : Value} (hn : narrow (tyX7 7) v = v) (hfit : fits (tyX7 7) v = true) (hl : Nat.ble (7 + 1) fs.length = true) (hdg : decode cc pc = .ok (.putfield 47, 3)) (kk : ∀ (H1 : Heap) (locs1 : List Loc), va_P D vwCl (ws.set q0 (a, .inr (7, fs.set 7 v))) H1 → va_D A (ws.set q0 (a, .inr (7, fs.set 7 v))) → va_S A H0 H1 locs1 → W p l e R s m args below meth c H1 locs1 cells slots Q (F0 m (pc + 3) ls rest)) : W p l e R s m args below meth c H locs cells slots Q (F0 m pc ls (v :: .ref a :: rest)) := va_putF hx hb hw i_X7 tyX7 tyX7_ok nmX7 hown hK hP hD hS q0 he rfl 7 (Nat.le_of_ble_eq_true rfl) (hw _ mx_2_134) (fun _ h => h) rfl hin rfl (tyX7_ok 7 (Nat.le_of_ble_eq_true rfl)) hn hfit (Nat.le_of_ble_eq_true hl) hdg kk
set_option maxHeartbeats 4000000 in
set_option maxRecDepth 100000 in
theorem t_X7_init {l : Launch} {D : va_G} {cy : Nat → ClassId} (a_t : Nat) (b_1 : Nat) (sz : Nat) : Ct (S := Nat × Nat × Nat × Nat) l yX7_init cX7_init 2 2 4 34 43 D cy [.ref a_t, .ref b_1] [(a_t, .inr (7, [.int 0, .int 0, .int 0, .int 0, .int 0, .int 0, .int 0, .null, .null, .null, .null]))] (fun u => [(a_t, .inr (7, [.int (-9 : Int32), .int (0 : Int32), .int (1 : Int32), .int (0 : Int32), .int (0 : Int32), .int (0 : Int32), .int (0 : Int32), .ref b_1, .ref (u.1), .ref (u.2.2.1), .ref (u.2.2.2)])), ((u.1), .inr (5, [.ref (u.2.1), .int (0 : Int32)])), ((u.2.1), .inl (cy 1, 10, .inl (F_J7_fill_53178 10 (fun _ => 0) (4 : Int32)))), ((u.2.2.1), .inl (cy 1, 11, .inl (fun _ => 0))), ((u.2.2.2), .inl (cy 1, 11, .inl (fun _ => 0)))]) sz := by
  refine Met.ofW (cc := cX7_init) (maxL := 2) (ret := none) (by decide) rfl ?_
  intro p e s m args below meth c s₁ B hml hv
  obtain ⟨rfl, hsz, hP, hG, hD0⟩ := hv
  subst hsz
  have hD := hD0.self (sz := s.heap.size)
  have hx := B.exec
  have hb := B.bytes
  have hr := B.returns
  have hlocks := B.notSynchronized
  have hown : s.vm.findClass RX7 = some m.cls := findClass_of_methodNamed B.named
  have hts := atoms_spec (ws := Cond.code yX7_init cX7_init 2 none :: LW) B.pre
  have hw : ∀ w ∈ LW, w.before _ s = true := fun w h => hts w (List.mem_cons_of_mem _ h)
  have hK := hG.1
  have hin : meth.name = "<init>" := (name_of_methodNamed B.named B.method).1
  generalize hAe : va_A [(a_t, .inr (7, [.int 0, .int 0, .int 0, .int 0, .int 0, .int 0, .int 0, .null, .null, .null, .null]))] s.heap.size = A at hD ⊢
  have hA : ∀ q : Nat, s.heap.size ≤ q → A q := fun q h => by rw [← hAe]; exact Or.inr h
  have hS : va_S A s.heap s.heap [] := va_S.rf
  have hl := lv_entry ([.ref a_t, .ref b_1]) (n := 2) (Nat.le_of_ble_eq_true rfl)
  rw [lg_entry_eq]
  generalize (lg_sl ([.ref a_t, .ref b_1]) ++ List.replicate (2 - (lg_sl ([.ref a_t, .ref b_1])).length) Slot.unset).toArray = ls at hl ⊢
  refine lv_aload_n hx hb dX7_init_0 rfl (lv_at hl 0 rfl) ?_
  refine W.objInit hx hb hown (hw _ mx_2_121) (hw _ mx_1_24) (hw _ mx_1_25) rfl (by rw [hml]; exact hl.1) rfl dX7_init_1 (Nat.le_of_ble_eq_true rfl) (Nat.le_of_ble_eq_true rfl) ?_
  refine W.eq (g2 := F0 m 4 ls []) rfl ?_
  refine lv_aload_n hx hb dX7_init_4 rfl (lv_at hl 0 rfl) ?_
  refine lv_bipush (v := -9) hx hb dX7_init_5 (by decide) ?_
  refine p_X7_9 hx hb hw hown hK hP hD hS 0 rfl rfl rfl rfl dX7_init_7 (fun H locs hP hD hS => ?_)
  replace hP : va_P D vwCl [(a_t, .inr (7, [.int (-9 : Int32), .int 0, .int 0, .int 0, .int 0, .int 0, .int 0, .null, .null, .null, .null]))] H := hP
  replace hD : va_D A [(a_t, .inr (7, [.int (-9 : Int32), .int 0, .int 0, .int 0, .int 0, .int 0, .int 0, .null, .null, .null, .null]))] := hD
  refine lv_aload_n hx hb dX7_init_10 rfl (lv_at hl 0 rfl) ?_
  refine lv_iconst (v := 0) hx hb dX7_init_11 (by decide) ?_
  refine p_X7_15 hx hb hw hown hK hP hD hS 0 rfl rfl rfl rfl dX7_init_12 (fun H locs hP hD hS => ?_)
  replace hP : va_P D vwCl [(a_t, .inr (7, [.int (-9 : Int32), .int (0 : Int32), .int 0, .int 0, .int 0, .int 0, .int 0, .null, .null, .null, .null]))] H := hP
  replace hD : va_D A [(a_t, .inr (7, [.int (-9 : Int32), .int (0 : Int32), .int 0, .int 0, .int 0, .int 0, .int 0, .null, .null, .null, .null]))] := hD
  refine lv_aload_n hx hb dX7_init_15 rfl (lv_at hl 0 rfl) ?_
  refine lv_iconst (v := 1) hx hb dX7_init_16 (by decide) ?_
  refine p_X7_18 hx hb hw hown hK hP hD hS 0 rfl rfl rfl rfl dX7_init_17 (fun H locs hP hD hS => ?_)
  replace hP : va_P D vwCl [(a_t, .inr (7, [.int (-9 : Int32), .int (0 : Int32), .int (1 : Int32), .int 0, .int 0, .int 0, .int 0, .null, .null, .null, .null]))] H := hP
  replace hD : va_D A [(a_t, .inr (7, [.int (-9 : Int32), .int (0 : Int32), .int (1 : Int32), .int 0, .int 0, .int 0, .int 0, .null, .null, .null, .null]))] := hD
  refine lv_aload_n hx hb dX7_init_20 rfl (lv_at hl 0 rfl) ?_
  refine lv_iconst (v := 0) hx hb dX7_init_21 (by decide) ?_
  refine p_X7_21 hx hb hw hown hK hP hD hS 0 rfl rfl rfl rfl dX7_init_22 (fun H locs hP hD hS => ?_)
  replace hP : va_P D vwCl [(a_t, .inr (7, [.int (-9 : Int32), .int (0 : Int32), .int (1 : Int32), .int (0 : Int32), .int 0, .int 0, .int 0, .null, .null, .null, .null]))] H := hP
  replace hD : va_D A [(a_t, .inr (7, [.int (-9 : Int32), .int (0 : Int32), .int (1 : Int32), .int (0 : Int32), .int 0, .int 0, .int 0, .null, .null, .null, .null]))] := hD
  refine lv_aload_n hx hb dX7_init_25 rfl (lv_at hl 0 rfl) ?_
  refine lv_iconst (v := 0) hx hb dX7_init_26 (by decide) ?_
  refine p_X7_24 hx hb hw hown hK hP hD hS 0 rfl rfl rfl rfl dX7_init_27 (fun H locs hP hD hS => ?_)
  replace hP : va_P D vwCl [(a_t, .inr (7, [.int (-9 : Int32), .int (0 : Int32), .int (1 : Int32), .int (0 : Int32), .int (0 : Int32), .int 0, .int 0, .null, .null, .null, .null]))] H := hP
  replace hD : va_D A [(a_t, .inr (7, [.int (-9 : Int32), .int (0 : Int32), .int (1 : Int32), .int (0 : Int32), .int (0 : Int32), .int 0, .int 0, .null, .null, .null, .null]))] := hD
  refine lv_aload_n hx hb dX7_init_30 rfl (lv_at hl 0 rfl) ?_
  refine lv_iconst (v := 0) hx hb dX7_init_31 (by decide) ?_
  refine p_X7_27 hx hb hw hown hK hP hD hS 0 rfl rfl rfl rfl dX7_init_32 (fun H locs hP hD hS => ?_)
  replace hP : va_P D vwCl [(a_t, .inr (7, [.int (-9 : Int32), .int (0 : Int32), .int (1 : Int32), .int (0 : Int32), .int (0 : Int32), .int (0 : Int32), .int 0, .null, .null, .null, .null]))] H := hP
  replace hD : va_D A [(a_t, .inr (7, [.int (-9 : Int32), .int (0 : Int32), .int (1 : Int32), .int (0 : Int32), .int (0 : Int32), .int (0 : Int32), .int 0, .null, .null, .null, .null]))] := hD
  refine lv_aload_n hx hb dX7_init_35 rfl (lv_at hl 0 rfl) ?_
  refine lv_iconst (v := 0) hx hb dX7_init_36 (by decide) ?_
  refine p_X7_30 hx hb hw hown hK hP hD hS 0 rfl rfl rfl rfl dX7_init_37 (fun H locs hP hD hS => ?_)
  replace hP : va_P D vwCl [(a_t, .inr (7, [.int (-9 : Int32), .int (0 : Int32), .int (1 : Int32), .int (0 : Int32), .int (0 : Int32), .int (0 : Int32), .int (0 : Int32), .null, .null, .null, .null]))] H := hP
  replace hD : va_D A [(a_t, .inr (7, [.int (-9 : Int32), .int (0 : Int32), .int (1 : Int32), .int (0 : Int32), .int (0 : Int32), .int (0 : Int32), .int (0 : Int32), .null, .null, .null, .null]))] := hD
  refine lv_aload_n hx hb dX7_init_40 rfl (lv_at hl 0 rfl) ?_
  refine va_new (ci := 5) (fs := [.null, .int 0]) (C := RX5) (T := TX5) (N := 2) hx hb hw i_X5 tyX5 tyX5_ok hown (hw _ mx_2_122) (hw _ mx_1_155) (hw _ mx_1_5) hK hP hD hS hA rfl (fun j hj => by match j, hj with | 0, _ => rfl | 1, _ => rfl | j + 2, h => exact absurd h (by omega)) (Nat.le_of_ble_eq_true rfl) (Nat.le_of_ble_eq_true rfl) dX7_init_41 (fun q_41_25 H hP hD hS => ?_)
  replace hP : va_P D vwCl [(a_t, .inr (7, [.int (-9 : Int32), .int (0 : Int32), .int (1 : Int32), .int (0 : Int32), .int (0 : Int32), .int (0 : Int32), .int (0 : Int32), .null, .null, .null, .null])), (q_41_25, .inr (5, [.null, .int 0]))] H := hP
  replace hD : va_D A [(a_t, .inr (7, [.int (-9 : Int32), .int (0 : Int32), .int (1 : Int32), .int (0 : Int32), .int (0 : Int32), .int (0 : Int32), .int (0 : Int32), .null, .null, .null, .null])), (q_41_25, .inr (5, [.null, .int 0]))] := hD
  refine lv_dup hx hb dX7_init_44 rfl ?_
  refine ctI (As := []) (rest := [.ref q_41_25, .ref a_t]) hx hb hml hown hts hG hP hD hS hA kt_X7_35 (t_X5_init (l := l) (D := D) (cy := cy) q_41_25 H.size) ⟨Nat.le_of_ble_eq_true rfl, Nat.le_of_ble_eq_true rfl⟩ [1] [0] (N := 2) rfl (by decide +kernel) rfl rfl hl.1 rfl (Nat.le_of_ble_eq_true rfl) ⟨Nat.le_of_ble_eq_true rfl, Nat.le_of_ble_eq_true rfl⟩ dX7_init_45 (fun u_27 H locs hP hD hS => ?_)
  obtain ⟨n_27_0, rfl⟩ : ∃ z, z = u_27 := ⟨_, rfl⟩
  replace hP : va_P D vwCl [(a_t, .inr (7, [.int (-9 : Int32), .int (0 : Int32), .int (1 : Int32), .int (0 : Int32), .int (0 : Int32), .int (0 : Int32), .int (0 : Int32), .null, .null, .null, .null])), (q_41_25, .inr (5, [.ref n_27_0, .int (0 : Int32)])), (n_27_0, .inl (cy 1, 10, .inl (F_J7_fill_53178 10 (fun _ => 0) (4 : Int32))))] H := hP
  replace hD : va_D A [(a_t, .inr (7, [.int (-9 : Int32), .int (0 : Int32), .int (1 : Int32), .int (0 : Int32), .int (0 : Int32), .int (0 : Int32), .int (0 : Int32), .null, .null, .null, .null])), (q_41_25, .inr (5, [.ref n_27_0, .int (0 : Int32)])), (n_27_0, .inl (cy 1, 10, .inl (F_J7_fill_53178 10 (fun _ => 0) (4 : Int32))))] := hD
  refine pf_X7_36 hx hb hw hown hin hK hP hD hS 0 rfl rfl rfl rfl dX7_init_48 (fun H locs hP hD hS => ?_)
  replace hP : va_P D vwCl [(a_t, .inr (7, [.int (-9 : Int32), .int (0 : Int32), .int (1 : Int32), .int (0 : Int32), .int (0 : Int32), .int (0 : Int32), .int (0 : Int32), .null, .ref q_41_25, .null, .null])), (q_41_25, .inr (5, [.ref n_27_0, .int (0 : Int32)])), (n_27_0, .inl (cy 1, 10, .inl (F_J7_fill_53178 10 (fun _ => 0) (4 : Int32))))] H := hP
  replace hD : va_D A [(a_t, .inr (7, [.int (-9 : Int32), .int (0 : Int32), .int (1 : Int32), .int (0 : Int32), .int (0 : Int32), .int (0 : Int32), .int (0 : Int32), .null, .ref q_41_25, .null, .null])), (q_41_25, .inr (5, [.ref n_27_0, .int (0 : Int32)])), (n_27_0, .inl (cy 1, 10, .inl (F_J7_fill_53178 10 (fun _ => 0) (4 : Int32))))] := hD
  refine lv_aload_n hx hb dX7_init_51 rfl (lv_at hl 0 rfl) ?_
  refine lv_bipush (v := 11) hx hb dX7_init_52 (by decide) ?_
  refine nwa (atype := .int) (ty := .int) (N' := 11) (a0 := (11, .inl (fun _ => 0))) hx hb rfl (hw _ mx_1_124) hK hP hD hS hA 1 rfl (fun _ => rfl) (fun _ => rfl) (by decide) (by decide) (by decide) (Nat.le_of_ble_eq_true rfl) (Nat.le_of_ble_eq_true rfl) dX7_init_54 (fun q_54_31 H hP hD hS => ?_)
  replace hP : va_P D vwCl [(a_t, .inr (7, [.int (-9 : Int32), .int (0 : Int32), .int (1 : Int32), .int (0 : Int32), .int (0 : Int32), .int (0 : Int32), .int (0 : Int32), .null, .ref q_41_25, .null, .null])), (q_41_25, .inr (5, [.ref n_27_0, .int (0 : Int32)])), (n_27_0, .inl (cy 1, 10, .inl (F_J7_fill_53178 10 (fun _ => 0) (4 : Int32)))), (q_54_31, .inl (cy 1, 11, .inl (fun _ => 0)))] H := hP
  replace hD : va_D A [(a_t, .inr (7, [.int (-9 : Int32), .int (0 : Int32), .int (1 : Int32), .int (0 : Int32), .int (0 : Int32), .int (0 : Int32), .int (0 : Int32), .null, .ref q_41_25, .null, .null])), (q_41_25, .inr (5, [.ref n_27_0, .int (0 : Int32)])), (n_27_0, .inl (cy 1, 10, .inl (F_J7_fill_53178 10 (fun _ => 0) (4 : Int32)))), (q_54_31, .inl (cy 1, 11, .inl (fun _ => 0)))] := hD
  refine pf_X7_40 hx hb hw hown hin hK hP hD hS 0 rfl rfl rfl rfl dX7_init_56 (fun H locs hP hD hS => ?_)
  replace hP : va_P D vwCl [(a_t, .inr (7, [.int (-9 : Int32), .int (0 : Int32), .int (1 : Int32), .int (0 : Int32), .int (0 : Int32), .int (0 : Int32), .int (0 : Int32), .null, .ref q_41_25, .ref q_54_31, .null])), (q_41_25, .inr (5, [.ref n_27_0, .int (0 : Int32)])), (n_27_0, .inl (cy 1, 10, .inl (F_J7_fill_53178 10 (fun _ => 0) (4 : Int32)))), (q_54_31, .inl (cy 1, 11, .inl (fun _ => 0)))] H := hP
  replace hD : va_D A [(a_t, .inr (7, [.int (-9 : Int32), .int (0 : Int32), .int (1 : Int32), .int (0 : Int32), .int (0 : Int32), .int (0 : Int32), .int (0 : Int32), .null, .ref q_41_25, .ref q_54_31, .null])), (q_41_25, .inr (5, [.ref n_27_0, .int (0 : Int32)])), (n_27_0, .inl (cy 1, 10, .inl (F_J7_fill_53178 10 (fun _ => 0) (4 : Int32)))), (q_54_31, .inl (cy 1, 11, .inl (fun _ => 0)))] := hD
  refine lv_aload_n hx hb dX7_init_59 rfl (lv_at hl 0 rfl) ?_
  refine lv_bipush (v := 11) hx hb dX7_init_60 (by decide) ?_
  refine nwa (atype := .int) (ty := .int) (N' := 11) (a0 := (11, .inl (fun _ => 0))) hx hb rfl (hw _ mx_1_124) hK hP hD hS hA 1 rfl (fun _ => rfl) (fun _ => rfl) (by decide) (by decide) (by decide) (Nat.le_of_ble_eq_true rfl) (Nat.le_of_ble_eq_true rfl) dX7_init_62 (fun q_62_35 H hP hD hS => ?_)
  replace hP : va_P D vwCl [(a_t, .inr (7, [.int (-9 : Int32), .int (0 : Int32), .int (1 : Int32), .int (0 : Int32), .int (0 : Int32), .int (0 : Int32), .int (0 : Int32), .null, .ref q_41_25, .ref q_54_31, .null])), (q_41_25, .inr (5, [.ref n_27_0, .int (0 : Int32)])), (n_27_0, .inl (cy 1, 10, .inl (F_J7_fill_53178 10 (fun _ => 0) (4 : Int32)))), (q_54_31, .inl (cy 1, 11, .inl (fun _ => 0))), (q_62_35, .inl (cy 1, 11, .inl (fun _ => 0)))] H := hP
  replace hD : va_D A [(a_t, .inr (7, [.int (-9 : Int32), .int (0 : Int32), .int (1 : Int32), .int (0 : Int32), .int (0 : Int32), .int (0 : Int32), .int (0 : Int32), .null, .ref q_41_25, .ref q_54_31, .null])), (q_41_25, .inr (5, [.ref n_27_0, .int (0 : Int32)])), (n_27_0, .inl (cy 1, 10, .inl (F_J7_fill_53178 10 (fun _ => 0) (4 : Int32)))), (q_54_31, .inl (cy 1, 11, .inl (fun _ => 0))), (q_62_35, .inl (cy 1, 11, .inl (fun _ => 0)))] := hD
  refine pf_X7_44 hx hb hw hown hin hK hP hD hS 0 rfl rfl rfl rfl dX7_init_64 (fun H locs hP hD hS => ?_)
  replace hP : va_P D vwCl [(a_t, .inr (7, [.int (-9 : Int32), .int (0 : Int32), .int (1 : Int32), .int (0 : Int32), .int (0 : Int32), .int (0 : Int32), .int (0 : Int32), .null, .ref q_41_25, .ref q_54_31, .ref q_62_35])), (q_41_25, .inr (5, [.ref n_27_0, .int (0 : Int32)])), (n_27_0, .inl (cy 1, 10, .inl (F_J7_fill_53178 10 (fun _ => 0) (4 : Int32)))), (q_54_31, .inl (cy 1, 11, .inl (fun _ => 0))), (q_62_35, .inl (cy 1, 11, .inl (fun _ => 0)))] H := hP
  replace hD : va_D A [(a_t, .inr (7, [.int (-9 : Int32), .int (0 : Int32), .int (1 : Int32), .int (0 : Int32), .int (0 : Int32), .int (0 : Int32), .int (0 : Int32), .null, .ref q_41_25, .ref q_54_31, .ref q_62_35])), (q_41_25, .inr (5, [.ref n_27_0, .int (0 : Int32)])), (n_27_0, .inl (cy 1, 10, .inl (F_J7_fill_53178 10 (fun _ => 0) (4 : Int32)))), (q_54_31, .inl (cy 1, 11, .inl (fun _ => 0))), (q_62_35, .inl (cy 1, 11, .inl (fun _ => 0)))] := hD
  refine lv_aload_n hx hb dX7_init_67 rfl (lv_at hl 0 rfl) ?_
  refine lv_aload_n hx hb dX7_init_68 rfl (lv_at hl 1 rfl) ?_
  refine pf_X7_47 hx hb hw hown hin hK hP hD hS 0 rfl rfl rfl rfl dX7_init_69 (fun H locs hP hD hS => ?_)
  replace hP : va_P D vwCl [(a_t, .inr (7, [.int (-9 : Int32), .int (0 : Int32), .int (1 : Int32), .int (0 : Int32), .int (0 : Int32), .int (0 : Int32), .int (0 : Int32), .ref b_1, .ref q_41_25, .ref q_54_31, .ref q_62_35])), (q_41_25, .inr (5, [.ref n_27_0, .int (0 : Int32)])), (n_27_0, .inl (cy 1, 10, .inl (F_J7_fill_53178 10 (fun _ => 0) (4 : Int32)))), (q_54_31, .inl (cy 1, 11, .inl (fun _ => 0))), (q_62_35, .inl (cy 1, 11, .inl (fun _ => 0)))] H := hP
  replace hD : va_D A [(a_t, .inr (7, [.int (-9 : Int32), .int (0 : Int32), .int (1 : Int32), .int (0 : Int32), .int (0 : Int32), .int (0 : Int32), .int (0 : Int32), .ref b_1, .ref q_41_25, .ref q_54_31, .ref q_62_35])), (q_41_25, .inr (5, [.ref n_27_0, .int (0 : Int32)])), (n_27_0, .inl (cy 1, 10, .inl (F_J7_fill_53178 10 (fun _ => 0) (4 : Int32)))), (q_54_31, .inl (cy 1, 11, .inl (fun _ => 0))), (q_62_35, .inl (cy 1, 11, .inl (fun _ => 0)))] := hD
  refine W.widen (k := 4) (n := 34) (Nat.le_of_ble_eq_true rfl) (Nat.le_of_ble_eq_true rfl) ?_
  exact W.vret hx hb hr (fun t ht hW => ⟨⟨(q_41_25, n_27_0, q_54_31, q_62_35), rfl, trivial, by rw [ht]; exact hP, by rw [hAe]; exact hD⟩, hS.F ht⟩) hS.2.2 dX7_init_72
theorem mx_2_31 : Cond.methodLink RX4 3 objectInit ∈ LW := lw_2 (List.mem_of_getElem? (i := 31) (by decide +kernel)) (by decide +kernel)
theorem mx_2_32 : Cond.classLink RX4 27 RX10 ∈ LW := lw_2 (List.mem_of_getElem? (i := 32) (by decide +kernel)) (by decide +kernel)
theorem mx_2_2 : Cond.instantiable RX10 3 ∈ LW := lw_2 (List.mem_of_getElem? (i := 2) (by decide +kernel)) (by decide +kernel)
theorem mx_1_8 : Cond.initialized RX10 ∈ LW := lw_1 (List.mem_of_getElem? (i := 8) (by decide +kernel)) (by decide +kernel)
theorem mx_2_4 : Cond.instanceMethod yX10_init ∈ LW := lw_2 (List.mem_of_getElem? (i := 4) (by decide +kernel)) (by decide +kernel)
theorem mx_2_5 : Cond.code yX10_init cX10_init 1 none ∈ LW := lw_2 (List.mem_of_getElem? (i := 5) (by decide +kernel)) (by decide +kernel)
theorem kt_X4_29 : LkJ RX4 29 yX10_init cX10_init 1 0 := ⟨List.mem_of_getElem? (i := 13) rfl, mx_2_4, mx_1_8, mx_2_5, ⟨by decide +kernel, by decide +kernel, by decide +kernel⟩, rfl⟩
theorem mx_2_44 : Cond.fieldLink RX4 30 "BoathouseKey$Ring" "oneWeek" "LBoathouseKey$Week;" ∈ LW := lw_2 (List.mem_of_getElem? (i := 44) (by decide +kernel)) (by decide +kernel)
theorem pf_X4_30 {p : Program} {l : Launch} {e : Env} {R : Room} {s : State} {m : MethodId} {args : Array Value} {below : List Frame} {meth : Method} {c : Code} {H : Heap} {locs : List Loc} {cells slots : Nat} {Q : State → Prop} {cc : ByteArray} {pc : Nat} {ls : Array Slot} {rest : List Value} {D : va_G} {A : Nat → Prop} {a : Nat} {tys : List (ClassId × FieldType)} {ws : va_W} {H0 : Heap} (hx : p.tables.exec = Jvm.exec) (hb : c.code = cc) (hw : ∀ w ∈ LW, w.before args s = true) (hown : s.vm.findClass RX4 = some m.cls) (hin : meth.name = "<init>") (hK : va_K D vwCl tys s) (hP : va_P D vwCl ws H) (hD : va_D A ws) (hS : va_S A H0 H locs) (q0 : Nat) {fs : List Value} (he : ws[q0]? = some (a, .inr (4, fs))) {v : Value} (hn : narrow (tyX4 5) v = v) (hfit : fits (tyX4 5) v = true) (hl : Nat.ble (5 + 1) fs.length = true) (hdg : decode cc pc = .ok (.putfield 30, 3)) (kk : ∀ (H1 : Heap) (locs1 : List Loc), va_P D vwCl (ws.set q0 (a, .inr (4, fs.set 5 v))) H1 → va_D A (ws.set q0 (a, .inr (4, fs.set 5 v))) → va_S A H0 H1 locs1 → W p l e R s m args below meth c H1 locs1 cells slots Q (F0 m (pc + 3) ls rest)) : W p l e R s m args below meth c H locs cells slots Q (F0 m pc ls (v :: .ref a :: rest)) := va_putF hx hb hw i_X4 tyX4 tyX4_ok nmX4 hown hK hP hD hS q0 he rfl 5 (Nat.le_of_ble_eq_true rfl) (hw _ mx_2_44) (fun _ h => h) rfl hin rfl (tyX4_ok 5 (Nat.le_of_ble_eq_true rfl)) hn hfit (Nat.le_of_ble_eq_true hl) hdg kk
theorem mx_2_45 : Cond.fieldLink RX4 34 "BoathouseKey$Ring" "nextSpot" "[I" ∈ LW := lw_2 (List.mem_of_getElem? (i := 45) (by decide +kernel)) (by decide +kernel)
theorem pf_X4_34 {p : Program} {l : Launch} {e : Env} {R : Room} {s : State} {m : MethodId} {args : Array Value} {below : List Frame} {meth : Method} {c : Code} {H : Heap} {locs : List Loc} {cells slots : Nat} {Q : State → Prop} {cc : ByteArray} {pc : Nat} {ls : Array Slot} {rest : List Value} {D : va_G} {A : Nat → Prop} {a : Nat} {tys : List (ClassId × FieldType)} {ws : va_W} {H0 : Heap} (hx : p.tables.exec = Jvm.exec) (hb : c.code = cc) (hw : ∀ w ∈ LW, w.before args s = true) (hown : s.vm.findClass RX4 = some m.cls) (hin : meth.name = "<init>") (hK : va_K D vwCl tys s) (hP : va_P D vwCl ws H) (hD : va_D A ws) (hS : va_S A H0 H locs) (q0 : Nat) {fs : List Value} (he : ws[q0]? = some (a, .inr (4, fs))) {v : Value} (hn : narrow (tyX4 6) v = v) (hfit : fits (tyX4 6) v = true) (hl : Nat.ble (6 + 1) fs.length = true) (hdg : decode cc pc = .ok (.putfield 34, 3)) (kk : ∀ (H1 : Heap) (locs1 : List Loc), va_P D vwCl (ws.set q0 (a, .inr (4, fs.set 6 v))) H1 → va_D A (ws.set q0 (a, .inr (4, fs.set 6 v))) → va_S A H0 H1 locs1 → W p l e R s m args below meth c H1 locs1 cells slots Q (F0 m (pc + 3) ls rest)) : W p l e R s m args below meth c H locs cells slots Q (F0 m pc ls (v :: .ref a :: rest)) := va_putF hx hb hw i_X4 tyX4 tyX4_ok nmX4 hown hK hP hD hS q0 he rfl 6 (Nat.le_of_ble_eq_true rfl) (hw _ mx_2_45) (fun _ h => h) rfl hin rfl (tyX4_ok 6 (Nat.le_of_ble_eq_true rfl)) hn hfit (Nat.le_of_ble_eq_true hl) hdg kk
set_option maxHeartbeats 4000000 in
set_option maxRecDepth 100000 in
theorem t_X4_init {l : Launch} {D : va_G} {cy : Nat → ClassId} (a_t : Nat) (sz : Nat) : Ct (S := Nat × Nat × Nat × Nat × Nat) l yX4_init cX4_init 1 3 5 43 52 D cy [.ref a_t] [(a_t, .inr (4, [.int 0, .int 0, .int 0, .int 0, .int 0, .null, .null]))] (fun u => [(a_t, .inr (4, [.int (0 : Int32), .int (0 : Int32), .int (0 : Int32), .int (0 : Int32), .int (0 : Int32), .ref (u.1), .ref (u.2.2.2.2)])), ((u.1), .inr (10, [.ref (u.2.1), .ref (u.2.2.1), .ref (u.2.2.2.1)])), ((u.2.1), .inr (3, [.int (0 : Int32), .int (10 : Int32), .int (0 : Int32), .int (0 : Int32), .int (0 : Int32), .int (0 : Int32), .int (0 : Int32), .int (0 : Int32), .int (0 : Int32)])), ((u.2.2.1), .inl (cy 1, 10, .inl (fun _ => 0))), ((u.2.2.2.1), .inl (cy 1, 10, .inl (fun _ => 0))), ((u.2.2.2.2), .inl (cy 1, 11, .inl (fun _ => 0)))]) sz := by
  refine Met.ofW (cc := cX4_init) (maxL := 1) (ret := none) (by decide) rfl ?_
  intro p e s m args below meth c s₁ B hml hv
  obtain ⟨rfl, hsz, hP, hG, hD0⟩ := hv
  subst hsz
  have hD := hD0.self (sz := s.heap.size)
  have hx := B.exec
  have hb := B.bytes
  have hr := B.returns
  have hlocks := B.notSynchronized
  have hown : s.vm.findClass RX4 = some m.cls := findClass_of_methodNamed B.named
  have hts := atoms_spec (ws := Cond.code yX4_init cX4_init 1 none :: LW) B.pre
  have hw : ∀ w ∈ LW, w.before _ s = true := fun w h => hts w (List.mem_cons_of_mem _ h)
  have hK := hG.1
  have hin : meth.name = "<init>" := (name_of_methodNamed B.named B.method).1
  generalize hAe : va_A [(a_t, .inr (4, [.int 0, .int 0, .int 0, .int 0, .int 0, .null, .null]))] s.heap.size = A at hD ⊢
  have hA : ∀ q : Nat, s.heap.size ≤ q → A q := fun q h => by rw [← hAe]; exact Or.inr h
  have hS : va_S A s.heap s.heap [] := va_S.rf
  have hl := lv_entry ([.ref a_t]) (n := 1) (Nat.le_of_ble_eq_true rfl)
  rw [lg_entry_eq]
  generalize (lg_sl ([.ref a_t]) ++ List.replicate (1 - (lg_sl ([.ref a_t])).length) Slot.unset).toArray = ls at hl ⊢
  refine lv_aload_n hx hb dX4_init_0 rfl (lv_at hl 0 rfl) ?_
  refine W.objInit hx hb hown (hw _ mx_2_31) (hw _ mx_1_24) (hw _ mx_1_25) rfl (by rw [hml]; exact hl.1) rfl dX4_init_1 (Nat.le_of_ble_eq_true rfl) (Nat.le_of_ble_eq_true rfl) ?_
  refine W.eq (g2 := F0 m 4 ls []) rfl ?_
  refine lv_aload_n hx hb dX4_init_4 rfl (lv_at hl 0 rfl) ?_
  refine lv_iconst (v := 0) hx hb dX4_init_5 (by decide) ?_
  refine p_X4_9 hx hb hw hown hK hP hD hS 0 rfl rfl rfl rfl dX4_init_6 (fun H locs hP hD hS => ?_)
  replace hP : va_P D vwCl [(a_t, .inr (4, [.int (0 : Int32), .int 0, .int 0, .int 0, .int 0, .null, .null]))] H := hP
  replace hD : va_D A [(a_t, .inr (4, [.int (0 : Int32), .int 0, .int 0, .int 0, .int 0, .null, .null]))] := hD
  refine lv_aload_n hx hb dX4_init_9 rfl (lv_at hl 0 rfl) ?_
  refine lv_iconst (v := 0) hx hb dX4_init_10 (by decide) ?_
  refine p_X4_15 hx hb hw hown hK hP hD hS 0 rfl rfl rfl rfl dX4_init_11 (fun H locs hP hD hS => ?_)
  replace hP : va_P D vwCl [(a_t, .inr (4, [.int (0 : Int32), .int (0 : Int32), .int 0, .int 0, .int 0, .null, .null]))] H := hP
  replace hD : va_D A [(a_t, .inr (4, [.int (0 : Int32), .int (0 : Int32), .int 0, .int 0, .int 0, .null, .null]))] := hD
  refine lv_aload_n hx hb dX4_init_14 rfl (lv_at hl 0 rfl) ?_
  refine lv_iconst (v := 0) hx hb dX4_init_15 (by decide) ?_
  refine p_X4_18 hx hb hw hown hK hP hD hS 0 rfl rfl rfl rfl dX4_init_16 (fun H locs hP hD hS => ?_)
  replace hP : va_P D vwCl [(a_t, .inr (4, [.int (0 : Int32), .int (0 : Int32), .int (0 : Int32), .int 0, .int 0, .null, .null]))] H := hP
  replace hD : va_D A [(a_t, .inr (4, [.int (0 : Int32), .int (0 : Int32), .int (0 : Int32), .int 0, .int 0, .null, .null]))] := hD
  refine lv_aload_n hx hb dX4_init_19 rfl (lv_at hl 0 rfl) ?_
  refine lv_iconst (v := 0) hx hb dX4_init_20 (by decide) ?_
  refine p_X4_21 hx hb hw hown hK hP hD hS 0 rfl rfl rfl rfl dX4_init_21 (fun H locs hP hD hS => ?_)
  replace hP : va_P D vwCl [(a_t, .inr (4, [.int (0 : Int32), .int (0 : Int32), .int (0 : Int32), .int (0 : Int32), .int 0, .null, .null]))] H := hP
  replace hD : va_D A [(a_t, .inr (4, [.int (0 : Int32), .int (0 : Int32), .int (0 : Int32), .int (0 : Int32), .int 0, .null, .null]))] := hD
  refine lv_aload_n hx hb dX4_init_24 rfl (lv_at hl 0 rfl) ?_
  refine lv_iconst (v := 0) hx hb dX4_init_25 (by decide) ?_
  refine p_X4_24 hx hb hw hown hK hP hD hS 0 rfl rfl rfl rfl dX4_init_26 (fun H locs hP hD hS => ?_)
  replace hP : va_P D vwCl [(a_t, .inr (4, [.int (0 : Int32), .int (0 : Int32), .int (0 : Int32), .int (0 : Int32), .int (0 : Int32), .null, .null]))] H := hP
  replace hD : va_D A [(a_t, .inr (4, [.int (0 : Int32), .int (0 : Int32), .int (0 : Int32), .int (0 : Int32), .int (0 : Int32), .null, .null]))] := hD
  refine lv_aload_n hx hb dX4_init_29 rfl (lv_at hl 0 rfl) ?_
  refine va_new (ci := 10) (fs := [.null, .null, .null]) (C := RX10) (T := TX10) (N := 3) hx hb hw i_X10 tyX10 tyX10_ok hown (hw _ mx_2_32) (hw _ mx_2_2) (hw _ mx_1_8) hK hP hD hS hA rfl (fun j hj => by match j, hj with | 0, _ => rfl | 1, _ => rfl | 2, _ => rfl | j + 3, h => exact absurd h (by omega)) (Nat.le_of_ble_eq_true rfl) (Nat.le_of_ble_eq_true rfl) dX4_init_30 (fun q_30_19 H hP hD hS => ?_)
  replace hP : va_P D vwCl [(a_t, .inr (4, [.int (0 : Int32), .int (0 : Int32), .int (0 : Int32), .int (0 : Int32), .int (0 : Int32), .null, .null])), (q_30_19, .inr (10, [.null, .null, .null]))] H := hP
  replace hD : va_D A [(a_t, .inr (4, [.int (0 : Int32), .int (0 : Int32), .int (0 : Int32), .int (0 : Int32), .int (0 : Int32), .null, .null])), (q_30_19, .inr (10, [.null, .null, .null]))] := hD
  refine lv_dup hx hb dX4_init_33 rfl ?_
  refine ctJ (As := []) (rest := [.ref q_30_19, .ref a_t]) hx hb hml hown hts hG hP hD hS hA kt_X4_29 (t_X10_init (l := l) (D := D) (cy := cy) q_30_19 H.size) ⟨Nat.le_of_ble_eq_true rfl, Nat.le_of_ble_eq_true rfl⟩ [1] [0] (N := 2) rfl (by decide +kernel) rfl rfl hl.1 rfl (Nat.le_of_ble_eq_true rfl) ⟨Nat.le_of_ble_eq_true rfl, Nat.le_of_ble_eq_true rfl⟩ dX4_init_34 (fun u_21 H locs hP hD hS => ?_)
  obtain ⟨n_21_0, n_21_1, n_21_2⟩ := u_21
  replace hP : va_P D vwCl [(a_t, .inr (4, [.int (0 : Int32), .int (0 : Int32), .int (0 : Int32), .int (0 : Int32), .int (0 : Int32), .null, .null])), (q_30_19, .inr (10, [.ref n_21_0, .ref n_21_1, .ref n_21_2])), (n_21_0, .inr (3, [.int (0 : Int32), .int (10 : Int32), .int (0 : Int32), .int (0 : Int32), .int (0 : Int32), .int (0 : Int32), .int (0 : Int32), .int (0 : Int32), .int (0 : Int32)])), (n_21_1, .inl (cy 1, 10, .inl (fun _ => 0))), (n_21_2, .inl (cy 1, 10, .inl (fun _ => 0)))] H := hP
  replace hD : va_D A [(a_t, .inr (4, [.int (0 : Int32), .int (0 : Int32), .int (0 : Int32), .int (0 : Int32), .int (0 : Int32), .null, .null])), (q_30_19, .inr (10, [.ref n_21_0, .ref n_21_1, .ref n_21_2])), (n_21_0, .inr (3, [.int (0 : Int32), .int (10 : Int32), .int (0 : Int32), .int (0 : Int32), .int (0 : Int32), .int (0 : Int32), .int (0 : Int32), .int (0 : Int32), .int (0 : Int32)])), (n_21_1, .inl (cy 1, 10, .inl (fun _ => 0))), (n_21_2, .inl (cy 1, 10, .inl (fun _ => 0)))] := hD
  refine pf_X4_30 hx hb hw hown hin hK hP hD hS 0 rfl rfl rfl rfl dX4_init_37 (fun H locs hP hD hS => ?_)
  replace hP : va_P D vwCl [(a_t, .inr (4, [.int (0 : Int32), .int (0 : Int32), .int (0 : Int32), .int (0 : Int32), .int (0 : Int32), .ref q_30_19, .null])), (q_30_19, .inr (10, [.ref n_21_0, .ref n_21_1, .ref n_21_2])), (n_21_0, .inr (3, [.int (0 : Int32), .int (10 : Int32), .int (0 : Int32), .int (0 : Int32), .int (0 : Int32), .int (0 : Int32), .int (0 : Int32), .int (0 : Int32), .int (0 : Int32)])), (n_21_1, .inl (cy 1, 10, .inl (fun _ => 0))), (n_21_2, .inl (cy 1, 10, .inl (fun _ => 0)))] H := hP
  replace hD : va_D A [(a_t, .inr (4, [.int (0 : Int32), .int (0 : Int32), .int (0 : Int32), .int (0 : Int32), .int (0 : Int32), .ref q_30_19, .null])), (q_30_19, .inr (10, [.ref n_21_0, .ref n_21_1, .ref n_21_2])), (n_21_0, .inr (3, [.int (0 : Int32), .int (10 : Int32), .int (0 : Int32), .int (0 : Int32), .int (0 : Int32), .int (0 : Int32), .int (0 : Int32), .int (0 : Int32), .int (0 : Int32)])), (n_21_1, .inl (cy 1, 10, .inl (fun _ => 0))), (n_21_2, .inl (cy 1, 10, .inl (fun _ => 0)))] := hD
  refine lv_aload_n hx hb dX4_init_40 rfl (lv_at hl 0 rfl) ?_
  refine lv_bipush (v := 11) hx hb dX4_init_41 (by decide) ?_
  refine nwa (atype := .int) (ty := .int) (N' := 11) (a0 := (11, .inl (fun _ => 0))) hx hb rfl (hw _ mx_1_124) hK hP hD hS hA 1 rfl (fun _ => rfl) (fun _ => rfl) (by decide) (by decide) (by decide) (Nat.le_of_ble_eq_true rfl) (Nat.le_of_ble_eq_true rfl) dX4_init_43 (fun q_43_25 H hP hD hS => ?_)
  replace hP : va_P D vwCl [(a_t, .inr (4, [.int (0 : Int32), .int (0 : Int32), .int (0 : Int32), .int (0 : Int32), .int (0 : Int32), .ref q_30_19, .null])), (q_30_19, .inr (10, [.ref n_21_0, .ref n_21_1, .ref n_21_2])), (n_21_0, .inr (3, [.int (0 : Int32), .int (10 : Int32), .int (0 : Int32), .int (0 : Int32), .int (0 : Int32), .int (0 : Int32), .int (0 : Int32), .int (0 : Int32), .int (0 : Int32)])), (n_21_1, .inl (cy 1, 10, .inl (fun _ => 0))), (n_21_2, .inl (cy 1, 10, .inl (fun _ => 0))), (q_43_25, .inl (cy 1, 11, .inl (fun _ => 0)))] H := hP
  replace hD : va_D A [(a_t, .inr (4, [.int (0 : Int32), .int (0 : Int32), .int (0 : Int32), .int (0 : Int32), .int (0 : Int32), .ref q_30_19, .null])), (q_30_19, .inr (10, [.ref n_21_0, .ref n_21_1, .ref n_21_2])), (n_21_0, .inr (3, [.int (0 : Int32), .int (10 : Int32), .int (0 : Int32), .int (0 : Int32), .int (0 : Int32), .int (0 : Int32), .int (0 : Int32), .int (0 : Int32), .int (0 : Int32)])), (n_21_1, .inl (cy 1, 10, .inl (fun _ => 0))), (n_21_2, .inl (cy 1, 10, .inl (fun _ => 0))), (q_43_25, .inl (cy 1, 11, .inl (fun _ => 0)))] := hD
  refine pf_X4_34 hx hb hw hown hin hK hP hD hS 0 rfl rfl rfl rfl dX4_init_45 (fun H locs hP hD hS => ?_)
  replace hP : va_P D vwCl [(a_t, .inr (4, [.int (0 : Int32), .int (0 : Int32), .int (0 : Int32), .int (0 : Int32), .int (0 : Int32), .ref q_30_19, .ref q_43_25])), (q_30_19, .inr (10, [.ref n_21_0, .ref n_21_1, .ref n_21_2])), (n_21_0, .inr (3, [.int (0 : Int32), .int (10 : Int32), .int (0 : Int32), .int (0 : Int32), .int (0 : Int32), .int (0 : Int32), .int (0 : Int32), .int (0 : Int32), .int (0 : Int32)])), (n_21_1, .inl (cy 1, 10, .inl (fun _ => 0))), (n_21_2, .inl (cy 1, 10, .inl (fun _ => 0))), (q_43_25, .inl (cy 1, 11, .inl (fun _ => 0)))] H := hP
  replace hD : va_D A [(a_t, .inr (4, [.int (0 : Int32), .int (0 : Int32), .int (0 : Int32), .int (0 : Int32), .int (0 : Int32), .ref q_30_19, .ref q_43_25])), (q_30_19, .inr (10, [.ref n_21_0, .ref n_21_1, .ref n_21_2])), (n_21_0, .inr (3, [.int (0 : Int32), .int (10 : Int32), .int (0 : Int32), .int (0 : Int32), .int (0 : Int32), .int (0 : Int32), .int (0 : Int32), .int (0 : Int32), .int (0 : Int32)])), (n_21_1, .inl (cy 1, 10, .inl (fun _ => 0))), (n_21_2, .inl (cy 1, 10, .inl (fun _ => 0))), (q_43_25, .inl (cy 1, 11, .inl (fun _ => 0)))] := hD
  refine W.widen (k := 5) (n := 43) (Nat.le_of_ble_eq_true rfl) (Nat.le_of_ble_eq_true rfl) ?_
  exact W.vret hx hb hr (fun t ht hW => ⟨⟨(q_30_19, n_21_0, n_21_1, n_21_2, q_43_25), rfl, trivial, by rw [ht]; exact hP, by rw [hAe]; exact hD⟩, hS.F ht⟩) hS.2.2 dX4_init_48
theorem mx_2_166 : Cond.methodLink RX0 3 objectInit ∈ LW := lw_2 (List.mem_of_getElem? (i := 166) (by decide +kernel)) (by decide +kernel)
theorem mx_2_173 : Cond.fieldLink RX0 18 "BoathouseKey$Chances" "keyAt" "[J" ∈ LW := lw_2 (List.mem_of_getElem? (i := 173) (by decide +kernel)) (by decide +kernel)
theorem pf_X0_18 {p : Program} {l : Launch} {e : Env} {R : Room} {s : State} {m : MethodId} {args : Array Value} {below : List Frame} {meth : Method} {c : Code} {H : Heap} {locs : List Loc} {cells slots : Nat} {Q : State → Prop} {cc : ByteArray} {pc : Nat} {ls : Array Slot} {rest : List Value} {D : va_G} {A : Nat → Prop} {a : Nat} {tys : List (ClassId × FieldType)} {ws : va_W} {H0 : Heap} (hx : p.tables.exec = Jvm.exec) (hb : c.code = cc) (hw : ∀ w ∈ LW, w.before args s = true) (hown : s.vm.findClass RX0 = some m.cls) (hin : meth.name = "<init>") (hK : va_K D vwCl tys s) (hP : va_P D vwCl ws H) (hD : va_D A ws) (hS : va_S A H0 H locs) (q0 : Nat) {fs : List Value} (he : ws[q0]? = some (a, .inr (0, fs))) {v : Value} (hn : narrow (tyX0 2) v = v) (hfit : fits (tyX0 2) v = true) (hl : Nat.ble (2 + 1) fs.length = true) (hdg : decode cc pc = .ok (.putfield 18, 3)) (kk : ∀ (H1 : Heap) (locs1 : List Loc), va_P D vwCl (ws.set q0 (a, .inr (0, fs.set 2 v))) H1 → va_D A (ws.set q0 (a, .inr (0, fs.set 2 v))) → va_S A H0 H1 locs1 → W p l e R s m args below meth c H1 locs1 cells slots Q (F0 m (pc + 3) ls rest)) : W p l e R s m args below meth c H locs cells slots Q (F0 m pc ls (v :: .ref a :: rest)) := va_putF hx hb hw i_X0 tyX0 tyX0_ok nmX0 hown hK hP hD hS q0 he rfl 2 (Nat.le_of_ble_eq_true rfl) (hw _ mx_2_173) (fun _ h => h) rfl hin rfl (tyX0_ok 2 (Nat.le_of_ble_eq_true rfl)) hn hfit (Nat.le_of_ble_eq_true hl) hdg kk
theorem mx_2_167 : Cond.classLink RX0 22 RX10 ∈ LW := lw_2 (List.mem_of_getElem? (i := 167) (by decide +kernel)) (by decide +kernel)
theorem kt_X0_24 : LkJ RX0 24 yX10_init cX10_init 1 0 := ⟨List.mem_of_getElem? (i := 7) rfl, mx_2_4, mx_1_8, mx_2_5, ⟨by decide +kernel, by decide +kernel, by decide +kernel⟩, rfl⟩
theorem mx_2_175 : Cond.fieldLink RX0 25 "BoathouseKey$Chances" "oneWeek" "LBoathouseKey$Week;" ∈ LW := lw_2 (List.mem_of_getElem? (i := 175) (by decide +kernel)) (by decide +kernel)
theorem pf_X0_25 {p : Program} {l : Launch} {e : Env} {R : Room} {s : State} {m : MethodId} {args : Array Value} {below : List Frame} {meth : Method} {c : Code} {H : Heap} {locs : List Loc} {cells slots : Nat} {Q : State → Prop} {cc : ByteArray} {pc : Nat} {ls : Array Slot} {rest : List Value} {D : va_G} {A : Nat → Prop} {a : Nat} {tys : List (ClassId × FieldType)} {ws : va_W} {H0 : Heap} (hx : p.tables.exec = Jvm.exec) (hb : c.code = cc) (hw : ∀ w ∈ LW, w.before args s = true) (hown : s.vm.findClass RX0 = some m.cls) (hin : meth.name = "<init>") (hK : va_K D vwCl tys s) (hP : va_P D vwCl ws H) (hD : va_D A ws) (hS : va_S A H0 H locs) (q0 : Nat) {fs : List Value} (he : ws[q0]? = some (a, .inr (0, fs))) {v : Value} (hn : narrow (tyX0 3) v = v) (hfit : fits (tyX0 3) v = true) (hl : Nat.ble (3 + 1) fs.length = true) (hdg : decode cc pc = .ok (.putfield 25, 3)) (kk : ∀ (H1 : Heap) (locs1 : List Loc), va_P D vwCl (ws.set q0 (a, .inr (0, fs.set 3 v))) H1 → va_D A (ws.set q0 (a, .inr (0, fs.set 3 v))) → va_S A H0 H1 locs1 → W p l e R s m args below meth c H1 locs1 cells slots Q (F0 m (pc + 3) ls rest)) : W p l e R s m args below meth c H locs cells slots Q (F0 m pc ls (v :: .ref a :: rest)) := va_putF hx hb hw i_X0 tyX0 tyX0_ok nmX0 hown hK hP hD hS q0 he rfl 3 (Nat.le_of_ble_eq_true rfl) (hw _ mx_2_175) (fun _ h => h) rfl hin rfl (tyX0_ok 3 (Nat.le_of_ble_eq_true rfl)) hn hfit (Nat.le_of_ble_eq_true hl) hdg kk
set_option maxHeartbeats 4000000 in
set_option maxRecDepth 100000 in
theorem t_X0_init {l : Launch} {D : va_G} {cy : Nat → ClassId} (a_t : Nat) (sz : Nat) : Ct (S := Nat × Nat × Nat × Nat × Nat) l yX0_init cX0_init 1 3 5 43 52 D cy [.ref a_t] [(a_t, .inr (0, [.long 0, .long 0, .null, .null]))] (fun u => [(a_t, .inr (0, [.long (0 : Int64), .long (0 : Int64), .ref (u.1), .ref (u.2.1)])), ((u.1), .inl (cy 2, 11, .inr (.inl (fun _ => 0)))), ((u.2.1), .inr (10, [.ref (u.2.2.1), .ref (u.2.2.2.1), .ref (u.2.2.2.2)])), ((u.2.2.1), .inr (3, [.int (0 : Int32), .int (10 : Int32), .int (0 : Int32), .int (0 : Int32), .int (0 : Int32), .int (0 : Int32), .int (0 : Int32), .int (0 : Int32), .int (0 : Int32)])), ((u.2.2.2.1), .inl (cy 1, 10, .inl (fun _ => 0))), ((u.2.2.2.2), .inl (cy 1, 10, .inl (fun _ => 0)))]) sz := by
  refine Met.ofW (cc := cX0_init) (maxL := 1) (ret := none) (by decide) rfl ?_
  intro p e s m args below meth c s₁ B hml hv
  obtain ⟨rfl, hsz, hP, hG, hD0⟩ := hv
  subst hsz
  have hD := hD0.self (sz := s.heap.size)
  have hx := B.exec
  have hb := B.bytes
  have hr := B.returns
  have hlocks := B.notSynchronized
  have hown : s.vm.findClass RX0 = some m.cls := findClass_of_methodNamed B.named
  have hts := atoms_spec (ws := Cond.code yX0_init cX0_init 1 none :: LW) B.pre
  have hw : ∀ w ∈ LW, w.before _ s = true := fun w h => hts w (List.mem_cons_of_mem _ h)
  have hK := hG.1
  have hin : meth.name = "<init>" := (name_of_methodNamed B.named B.method).1
  generalize hAe : va_A [(a_t, .inr (0, [.long 0, .long 0, .null, .null]))] s.heap.size = A at hD ⊢
  have hA : ∀ q : Nat, s.heap.size ≤ q → A q := fun q h => by rw [← hAe]; exact Or.inr h
  have hS : va_S A s.heap s.heap [] := va_S.rf
  have hl := lv_entry ([.ref a_t]) (n := 1) (Nat.le_of_ble_eq_true rfl)
  rw [lg_entry_eq]
  generalize (lg_sl ([.ref a_t]) ++ List.replicate (1 - (lg_sl ([.ref a_t])).length) Slot.unset).toArray = ls at hl ⊢
  refine lv_aload_n hx hb dX0_init_0 rfl (lv_at hl 0 rfl) ?_
  refine W.objInit hx hb hown (hw _ mx_2_166) (hw _ mx_1_24) (hw _ mx_1_25) rfl (by rw [hml]; exact hl.1) rfl dX0_init_1 (Nat.le_of_ble_eq_true rfl) (Nat.le_of_ble_eq_true rfl) ?_
  refine W.eq (g2 := F0 m 4 ls []) rfl ?_
  refine lv_aload_n hx hb dX0_init_4 rfl (lv_at hl 0 rfl) ?_
  refine lv_lconst (v := 0) hx hb dX0_init_5 (by decide) ?_
  refine p_X0_9 hx hb hw hown hK hP hD hS 0 rfl rfl rfl rfl dX0_init_6 (fun H locs hP hD hS => ?_)
  replace hP : va_P D vwCl [(a_t, .inr (0, [.long (0 : Int64), .long 0, .null, .null]))] H := hP
  replace hD : va_D A [(a_t, .inr (0, [.long (0 : Int64), .long 0, .null, .null]))] := hD
  refine lv_aload_n hx hb dX0_init_9 rfl (lv_at hl 0 rfl) ?_
  refine lv_lconst (v := 0) hx hb dX0_init_10 (by decide) ?_
  refine p_X0_15 hx hb hw hown hK hP hD hS 0 rfl rfl rfl rfl dX0_init_11 (fun H locs hP hD hS => ?_)
  replace hP : va_P D vwCl [(a_t, .inr (0, [.long (0 : Int64), .long (0 : Int64), .null, .null]))] H := hP
  replace hD : va_D A [(a_t, .inr (0, [.long (0 : Int64), .long (0 : Int64), .null, .null]))] := hD
  refine lv_aload_n hx hb dX0_init_14 rfl (lv_at hl 0 rfl) ?_
  refine lv_bipush (v := 11) hx hb dX0_init_15 (by decide) ?_
  refine nwa (atype := .long) (ty := .long) (N' := 11) (a0 := (11, .inr (.inl (fun _ => 0)))) hx hb rfl (hw _ mx_2_185) hK hP hD hS hA 2 rfl (fun _ => rfl) (fun _ => rfl) (by decide) (by decide) (by decide) (Nat.le_of_ble_eq_true rfl) (Nat.le_of_ble_eq_true rfl) dX0_init_17 (fun q_17_11 H hP hD hS => ?_)
  replace hP : va_P D vwCl [(a_t, .inr (0, [.long (0 : Int64), .long (0 : Int64), .null, .null])), (q_17_11, .inl (cy 2, 11, .inr (.inl (fun _ => 0))))] H := hP
  replace hD : va_D A [(a_t, .inr (0, [.long (0 : Int64), .long (0 : Int64), .null, .null])), (q_17_11, .inl (cy 2, 11, .inr (.inl (fun _ => 0))))] := hD
  refine pf_X0_18 hx hb hw hown hin hK hP hD hS 0 rfl rfl rfl rfl dX0_init_19 (fun H locs hP hD hS => ?_)
  replace hP : va_P D vwCl [(a_t, .inr (0, [.long (0 : Int64), .long (0 : Int64), .ref q_17_11, .null])), (q_17_11, .inl (cy 2, 11, .inr (.inl (fun _ => 0))))] H := hP
  replace hD : va_D A [(a_t, .inr (0, [.long (0 : Int64), .long (0 : Int64), .ref q_17_11, .null])), (q_17_11, .inl (cy 2, 11, .inr (.inl (fun _ => 0))))] := hD
  refine lv_aload_n hx hb dX0_init_22 rfl (lv_at hl 0 rfl) ?_
  refine va_new (ci := 10) (fs := [.null, .null, .null]) (C := RX10) (T := TX10) (N := 3) hx hb hw i_X10 tyX10 tyX10_ok hown (hw _ mx_2_167) (hw _ mx_2_2) (hw _ mx_1_8) hK hP hD hS hA rfl (fun j hj => by match j, hj with | 0, _ => rfl | 1, _ => rfl | 2, _ => rfl | j + 3, h => exact absurd h (by omega)) (Nat.le_of_ble_eq_true rfl) (Nat.le_of_ble_eq_true rfl) dX0_init_23 (fun q_23_14 H hP hD hS => ?_)
  replace hP : va_P D vwCl [(a_t, .inr (0, [.long (0 : Int64), .long (0 : Int64), .ref q_17_11, .null])), (q_17_11, .inl (cy 2, 11, .inr (.inl (fun _ => 0)))), (q_23_14, .inr (10, [.null, .null, .null]))] H := hP
  replace hD : va_D A [(a_t, .inr (0, [.long (0 : Int64), .long (0 : Int64), .ref q_17_11, .null])), (q_17_11, .inl (cy 2, 11, .inr (.inl (fun _ => 0)))), (q_23_14, .inr (10, [.null, .null, .null]))] := hD
  refine lv_dup hx hb dX0_init_26 rfl ?_
  refine ctJ (As := []) (rest := [.ref q_23_14, .ref a_t]) hx hb hml hown hts hG hP hD hS hA kt_X0_24 (t_X10_init (l := l) (D := D) (cy := cy) q_23_14 H.size) ⟨Nat.le_of_ble_eq_true rfl, Nat.le_of_ble_eq_true rfl⟩ [2] [0, 1] (N := 3) rfl (by decide +kernel) rfl rfl hl.1 rfl (Nat.le_of_ble_eq_true rfl) ⟨Nat.le_of_ble_eq_true rfl, Nat.le_of_ble_eq_true rfl⟩ dX0_init_27 (fun u_16 H locs hP hD hS => ?_)
  obtain ⟨n_16_0, n_16_1, n_16_2⟩ := u_16
  replace hP : va_P D vwCl [(a_t, .inr (0, [.long (0 : Int64), .long (0 : Int64), .ref q_17_11, .null])), (q_17_11, .inl (cy 2, 11, .inr (.inl (fun _ => 0)))), (q_23_14, .inr (10, [.ref n_16_0, .ref n_16_1, .ref n_16_2])), (n_16_0, .inr (3, [.int (0 : Int32), .int (10 : Int32), .int (0 : Int32), .int (0 : Int32), .int (0 : Int32), .int (0 : Int32), .int (0 : Int32), .int (0 : Int32), .int (0 : Int32)])), (n_16_1, .inl (cy 1, 10, .inl (fun _ => 0))), (n_16_2, .inl (cy 1, 10, .inl (fun _ => 0)))] H := hP
  replace hD : va_D A [(a_t, .inr (0, [.long (0 : Int64), .long (0 : Int64), .ref q_17_11, .null])), (q_17_11, .inl (cy 2, 11, .inr (.inl (fun _ => 0)))), (q_23_14, .inr (10, [.ref n_16_0, .ref n_16_1, .ref n_16_2])), (n_16_0, .inr (3, [.int (0 : Int32), .int (10 : Int32), .int (0 : Int32), .int (0 : Int32), .int (0 : Int32), .int (0 : Int32), .int (0 : Int32), .int (0 : Int32), .int (0 : Int32)])), (n_16_1, .inl (cy 1, 10, .inl (fun _ => 0))), (n_16_2, .inl (cy 1, 10, .inl (fun _ => 0)))] := hD
  refine pf_X0_25 hx hb hw hown hin hK hP hD hS 0 rfl rfl rfl rfl dX0_init_30 (fun H locs hP hD hS => ?_)
  replace hP : va_P D vwCl [(a_t, .inr (0, [.long (0 : Int64), .long (0 : Int64), .ref q_17_11, .ref q_23_14])), (q_17_11, .inl (cy 2, 11, .inr (.inl (fun _ => 0)))), (q_23_14, .inr (10, [.ref n_16_0, .ref n_16_1, .ref n_16_2])), (n_16_0, .inr (3, [.int (0 : Int32), .int (10 : Int32), .int (0 : Int32), .int (0 : Int32), .int (0 : Int32), .int (0 : Int32), .int (0 : Int32), .int (0 : Int32), .int (0 : Int32)])), (n_16_1, .inl (cy 1, 10, .inl (fun _ => 0))), (n_16_2, .inl (cy 1, 10, .inl (fun _ => 0)))] H := hP
  replace hD : va_D A [(a_t, .inr (0, [.long (0 : Int64), .long (0 : Int64), .ref q_17_11, .ref q_23_14])), (q_17_11, .inl (cy 2, 11, .inr (.inl (fun _ => 0)))), (q_23_14, .inr (10, [.ref n_16_0, .ref n_16_1, .ref n_16_2])), (n_16_0, .inr (3, [.int (0 : Int32), .int (10 : Int32), .int (0 : Int32), .int (0 : Int32), .int (0 : Int32), .int (0 : Int32), .int (0 : Int32), .int (0 : Int32), .int (0 : Int32)])), (n_16_1, .inl (cy 1, 10, .inl (fun _ => 0))), (n_16_2, .inl (cy 1, 10, .inl (fun _ => 0)))] := hD
  refine W.widen (k := 5) (n := 43) (Nat.le_of_ble_eq_true rfl) (Nat.le_of_ble_eq_true rfl) ?_
  exact W.vret hx hb hr (fun t ht hW => ⟨⟨(q_17_11, q_23_14, n_16_0, n_16_1, n_16_2), rfl, trivial, by rw [ht]; exact hP, by rw [hAe]; exact hD⟩, hS.F ht⟩) hS.2.2 dX0_init_33

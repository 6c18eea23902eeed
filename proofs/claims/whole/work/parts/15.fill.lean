/-! constructors: they make cells -/
abbrev rmc (f mc ms lo : Nat) : Room := { frames := f, cells := mc, slots := ms, locals := lo }
def LkI (own : String) (ix : Nat) (y : MethodName) (b : ByteArray) (ml n : Nat) : Prop := Cond.methodLink own ix y ∈ LW ∧ Cond.instanceMethod y ∈ LW ∧ Cond.initialized y.cls ∈ LW ∧ Cond.code y b ml none ∈ LW ∧ nmOk y n ∧ y.name = "<init>"
def LkJ (own : String) (ix : Nat) (y : MethodName) (b : ByteArray) (ml n : Nat) : Prop := (own, ix, y, RX11) ∈ nestL ∧ Cond.instanceMethod y ∈ LW ∧ Cond.initialized y.cls ∈ LW ∧ Cond.code y b ml none ∈ LW ∧ nmOk y n ∧ y.name = "<init>"
abbrev Ct {S : Type} (l : Launch) (y : MethodName) (b : ByteArray) (ml f mc ms lo : Nat) (D : va_G) (cy : Nat → ClassId) (av : List Value) (ws : va_W) (w1 : S → va_W) (sz : Nat) : Prop :=
  Met l y (.code y b ml none :: LW) (rmc f mc ms lo) (va_Pc av (PrM D cy ws sz)) (va_Qv (fun (_ : S) => True) (PoM D ws w1 sz) (va_A ws sz)) mc ms (va_A ws sz)
section CT
variable {p : Program} {l : Launch} {e : Env} {R : Room} {s : State} {m : MethodId} {args : Array Value} {below : List Frame} {meth : Method} {c : Code} {H : Heap} {locs : List Loc} {cells slots : Nat} {Q : State → Prop}
variable {cc b : ByteArray} {pc ml f mc ms lo n ix nL a N : Nat} {ls : Array Slot} {rest As st0 : List Value} {D : va_G} {cy : Nat → ClassId} {A : Nat → Prop} {ws wc : va_W} {c0 : Cond} {own : String} {y : MethodName}
theorem ctI {S : Type} {w1 : S → va_W} (hx : p.tables.exec = Jvm.exec) (hb : c.code = cc) (hml : c.maxLocals = nL) (hown : s.vm.findClass own = some m.cls) (ht : ∀ w ∈ c0 :: LW, w.before args s = true) (hG : GW D cy s) (hP : va_P D vwCl ws H) (hD : va_D A ws) (hS : va_S A s.heap H locs) (hA : ∀ q, s.heap.size ≤ q → A q)
    (lk : LkI own ix y b ml n) (hM : Ct l y b ml f mc ms lo D cy (.ref a :: As) wc w1 H.size) (hR : f + 1 ≤ R.frames ∧ 8 + (ml + 11) + lo ≤ R.locals) (isC isR : List Nat) (hN : ws.length = N) (hk : wchk isC isR [] N = true) (hC : isC.filterMap (fun i => ws[i]?) = wc)
    (hn : As.length = n) (hsize : ls.size = nL) (hst : st0 = As.reverse ++ .ref a :: rest) (hW : (rest.map fun v => v.category).sum ≤ 8) (hf : cells + mc ≤ R.cells ∧ slots + ms ≤ R.slots) (hdg : decode cc pc = .ok (.invokespecial ix, 3))
    (kk : ∀ (u : S) (H1 : Heap) (locs1 : List Loc), va_P D vwCl (isR.filterMap (fun i => ws[i]?) ++ w1 u) H1 → va_D A (isR.filterMap (fun i => ws[i]?) ++ w1 u) → va_S A s.heap H1 locs1 → W p l e R s m args below meth c H1 locs1 (cells + mc) (slots + ms) Q (F0 m (pc + 3) ls rest)) : W p l e R s m args below meth c H locs cells slots Q (F0 m pc ls st0) := by
  obtain ⟨h1, h2, h3, h4, h5, h6⟩ := wchk_spec hk
  subst hN
  subst hst
  have hFc := wr_free hD hS hA isC hC h1
  obtain ⟨k1, k2, k3, k4, k5, k6⟩ := lk
  have up : ∀ w ∈ LW, w.before args s = true := fun w h => ht w (List.mem_cons_of_mem _ h)
  refine va_callv (va_runI (As := As) (rest := rest) ⟨hx, hb, hml, hown, ht⟩ hM ⟨callB_of n ht (LW_in k4) rfl rfl rfl (up _ k3) (up _ k1) k5 hR, k6, up _ k2⟩ (preMS (As := .ref a :: As) hG hP hD isC hC h1 h3) rfl hn hsize rfl (lv_room hW) hdg hf) hS (fun q _ h => hFc q h) hFc (fun u t H1 locs1 ht hvm hw hB hz1 hk1 hS => ?_)
  obtain ⟨hP, hD⟩ := wr_join hP hD hFc isC isR hC h1 h2 h4 h5 hk1 ht hB
  exact kk u H1 locs1 hP hD hS
theorem ctJ {S : Type} {w1 : S → va_W} (hx : p.tables.exec = Jvm.exec) (hb : c.code = cc) (hml : c.maxLocals = nL) (hown : s.vm.findClass own = some m.cls) (ht : ∀ w ∈ c0 :: LW, w.before args s = true) (hG : GW D cy s) (hP : va_P D vwCl ws H) (hD : va_D A ws) (hS : va_S A s.heap H locs) (hA : ∀ q, s.heap.size ≤ q → A q)
    (lk : LkJ own ix y b ml n) (hM : Ct l y b ml f mc ms lo D cy (.ref a :: As) wc w1 H.size) (hR : f + 1 ≤ R.frames ∧ 8 + (ml + 11) + lo ≤ R.locals) (isC isR : List Nat) (hN : ws.length = N) (hk : wchk isC isR [] N = true) (hC : isC.filterMap (fun i => ws[i]?) = wc)
    (hn : As.length = n) (hsize : ls.size = nL) (hst : st0 = As.reverse ++ .ref a :: rest) (hW : (rest.map fun v => v.category).sum ≤ 8) (hf : cells + mc ≤ R.cells ∧ slots + ms ≤ R.slots) (hdg : decode cc pc = .ok (.invokespecial ix, 3))
    (kk : ∀ (u : S) (H1 : Heap) (locs1 : List Loc), va_P D vwCl (isR.filterMap (fun i => ws[i]?) ++ w1 u) H1 → va_D A (isR.filterMap (fun i => ws[i]?) ++ w1 u) → va_S A s.heap H1 locs1 → W p l e R s m args below meth c H1 locs1 (cells + mc) (slots + ms) Q (F0 m (pc + 3) ls rest)) : W p l e R s m args below meth c H locs cells slots Q (F0 m pc ls st0) := by
  obtain ⟨h1, h2, h3, h4, h5, h6⟩ := wchk_spec hk
  subst hN
  subst hst
  have hFc := wr_free hD hS hA isC hC h1
  obtain ⟨k1, k2, k3, k4, k5, k6⟩ := lk
  have up : ∀ w ∈ LW, w.before args s = true := fun w h => ht w (List.mem_cons_of_mem _ h)
  refine va_callv (va_runIN (As := As) (rest := rest) ⟨hx, hb, hml, hown, ht⟩ hM ⟨va_cnB n ht (LW_in k4) rfl rfl rfl (hG.2 _ k1) (up _ k3) k5 hR, k6, up _ k2⟩ (preMS (As := .ref a :: As) hG hP hD isC hC h1 h3) rfl hn hsize rfl (lv_room hW) hdg hf) hS (fun q _ h => hFc q h) hFc (fun u t H1 locs1 ht hvm hw hB hz1 hk1 hS => ?_)
  obtain ⟨hP, hD⟩ := wr_join hP hD hFc isC isR hC h1 h2 h4 h5 hk1 ht hB
  exact kk u H1 locs1 hP hD hS
/-- new arrays: their class is the one of that name -/
theorem nwa (hx : p.tables.exec = Jvm.exec) (hb : c.code = cc) {atype : ArrayType} {ty : FieldType} (hty : newarray.typeOf atype = ty) (harr : (Cond.arrayClass (newarray.typeOf atype)).before args s = true) (hK : va_K D vwCl (TY cy) s) (hP : va_P D vwCl ws H) (hD : va_D A ws) (hS : va_S A s.heap H locs) (hA : ∀ q, s.heap.size ≤ q → A q) (k : Nat) (hk : (TY cy)[k]? = some (cy k, ty)) (hra : ∀ cA, va_RA s cA ty = (s.vm.findClass ("[" ++ ty.toString) = some cA))
    {n : Int32} {N' : Nat} {a0 : vp_A} (ha : ∀ cA : ClassId, vp_cell cA a0 = arrV cA N' (fun _ => defaultValue ty)) (hn : ¬ n < 0) (hN : n.toNatClampNeg = N') (hbytes : N' * componentBytes ty ≤ 536870912) (hcells : cells + 1 ≤ R.cells) (hslots : slots + N' ≤ R.slots) (hdg : decode cc pc = .ok (.newarray atype, 2))
    (kk : ∀ (q : Nat) (H1 : Heap), va_P D vwCl (ws ++ [(q, .inl (cy k, a0))]) H1 → va_D A (ws ++ [(q, .inl (cy k, a0))]) → va_S A s.heap H1 locs →
      W p l e R s m args below meth c H1 locs (cells + 1) (slots + N') Q (F0 m (pc + 2) ls (.ref q :: rest))) : W p l e R s m args below meth c H locs cells slots Q (F0 m pc ls (.int n :: rest)) := by
  refine va_newa hx hb harr hty hK hP hD hS hA ha hn hN hbytes hcells hslots hdg (fun q cA H1 hK2 hP hD hS => ?_)
  have e1 := (hK2.2 6 (cA, ty) rfl).2
  have e2 := (hK.2 k (cy k, ty) hk).2
  rw [hra] at e1 e2
  have e3 : cA = cy k := Option.some.inj (e1.symm.trans e2)
  subst e3
  exact kk q H1 hP hD hS
theorem nwq (hx : p.tables.exec = Jvm.exec) (hb : c.code = cc) {C : String} {index : Nat} (hown : s.vm.findClass own = some m.cls) (hclink : (Cond.classLink own index C).before args s = true) (hover : va_AO C s) (hK : va_K D vwCl (TY cy) s) (hP : va_P D vwCl ws H) (hD : va_D A ws) (hS : va_S A s.heap H locs) (hA : ∀ q, s.heap.size ≤ q → A q) (k : Nat) (hk : (TY cy)[k]? = some (cy k, .object C))
    {n : Int32} {N' : Nat} (hn : ¬ n < 0) (hN : n.toNatClampNeg = N') (hbytes : N' * 4 ≤ 536870912) (hcells : cells + 1 ≤ R.cells) (hslots : slots + N' ≤ R.slots) (hdg : decode cc pc = .ok (.anewarray index, 3))
    (kk : ∀ (q : Nat) (H1 : Heap), va_P D vwCl (ws ++ [(q, .inl (cy k, N', .inr (.inr (.inr (.inr (fun _ => none))))))]) H1 → va_D A (ws ++ [(q, .inl (cy k, N', .inr (.inr (.inr (.inr (fun _ => none))))))]) → va_S A s.heap H1 locs →
      W p l e R s m args below meth c H1 locs (cells + 1) (slots + N') Q (F0 m (pc + 3) ls (.ref q :: rest))) : W p l e R s m args below meth c H locs cells slots Q (F0 m pc ls (.int n :: rest)) := by
  refine va_newq hx hb hown hclink hover hK hP hD hS hA hn hN hbytes hcells hslots hdg (fun q cA H1 hK2 hP hD hS => ?_)
  obtain ⟨_, _, _, _, _, e1⟩ := (hK2.2 6 (cA, .object C) rfl).2
  obtain ⟨_, _, _, _, _, e2⟩ := (hK.2 k (cy k, .object C) hk).2
  have e3 : cA = cy k := Option.some.inj (e1.symm.trans e2)
  subst e3
  exact kk q H1 hP hD hS
end CT
/-- Arrays.fill over ints, longs -/
theorem fi_loop (x : Int32) (N : Nat) (hN : N < 2 ^ 31) : ∀ (n i : Nat) (f : Nat → Int32), i ≤ N → N < i + n → F_J7_fill_53178_L5 x (nI N) n f (nI i) = fun j => if i ≤ j ∧ j < N then x else f j := by
  intro n
  induction n with
  | zero => intro i f h1 h2; omega
  | succ n ih =>
    intro i f h1 h2
    rw [F_J7_fill_53178_L5_s]
    by_cases h : i = N
    · subst h
      rw [if_pos (Int32.le_refl _)]
      funext j
      rw [if_neg (by omega)]
    · have hlt : i < N := by omega
      rw [if_neg (nI_ge hlt hN), nI_1, ih (i + 1) _ (by omega) (by omega), nI_clamp (by omega)]
      funext j
      by_cases hj : j = i
      · subst hj
        rw [if_neg (by omega), if_pos (by omega)]
        simp [upd]
      · by_cases hj2 : i ≤ j ∧ j < N
        · rw [if_pos (by omega), if_pos hj2]
        · rw [if_neg (by omega), if_neg hj2]
          simp [upd, hj]
theorem fi_ok_loop (x : Int32) (N : Nat) (hN : N < 2 ^ 31) : ∀ (n i : Nat) (f : Nat → Int32), i ≤ N → N < i + n → ok_J7_fill_53178_L5 N x (nI N) n f (nI i) := by
  intro n
  induction n with
  | zero => intro i f h1 h2; omega
  | succ n ih =>
    intro i f h1 h2
    rw [ok_J7_fill_53178_L5_s]
    intro h
    have hne : ¬ i = N := fun q => h (by subst q; exact Int32.le_refl _)
    refine ⟨vp_in_nI (by omega) hN, ?_⟩
    rw [nI_1]
    exact ih (i + 1) _ (by omega) (by omega)
theorem fill_eq (N : Nat) (hN : N < 4096) (f : Nat → Int32) (x : Int32) : F_J7_fill_53178 N f x = fun j => if j < N then x else f j := by
  have h := fi_loop x N (by omega) FU 0 f (Nat.zero_le _) (by have := FU_ge; omega)
  rw [nI_0] at h
  refine Eq.trans (b := F_J7_fill_53178_L5 x (nI N) FU f 0) rfl (h.trans ?_)
  funext j
  by_cases hj : j < N
  · rw [if_pos ⟨Nat.zero_le _, hj⟩, if_pos hj]
  · rw [if_neg (fun q => hj q.2), if_neg hj]
theorem fill_ok (N : Nat) (hN : N < 4096) (f : Nat → Int32) (x : Int32) : ok_J7_fill_53178 N f x := by
  have h := fi_ok_loop x N (by omega) FU 0 f (Nat.zero_le _) (by have := FU_ge; omega)
  rw [nI_0] at h
  exact h

/-- the loops' fuel: enough, and nothing that unfolds -/
noncomputable def FU : Nat := Classical.choose (⟨4096, Nat.le_refl 4096⟩ : ∃ n : Nat, 4096 ≤ n)
theorem FU_ge : 4096 ≤ FU := Classical.choose_spec (⟨4096, Nat.le_refl 4096⟩ : ∃ n : Nat, 4096 ≤ n)
theorem hRq {α : Type} {β : Type} {V : β} {x y : α} (G : α → β) (e : y = x) (hR : V = G x) : V = G y := by rw [e]; exact hR
theorem hokq {α : Type} {x y : α} (G : α → Prop) (e : y = x) (h : G x) : G y := by rw [e]; exact h
theorem isB_0 : isB 0 := Or.inl rfl
theorem isB_1 : isB 1 := Or.inr rfl
theorem isB_ite {c : Prop} {i : Decidable c} {a b : Int32} (ha : isB a) (hb : isB b) : isB (@ite Int32 c i a b) := by
  by_cases h : c
  · rw [if_pos h]; exact ha
  · rw [if_neg h]; exact hb
/-- what a writer's call needs of the places: closed, for the kernel -/
def wchk (isC isR perm : List Nat) (N : Nat) : Bool := (isC.all fun i => decide (i < N)) && (isR.all fun i => decide (i < N)) && va_nd isC && va_nd isR && (isR.all fun i => decide (i ∉ isC)) && va_nd perm
theorem wchk_spec {isC isR perm : List Nat} {N : Nat} (h : wchk isC isR perm N = true) : (isC.all fun i => decide (i < N)) = true ∧ (isR.all fun i => decide (i < N)) = true ∧ va_nd isC = true ∧ va_nd isR = true ∧ (isR.all fun i => decide (i ∉ isC)) = true ∧ va_nd perm = true := by
  unfold wchk at h
  simp only [Bool.and_eq_true] at h
  exact ⟨h.1.1.1.1.1, h.1.1.1.1.2, h.1.1.1.2, h.1.1.2, h.1.2, h.2⟩
theorem map_pick {ws ws' : va_W} {is : List Nat} (h : is.map (fun i => ws[i]?) = ws'.map some) : is.filterMap (fun i => ws[i]?) = ws' := by
  have h2 : ∀ (is : List Nat) (w : va_W), is.map (fun i => ws[i]?) = w.map some → is.filterMap (fun i => ws[i]?) = w := by
    intro is
    induction is with
    | nil => intro w hw; cases w with
      | nil => rfl
      | cons a b => simp at hw
    | cons i r ih => intro w hw; cases w with
      | nil => simp at hw
      | cons a b =>
        simp only [List.map_cons, List.cons.injEq] at hw
        rw [List.filterMap_cons_some hw.1, ih b hw.2]
  exact h2 is ws' h
section CL2
variable {p : Program} {l : Launch} {e : Env} {R : Room} {s : State} {m : MethodId} {args : Array Value} {below : List Frame} {meth : Method} {c : Code} {H : Heap} {locs : List Loc} {cells slots : Nat} {Q : State → Prop}
variable {cc b : ByteArray} {pc ml f lo n ix nL a sz : Nat} {ls : Array Slot} {rest As st0 : List Value} {D : va_G} {cy : Nat → ClassId} {A : Nat → Prop} {ws wc : va_W} {c0 : Cond} {own : String} {y : MethodName} {ret : Option FieldType}
theorem wkVV {S : Type} {w1 : S → va_W} {F : S} {ci : Nat} {q : vw_C} {fs : List Value} {N : Nat} (hx : p.tables.exec = Jvm.exec) (hb : c.code = cc) (hml : c.maxLocals = nL) (hown : s.vm.findClass own = some m.cls) (ht : ∀ w ∈ c0 :: LW, w.before args s = true) (hG : GW D cy s) (hP : va_P D vwCl ws H) (hD : va_D A ws) (hS : va_S A s.heap H locs) (hA : ∀ q, s.heap.size ≤ q → A q)
    (lk : LkV own ix y b ml ret n) (hM : WrV l y b ml ret f lo D cy (.ref a :: As) wc w1 F H.size) (hR : f + 1 ≤ R.frames ∧ 8 + (ml + 11) + lo ≤ R.locals) (isC isR perm : List Nat) (hN : ws.length = N) (hk : wchk isC isR perm N = true) (hC : isC.filterMap (fun i => ws[i]?) = wc) (q0 : Nat) (hc : vwCl[ci]? = some q) (hq : q.1 = y.cls) (he : ws[q0]? = some (a, .inr (ci, fs)))
    (hn : As.length = n) (hsize : ls.size = nL) (hst : st0 = As.reverse ++ .ref a :: rest) (hW : (rest.map fun v => v.category).sum ≤ 8) (hf : cells ≤ R.cells ∧ slots ≤ R.slots) (hdg : decode cc pc = .ok (.invokevirtual ix, 3)) (w2 : S → va_W) (hp : ∀ u : S, perm.map (fun i => (isR.filterMap (fun i => ws[i]?) ++ w1 u)[i]?) = (w2 u).map some)
    (kk : ∀ (u : S) (H1 : Heap) (locs1 : List Loc), u = F → va_P D vwCl (w2 u) H1 → va_D A (w2 u) → va_S A s.heap H1 locs1 → W p l e R s m args below meth c H1 locs1 cells slots Q (F0 m (pc + 3) ls rest)) : W p l e R s m args below meth c H locs cells slots Q (F0 m pc ls st0) := by
  obtain ⟨h1, h2, h3, h4, h5, h6⟩ := wchk_spec hk
  subst hN
  exact wrVV hx hb hml hown ht hG hP hD hS hA lk hM hR isC isR hC h1 h2 h3 h4 h5 q0 hc hq he hn hsize hst hW hf hdg (fun u H1 locs1 e hP hD hS => kk u H1 locs1 e (hP.sub perm (map_pick (hp u))) (hD.sub perm h6 (hp u)) hS)
theorem wkIV {S : Type} {w1 : S → va_W} {F : Int32 × S} {ci : Nat} {q : vw_C} {fs : List Value} {N : Nat} (hx : p.tables.exec = Jvm.exec) (hb : c.code = cc) (hml : c.maxLocals = nL) (hown : s.vm.findClass own = some m.cls) (ht : ∀ w ∈ c0 :: LW, w.before args s = true) (hG : GW D cy s) (hP : va_P D vwCl ws H) (hD : va_D A ws) (hS : va_S A s.heap H locs) (hA : ∀ q, s.heap.size ≤ q → A q)
    (lk : LkV own ix y b ml ret n) (hM : WrI l y b ml ret f lo D cy (.ref a :: As) wc w1 F H.size) (hR : f + 1 ≤ R.frames ∧ 8 + (ml + 11) + lo ≤ R.locals) (isC isR perm : List Nat) (hN : ws.length = N) (hk : wchk isC isR perm N = true) (hC : isC.filterMap (fun i => ws[i]?) = wc) (q0 : Nat) (hc : vwCl[ci]? = some q) (hq : q.1 = y.cls) (he : ws[q0]? = some (a, .inr (ci, fs)))
    (hn : As.length = n) (hsize : ls.size = nL) (hst : st0 = As.reverse ++ .ref a :: rest) (hW : (rest.map fun v => v.category).sum ≤ 8) (hf : cells ≤ R.cells ∧ slots ≤ R.slots) (hdg : decode cc pc = .ok (.invokevirtual ix, 3)) (w2 : S → va_W) (hp : ∀ u : S, perm.map (fun i => (isR.filterMap (fun i => ws[i]?) ++ w1 u)[i]?) = (w2 u).map some)
    (kk : ∀ (r : Int32) (u : S) (H1 : Heap) (locs1 : List Loc), (r, u) = F → va_P D vwCl (w2 u) H1 → va_D A (w2 u) → va_S A s.heap H1 locs1 → W p l e R s m args below meth c H1 locs1 cells slots Q (F0 m (pc + 3) ls (.int r :: rest))) : W p l e R s m args below meth c H locs cells slots Q (F0 m pc ls st0) := by
  obtain ⟨h1, h2, h3, h4, h5, h6⟩ := wchk_spec hk
  subst hN
  exact wrIV hx hb hml hown ht hG hP hD hS hA lk hM hR isC isR hC h1 h2 h3 h4 h5 q0 hc hq he hn hsize hst hW hf hdg (fun r u H1 locs1 e hP hD hS => kk r u H1 locs1 e (hP.sub perm (map_pick (hp u))) (hD.sub perm h6 (hp u)) hS)
theorem wkLV {S : Type} {w1 : S → va_W} {F : Int64 × S} {ci : Nat} {q : vw_C} {fs : List Value} {N : Nat} (hx : p.tables.exec = Jvm.exec) (hb : c.code = cc) (hml : c.maxLocals = nL) (hown : s.vm.findClass own = some m.cls) (ht : ∀ w ∈ c0 :: LW, w.before args s = true) (hG : GW D cy s) (hP : va_P D vwCl ws H) (hD : va_D A ws) (hS : va_S A s.heap H locs) (hA : ∀ q, s.heap.size ≤ q → A q)
    (lk : LkV own ix y b ml ret n) (hM : WrL l y b ml ret f lo D cy (.ref a :: As) wc w1 F H.size) (hR : f + 1 ≤ R.frames ∧ 8 + (ml + 11) + lo ≤ R.locals) (isC isR perm : List Nat) (hN : ws.length = N) (hk : wchk isC isR perm N = true) (hC : isC.filterMap (fun i => ws[i]?) = wc) (q0 : Nat) (hc : vwCl[ci]? = some q) (hq : q.1 = y.cls) (he : ws[q0]? = some (a, .inr (ci, fs)))
    (hn : As.length = n) (hsize : ls.size = nL) (hst : st0 = As.reverse ++ .ref a :: rest) (hW : (rest.map fun v => v.category).sum ≤ 8) (hf : cells ≤ R.cells ∧ slots ≤ R.slots) (hdg : decode cc pc = .ok (.invokevirtual ix, 3)) (w2 : S → va_W) (hp : ∀ u : S, perm.map (fun i => (isR.filterMap (fun i => ws[i]?) ++ w1 u)[i]?) = (w2 u).map some)
    (kk : ∀ (r : Int64) (u : S) (H1 : Heap) (locs1 : List Loc), (r, u) = F → va_P D vwCl (w2 u) H1 → va_D A (w2 u) → va_S A s.heap H1 locs1 → W p l e R s m args below meth c H1 locs1 cells slots Q (F0 m (pc + 3) ls (.long r :: rest))) : W p l e R s m args below meth c H locs cells slots Q (F0 m pc ls st0) := by
  obtain ⟨h1, h2, h3, h4, h5, h6⟩ := wchk_spec hk
  subst hN
  exact wrLV hx hb hml hown ht hG hP hD hS hA lk hM hR isC isR hC h1 h2 h3 h4 h5 q0 hc hq he hn hsize hst hW hf hdg (fun r u H1 locs1 e hP hD hS => kk r u H1 locs1 e (hP.sub perm (map_pick (hp u))) (hD.sub perm h6 (hp u)) hS)
theorem wkVS {S : Type} {w1 : S → va_W} {F : S} {N : Nat} (hx : p.tables.exec = Jvm.exec) (hb : c.code = cc) (hml : c.maxLocals = nL) (hown : s.vm.findClass own = some m.cls) (ht : ∀ w ∈ c0 :: LW, w.before args s = true) (hG : GW D cy s) (hP : va_P D vwCl ws H) (hD : va_D A ws) (hS : va_S A s.heap H locs) (hA : ∀ q, s.heap.size ≤ q → A q)
    (lk : LkS own ix y b ml ret n) (hM : WrV l y b ml ret f lo D cy As wc w1 F H.size) (hR : f + 1 ≤ R.frames ∧ 8 + (ml + 11) + lo ≤ R.locals) (isC isR perm : List Nat) (hN : ws.length = N) (hk : wchk isC isR perm N = true) (hC : isC.filterMap (fun i => ws[i]?) = wc)
    (hn : As.length = n) (hsize : ls.size = nL) (hst : st0 = As.reverse ++ rest) (hW : (rest.map fun v => v.category).sum ≤ 8) (hf : cells ≤ R.cells ∧ slots ≤ R.slots) (hdg : decode cc pc = .ok (.invokestatic ix, 3)) (w2 : S → va_W) (hp : ∀ u : S, perm.map (fun i => (isR.filterMap (fun i => ws[i]?) ++ w1 u)[i]?) = (w2 u).map some)
    (kk : ∀ (u : S) (H1 : Heap) (locs1 : List Loc), u = F → va_P D vwCl (w2 u) H1 → va_D A (w2 u) → va_S A s.heap H1 locs1 → W p l e R s m args below meth c H1 locs1 cells slots Q (F0 m (pc + 3) ls rest)) : W p l e R s m args below meth c H locs cells slots Q (F0 m pc ls st0) := by
  obtain ⟨h1, h2, h3, h4, h5, h6⟩ := wchk_spec hk
  subst hN
  exact wrVS hx hb hml hown ht hG hP hD hS hA lk hM hR isC isR hC h1 h2 h3 h4 h5 hn hsize hst hW hf hdg (fun u H1 locs1 e hP hD hS => kk u H1 locs1 e (hP.sub perm (map_pick (hp u))) (hD.sub perm h6 (hp u)) hS)
end CL2
theorem mw_arraycopy_X5_43 : Cond.methodLink RX5 43 arraycopyName ∈ LW := lw_3 (List.mem_of_getElem? (i := 148) (by decide +kernel)) (by decide +kernel)
theorem mw_acn : Cond.native arraycopyName ∈ LW := lw_3 (List.mem_of_getElem? (i := 150) (by decide +kernel)) (by decide +kernel)
theorem mw_acs : Cond.static arraycopyName ∈ LW := lw_3 (List.mem_of_getElem? (i := 149) (by decide +kernel)) (by decide +kernel)
theorem mw_aci : Cond.initialized "java/lang/System" ∈ LW := lw_1 (List.mem_of_getElem? (i := 15) (by decide +kernel)) (by decide +kernel)
theorem mw_min_X9_76 : Cond.methodLink RX9 76 Lib.Math.min.name ∈ LW := lw_4 (List.mem_of_getElem? (i := 143) (by decide +kernel)) (by decide +kernel)
theorem mw_mins : Cond.static Lib.Math.min.name ∈ LW := lw_4 (List.mem_of_getElem? (i := 144) (by decide +kernel)) (by decide +kernel)
theorem mw_mini : Cond.initialized "java/lang/Math" ∈ LW := lw_1 (List.mem_of_getElem? (i := 17) (by decide +kernel)) (by decide +kernel)
theorem mw_minc : Cond.code Lib.Math.min.name Lib.Math.min.code 2 (some .int) ∈ LW := lw_4 (List.mem_of_getElem? (i := 145) (by decide +kernel)) (by decide +kernel)
abbrev wd_J7_fill_d0a16 (cy : Nat → ClassId) (a_p0 : Nat) (n_p0 : Nat) (p0 : Nat → Int64) : va_W := [(a_p0, .inl (cy 2, n_p0, .inr (.inl p0)))]
noncomputable def F_J7_fill_d0a16_b22 (p0 : Nat → Int64) : (Nat → Int64) := p0
noncomputable def F_J7_fill_d0a16_L6 (x1 : Int64) (v4 : Int32) (n : Nat) : (Nat → Int64) → Int32 → (Nat → Int64) := Nat.rec (motive := fun _ => (Nat → Int64) → Int32 → (Nat → Int64)) (fun _ _ => (fun _ => 0)) (fun _ ih p0 v3 => (if v4 ≤ v3 then p0 else (ih (vp_updL p0 v3.toNatClampNeg x1) (v3 + (1 : Int32))))) n
theorem F_J7_fill_d0a16_L6_s {x1 : Int64} {v4 : Int32} {n : Nat} {p0 : Nat → Int64} {v3 : Int32} : F_J7_fill_d0a16_L6 x1 v4 (n + 1) p0 v3 = (if v4 ≤ v3 then p0 else ((F_J7_fill_d0a16_L6 x1 v4 n) (vp_updL p0 v3.toNatClampNeg x1) (v3 + (1 : Int32)))) := rfl
def ok_J7_fill_d0a16_L6 (n_p0 : Nat) (x1 : Int64) (v4 : Int32) (n : Nat) : (Nat → Int64) → Int32 → Prop := Nat.rec (motive := fun _ => (Nat → Int64) → Int32 → Prop) (fun _ _ => False) (fun _ oih p0 v3 => (¬ (v4 ≤ v3) → (vp_in v3 n_p0) ∧ (oih (vp_updL p0 v3.toNatClampNeg x1) (v3 + (1 : Int32))))) n
theorem ok_J7_fill_d0a16_L6_s {n_p0 : Nat} {x1 : Int64} {v4 : Int32} {n : Nat} {p0 : Nat → Int64} {v3 : Int32} : ok_J7_fill_d0a16_L6 n_p0 x1 v4 (n + 1) p0 v3 ↔ ((¬ (v4 ≤ v3) → (vp_in v3 n_p0) ∧ ((ok_J7_fill_d0a16_L6 n_p0 x1 v4 n) (vp_updL p0 v3.toNatClampNeg x1) (v3 + (1 : Int32))))) := Iff.rfl
noncomputable def F_J7_fill_d0a16 (n_p0 : Nat) (p0 : Nat → Int64) (x1 : Int64) : (Nat → Int64) := ((fun (q : (Nat → Int64)) => (F_J7_fill_d0a16_b22 q)) (F_J7_fill_d0a16_L6 x1 (Int32.ofNat n_p0) FU p0 (0 : Int32)))
def ok_J7_fill_d0a16 (n_p0 : Nat) (p0 : Nat → Int64) (x1 : Int64) : Prop := (ok_J7_fill_d0a16_L6 n_p0 x1 (Int32.ofNat n_p0) FU p0 (0 : Int32))
set_option maxHeartbeats 4000000 in
set_option maxRecDepth 100000 in
theorem w_J7_fill_d0a16 {p : Program} {l : Launch} {e : Env} {s : State} {m : MethodId} {args : Array Value} {below : List Frame} {meth : Method} {c : Code} {D : va_G} {cy : Nat → ClassId} {A : Nat → Prop} {QQ : State → Prop} {FV : (Nat → Int64)} (a_p0 : Nat) (n_p0 : Nat) (p0 : Nat → Int64) (x1 : Int64) (hx : p.tables.exec = Jvm.exec) (hb : c.code = cJ7_fill_d0a16) (hml : c.maxLocals = 5) (hown : s.vm.findClass RJ7 = some m.cls) (hts : ∀ w ∈ Cond.code yJ7_fill_d0a16 cJ7_fill_d0a16 5 none :: LW, w.before args s = true) (hG : GW D cy s) (hA : ∀ q, s.heap.size ≤ q → A q) (hret : ∀ (o0 : Nat → Int64) (H : Heap) (locs : List Loc) (ls : Array Slot) (pc : Nat), va_P D vwCl (wd_J7_fill_d0a16 cy a_p0 n_p0 o0) H → va_D A (wd_J7_fill_d0a16 cy a_p0 n_p0 o0) → va_S A s.heap H locs → FV = o0 → decode cJ7_fill_d0a16 pc = .ok (.return_, 1) → W p l e (rmk 0 0) s m args below meth c H locs 0 0 QQ (F0 m pc ls [])) (ls : Array Slot) (hl : lv_has ls 5 [(0, .ref a_p0), (1, .long x1)]) (hP : va_P D vwCl (wd_J7_fill_d0a16 cy a_p0 n_p0 p0) s.heap) (hD : va_D A (wd_J7_fill_d0a16 cy a_p0 n_p0 p0)) (hok : (ok_J7_fill_d0a16 n_p0 p0 x1)) (hR : FV = (F_J7_fill_d0a16 n_p0 p0 x1)) : W p l e (rmk 0 0) s m args below meth c s.heap [] 0 0 QQ (F0 m 0 ls []) := by
  have hw : ∀ w ∈ LW, w.before args s = true := fun w h => hts w (List.mem_cons_of_mem _ h)
  have hK := hG.1
  have hS : va_S A s.heap s.heap [] := va_S.rf
  unfold F_J7_fill_d0a16 at hR
  unfold ok_J7_fill_d0a16 at hok
  refine lv_iconst (v := 0) hx hb dJ7_fill_d0a16_0 (by decide) ?_
  refine lv_istore_n (lv' := [(3, .int (0 : Int32)), (0, .ref a_p0), (1, .long x1)]) hx hb dJ7_fill_d0a16_1 rfl hl (Nat.le_of_ble_eq_true rfl) rfl (fun ls hl => ?_)
  refine lv_aload_n hx hb dJ7_fill_d0a16_2 rfl (lv_at hl 1 rfl) ?_
  refine va_alen (v := (Int32.ofNat n_p0)) hx hb hK hP 0 2 rfl rfl rfl dJ7_fill_d0a16_3 ?_
  refine lv_istore (lv' := [(4, .int (Int32.ofNat n_p0)), (3, .int (0 : Int32)), (0, .ref a_p0), (1, .long x1)]) hx hb dJ7_fill_d0a16_4 hl (Nat.le_of_ble_eq_true rfl) rfl (fun ls hl => ?_)
  have L_6 : ∀ (n_6 : Nat) (V : (Nat → Int64)) (p0_6 : Nat → Int64) (v3_6 : Int32) (H : Heap) (locs : List Loc) (ls : Array Slot), lv_has ls 5 [(0, .ref a_p0), (1, .long x1), (3, .int v3_6), (4, .int (Int32.ofNat n_p0))] → va_P D vwCl (wd_J7_fill_d0a16 cy a_p0 n_p0 p0_6) H → va_D A (wd_J7_fill_d0a16 cy a_p0 n_p0 p0_6) → va_S A s.heap H locs → (ok_J7_fill_d0a16_L6 n_p0 x1 (Int32.ofNat n_p0) n_6 p0_6 v3_6) → V = (F_J7_fill_d0a16_L6 x1 (Int32.ofNat n_p0) n_6 p0_6 v3_6) → (∀ (e6_0 : Nat → Int64) (H : Heap) (locs : List Loc) (ls : Array Slot), lv_has ls 5 [] → va_P D vwCl (wd_J7_fill_d0a16 cy a_p0 n_p0 e6_0) H → va_D A (wd_J7_fill_d0a16 cy a_p0 n_p0 e6_0) → va_S A s.heap H locs → V = e6_0 → W p l e (rmk 0 0) s m args below meth c H locs 0 0 QQ (F0 m 22 ls [])) → W p l e (rmk 0 0) s m args below meth c H locs 0 0 QQ (F0 m 6 ls []) := by
    intro n_6
    induction n_6 with
    | zero => intro V p0_6 v3_6 H locs ls hl hP hD hS hok; exact False.elim hok
    | succ n_6 ih6 =>
      intro V p0_6 v3_6 H locs ls hl hP hD hS hok hR hX
      replace hR := hR.trans F_J7_fill_d0a16_L6_s
      replace hok := ok_J7_fill_d0a16_L6_s.mp hok
      refine lv_iload_n hx hb dJ7_fill_d0a16_6 rfl (lv_at hl 2 rfl) ?_
      refine lv_iload hx hb dJ7_fill_d0a16_7 (lv_at hl 3 rfl) ?_
      refine lv_icmp_ge (tgt := 22) hx hb dJ7_fill_d0a16_9 (by decide) (fun c_9 => ?_) (fun c_9 => ?_)
      · replace hR := bp hR c_9
        exact hX p0_6 _ _ _ (lv_sub hl [] rfl) hP hD hS hR
      · replace hR := bn hR c_9
        replace hok := hok c_9
        refine lv_aload_n hx hb dJ7_fill_d0a16_12 rfl (lv_at hl 0 rfl) ?_
        refine lv_iload_n hx hb dJ7_fill_d0a16_13 rfl (lv_at hl 2 rfl) ?_
        refine lv_lload_n hx hb dJ7_fill_d0a16_14 rfl (lv_at hl 1 rfl) ?_
        obtain ⟨h_15_0, hok⟩ := hok
        refine va_last hx hb hK hP hD hS 0 2 rfl rfl h_15_0 dJ7_fill_d0a16_15 (fun H locs hP hD hS => ?_)
        replace hP : va_P D vwCl (wd_J7_fill_d0a16 cy a_p0 n_p0 (vp_updL p0_6 v3_6.toNatClampNeg x1)) H := hP
        replace hD : va_D A (wd_J7_fill_d0a16 cy a_p0 n_p0 (vp_updL p0_6 v3_6.toNatClampNeg x1)) := hD
        refine lv_iinc (v := (v3_6 + (1 : Int32))) (lv' := [(3, .int (v3_6 + (1 : Int32))), (0, .ref a_p0), (1, .long x1), (4, .int (Int32.ofNat n_p0))]) hx hb dJ7_fill_d0a16_16 hl (k := 2) rfl rfl (Nat.le_of_ble_eq_true rfl) rfl (fun ls hl => ?_)
        refine lv_goto (tgt := 6) hx hb dJ7_fill_d0a16_19 (by decide) ?_
        exact ih6 V (vp_updL p0_6 v3_6.toNatClampNeg x1) (v3_6 + (1 : Int32)) _ _ _ (lv_sub hl [1, 2, 0, 3] rfl) hP hD hS hok hR hX
  have hokL := hok
  refine L_6 FU _ p0 (0 : Int32) _ _ _ (lv_sub hl [2, 3, 1, 0] rfl) hP hD hS hokL rfl (fun e6_0 H locs ls hl hP hD hS hE => ?_)
  have hR2 := hRq (fun (q : (Nat → Int64)) => (F_J7_fill_d0a16_b22 q)) hE.symm hR
  replace hR : FV = (F_J7_fill_d0a16_b22 e6_0) := hR2
  unfold F_J7_fill_d0a16_b22 at hR
  exact hret e6_0 _ _ _ _ hP hD hS hR dJ7_fill_d0a16_22
set_option maxHeartbeats 1000000 in
set_option maxRecDepth 100000 in
theorem c_J7_fill_d0a16 {l : Launch} {D : va_G} {cy : Nat → ClassId} (a_p0 : Nat) (n_p0 : Nat) (p0 : Nat → Int64) (x1 : Int64) (sz : Nat) (hok : (ok_J7_fill_d0a16 n_p0 p0 x1)) : WrV (S := (Nat → Int64)) l yJ7_fill_d0a16 cJ7_fill_d0a16 5 none 0 0 D cy [.ref a_p0, .long x1] (wd_J7_fill_d0a16 cy a_p0 n_p0 p0) (fun u => (wd_J7_fill_d0a16 cy a_p0 n_p0 u)) (F_J7_fill_d0a16 n_p0 p0 x1) sz := by
  refine Met.ofW (cc := cJ7_fill_d0a16) (maxL := 5) (ret := none) (by decide) rfl ?_
  intro p e s m args below meth c s₁ B hml hv
  obtain ⟨rfl, hsz, hP, hG, hD0⟩ := hv
  subst hsz
  have hD := hD0.self (sz := s.heap.size)
  have hr := B.returns
  have hlocks := B.notSynchronized
  have hl := lv_entry ([.ref a_p0, .long x1]) (n := 5) (Nat.le_of_ble_eq_true rfl)
  rw [lg_entry_eq]
  generalize (lg_sl ([.ref a_p0, .long x1]) ++ List.replicate (5 - (lg_sl ([.ref a_p0, .long x1])).length) Slot.unset).toArray = ls at hl ⊢
  exact w_J7_fill_d0a16 a_p0 n_p0 p0 x1 B.exec B.bytes hml (findClass_of_methodNamed B.named) (atoms_spec (ws := Cond.code yJ7_fill_d0a16 cJ7_fill_d0a16 5 none :: LW) B.pre) hG (fun q h => Or.inr h) (fun o0 H locs ls pc hP hD hS hF hdg => W.vret B.exec B.bytes hr (fun t ht hW => ⟨⟨o0, rfl, hF.symm, by rw [ht]; exact hP, hD⟩, hS.F ht⟩) hS.2.2 hdg) ls hl hP hD hok rfl
abbrev wd_X11_isHour (cy : Nat → ClassId) : va_W := []
noncomputable def F_X11_isHour (x0 : Int32) : Int32 := (if x0 < (0 : Int32) then (0 : Int32) else (if (10 : Int32) ≤ x0 then (0 : Int32) else (1 : Int32)))
set_option maxHeartbeats 4000000 in
set_option maxRecDepth 100000 in
theorem w_X11_isHour {p : Program} {l : Launch} {e : Env} {s : State} {m : MethodId} {args : Array Value} {below : List Frame} {meth : Method} {c : Code} {D : va_G} {cy : Nat → ClassId} {QQ : State → Prop} {FV : Int32} (x0 : Int32) (hx : p.tables.exec = Jvm.exec) (hb : c.code = cX11_isHour) (hml : c.maxLocals = 1) (hown : s.vm.findClass RX11 = some m.cls) (hts : ∀ w ∈ Cond.code yX11_isHour cX11_isHour 1 (some .boolean) :: LW, w.before args s = true) (hG : GW D cy s) (hret : ∀ (r : Int32) (ls : Array Slot) (pc : Nat), FV = r → narrow .boolean (.int r) = .int r → decode cX11_isHour pc = .ok (.ireturn, 1) → W p l e (rmk 0 0) s m args below meth c s.heap [] 0 0 QQ (F0 m pc ls [.int r])) (ls : Array Slot) (hl : lv_has ls 1 [(0, .int x0)]) (hP : va_P D vwCl (wd_X11_isHour cy) s.heap) (hR : FV = (F_X11_isHour x0)) : W p l e (rmk 0 0) s m args below meth c s.heap [] 0 0 QQ (F0 m 0 ls []) := by
  have hw : ∀ w ∈ LW, w.before args s = true := fun w h => hts w (List.mem_cons_of_mem _ h)
  have hK := hG.1
  unfold F_X11_isHour at hR
  refine lv_iload_n hx hb dX11_isHour_0 rfl (lv_at hl 0 rfl) ?_
  have K_1 : W p l e (rmk 0 0) s m args below meth c s.heap [] 0 0 QQ (F0 m 15 ls [.int (if x0 < (0 : Int32) then (0 : Int32) else (if (10 : Int32) ≤ x0 then (0 : Int32) else (1 : Int32)))]) := by
    exact hret (if x0 < (0 : Int32) then (0 : Int32) else (if (10 : Int32) ≤ x0 then (0 : Int32) else (1 : Int32))) _ _ hR (isB.nar (isB_ite isB_0 (isB_ite isB_0 isB_1))) dX11_isHour_15
  refine lv_if_lt (tgt := 14) hx hb dX11_isHour_1 (by decide) (fun c_1 => ?_) (fun c_1 => ?_)
  · refine lv_iconst (v := 0) hx hb dX11_isHour_14 (by decide) ?_
    exact W.eq (congrArg (fun z => F0 m 15 ls (Value.int z :: [])) (if_pos c_1).symm) K_1
  · refine lv_iload_n hx hb dX11_isHour_4 rfl (lv_at hl 0 rfl) ?_
    refine lv_bipush (v := 10) hx hb dX11_isHour_5 (by decide) ?_
    refine lv_icmp_ge (tgt := 14) hx hb dX11_isHour_7 (by decide) (fun c_7 => ?_) (fun c_7 => ?_)
    · refine lv_iconst (v := 0) hx hb dX11_isHour_14 (by decide) ?_
      exact W.eq (congrArg (fun z => F0 m 15 ls (Value.int z :: [])) ((if_neg c_1).trans (if_pos c_7)).symm) K_1
    · refine lv_iconst (v := 1) hx hb dX11_isHour_10 (by decide) ?_
      refine lv_goto (tgt := 15) hx hb dX11_isHour_11 (by decide) ?_
      exact W.eq (congrArg (fun z => F0 m 15 ls (Value.int z :: [])) ((if_neg c_1).trans (if_neg c_7)).symm) K_1
set_option maxHeartbeats 1000000 in
set_option maxRecDepth 100000 in
theorem c_X11_isHour {l : Launch} {D : va_G} {cy : Nat → ClassId} (x0 : Int32) : RdI l yX11_isHour cX11_isHour 1 (some .boolean) 0 0 D cy [.int x0] (wd_X11_isHour cy) (F_X11_isHour x0) := by
  refine Met.ofW (cc := cX11_isHour) (maxL := 1) (ret := (some .boolean)) (by decide) rfl ?_
  intro p e s m args below meth c s₁ B hml hv
  obtain ⟨rfl, hP, hG⟩ := hv
  have hr := B.returns
  have hlocks := B.notSynchronized
  have hl := lv_entry ([.int x0]) (n := 1) (Nat.le_of_ble_eq_true rfl)
  rw [lg_entry_eq]
  generalize (lg_sl ([.int x0]) ++ List.replicate (1 - (lg_sl ([.int x0])).length) Slot.unset).toArray = ls at hl ⊢
  exact w_X11_isHour x0 B.exec B.bytes hml (findClass_of_methodNamed B.named) (atoms_spec (ws := Cond.code yX11_isHour cX11_isHour 1 (some .boolean) :: LW) B.pre) hG (fun r ls pc hF hn hdg => W.zret (v := r) B.exec B.bytes hr hn (fun t ht hW => ⟨r, rfl, hF.symm, ht⟩) (fun _ h => absurd h List.not_mem_nil) hdg) ls hl hP rfl
abbrev wd_X5_isTold (cy : Nat → ClassId) (a_t : Nat) (a_t_acts : Nat) (z_t_exceptions : Value) (t_acts : Nat → Int32) : va_W := [(a_t, .inr (5, [.ref a_t_acts, z_t_exceptions])), (a_t_acts, .inl (cy 1, 10, .inl t_acts))]
noncomputable def F_X5_isTold (t_acts : Nat → Int32) (x1 : Int32) : Int32 := (if (F_X11_isHour x1) = (0 : Int32) then (0 : Int32) else (if (t_acts x1.toNatClampNeg) = (-9 : Int32) then (0 : Int32) else (1 : Int32)))
def ok_X5_isTold (x1 : Int32) : Prop := (¬ ((F_X11_isHour x1) = (0 : Int32)) → (vp_in x1 10))
set_option maxHeartbeats 4000000 in
set_option maxRecDepth 100000 in
theorem w_X5_isTold {p : Program} {l : Launch} {e : Env} {s : State} {m : MethodId} {args : Array Value} {below : List Frame} {meth : Method} {c : Code} {D : va_G} {cy : Nat → ClassId} {QQ : State → Prop} {FV : Int32} (a_t : Nat) (a_t_acts : Nat) (z_t_exceptions : Value) (t_acts : Nat → Int32) (x1 : Int32) (hx : p.tables.exec = Jvm.exec) (hb : c.code = cX5_isTold) (hml : c.maxLocals = 2) (hown : s.vm.findClass RX5 = some m.cls) (hts : ∀ w ∈ Cond.code yX5_isTold cX5_isTold 2 (some .boolean) :: LW, w.before args s = true) (hG : GW D cy s) (hret : ∀ (r : Int32) (ls : Array Slot) (pc : Nat), FV = r → narrow .boolean (.int r) = .int r → decode cX5_isTold pc = .ok (.ireturn, 1) → W p l e (rmk 1 20) s m args below meth c s.heap [] 0 0 QQ (F0 m pc ls [.int r])) (ls : Array Slot) (hl : lv_has ls 2 [(0, .ref a_t), (1, .int x1)]) (hP : va_P D vwCl (wd_X5_isTold cy a_t a_t_acts z_t_exceptions t_acts) s.heap) (hok : (ok_X5_isTold x1)) (hR : FV = (F_X5_isTold t_acts x1)) : W p l e (rmk 1 20) s m args below meth c s.heap [] 0 0 QQ (F0 m 0 ls []) := by
  have hw : ∀ w ∈ LW, w.before args s = true := fun w h => hts w (List.mem_cons_of_mem _ h)
  have hK := hG.1
  unfold F_X5_isTold at hR
  unfold ok_X5_isTold at hok
  refine lv_iload_n hx hb dX5_isTold_0 rfl (lv_at hl 1 rfl) ?_
  refine rdIN (As := [.int x1]) (rest := []) hx hb hml hown hts hG hP k_X5_25 (c_X11_isHour (l := l) (D := D) (cy := cy) x1) ⟨Nat.le_of_ble_eq_true rfl, Nat.le_of_ble_eq_true rfl⟩ [] rfl rfl hl.1 rfl (Nat.le_of_ble_eq_true rfl) ⟨Nat.zero_le _, Nat.zero_le _⟩ dX5_isTold_1 ?_
  have K_4 : W p l e (rmk 1 20) s m args below meth c s.heap [] 0 0 QQ (F0 m 23 ls [.int (if (F_X11_isHour x1) = (0 : Int32) then (0 : Int32) else (if (t_acts x1.toNatClampNeg) = (-9 : Int32) then (0 : Int32) else (1 : Int32)))]) := by
    exact hret (if (F_X11_isHour x1) = (0 : Int32) then (0 : Int32) else (if (t_acts x1.toNatClampNeg) = (-9 : Int32) then (0 : Int32) else (1 : Int32))) _ _ hR (isB.nar (isB_ite isB_0 (isB_ite isB_0 isB_1))) dX5_isTold_23
  refine lv_if_eq (tgt := 22) hx hb dX5_isTold_4 (by decide) (fun c_4 => ?_) (fun c_4 => ?_)
  · refine lv_iconst (v := 0) hx hb dX5_isTold_22 (by decide) ?_
    exact W.eq (congrArg (fun z => F0 m 23 ls (Value.int z :: [])) (if_pos c_4).symm) K_4
  · replace hok := hok c_4
    refine lv_aload_n hx hb dX5_isTold_7 rfl (lv_at hl 0 rfl) ?_
    refine g_X5_9 hx hb hw hown hK hP 0 rfl rfl dX5_isTold_8 ?_
    refine lv_iload_n hx hb dX5_isTold_11 rfl (lv_at hl 1 rfl) ?_
    have h_12_0 := hok
    refine va_iald hx hb hK hP 1 1 rfl rfl h_12_0 dX5_isTold_12 ?_
    refine lv_bipush (v := -9) hx hb dX5_isTold_13 (by decide) ?_
    refine lv_icmp_eq (tgt := 22) hx hb dX5_isTold_15 (by decide) (fun c_15 => ?_) (fun c_15 => ?_)
    · refine lv_iconst (v := 0) hx hb dX5_isTold_22 (by decide) ?_
      exact W.eq (congrArg (fun z => F0 m 23 ls (Value.int z :: [])) ((if_neg c_4).trans (if_pos c_15)).symm) K_4
    · refine lv_iconst (v := 1) hx hb dX5_isTold_18 (by decide) ?_
      refine lv_goto (tgt := 23) hx hb dX5_isTold_19 (by decide) ?_
      exact W.eq (congrArg (fun z => F0 m 23 ls (Value.int z :: [])) ((if_neg c_4).trans (if_neg c_15)).symm) K_4
set_option maxHeartbeats 1000000 in
set_option maxRecDepth 100000 in
theorem c_X5_isTold {l : Launch} {D : va_G} {cy : Nat → ClassId} (a_t : Nat) (a_t_acts : Nat) (z_t_exceptions : Value) (t_acts : Nat → Int32) (x1 : Int32) (hok : (ok_X5_isTold x1)) : RdI l yX5_isTold cX5_isTold 2 (some .boolean) 1 20 D cy [.ref a_t, .int x1] (wd_X5_isTold cy a_t a_t_acts z_t_exceptions t_acts) (F_X5_isTold t_acts x1) := by
  refine Met.ofW (cc := cX5_isTold) (maxL := 2) (ret := (some .boolean)) (by decide) rfl ?_
  intro p e s m args below meth c s₁ B hml hv
  obtain ⟨rfl, hP, hG⟩ := hv
  have hr := B.returns
  have hlocks := B.notSynchronized
  have hl := lv_entry ([.ref a_t, .int x1]) (n := 2) (Nat.le_of_ble_eq_true rfl)
  rw [lg_entry_eq]
  generalize (lg_sl ([.ref a_t, .int x1]) ++ List.replicate (2 - (lg_sl ([.ref a_t, .int x1])).length) Slot.unset).toArray = ls at hl ⊢
  exact w_X5_isTold a_t a_t_acts z_t_exceptions t_acts x1 B.exec B.bytes hml (findClass_of_methodNamed B.named) (atoms_spec (ws := Cond.code yX5_isTold cX5_isTold 2 (some .boolean) :: LW) B.pre) hG (fun r ls pc hF hn hdg => W.zret (v := r) B.exec B.bytes hr hn (fun t ht hW => ⟨r, rfl, hF.symm, ht⟩) (fun _ h => absurd h List.not_mem_nil) hdg) ls hl hP hok rfl
abbrev wd_X5_actAt (cy : Nat → ClassId) (a_t : Nat) (a_t_acts : Nat) (z_t_exceptions : Value) (t_acts : Nat → Int32) : va_W := [(a_t, .inr (5, [.ref a_t_acts, z_t_exceptions])), (a_t_acts, .inl (cy 1, 10, .inl t_acts))]
noncomputable def F_X5_actAt (t_acts : Nat → Int32) (x1 : Int32) : Int32 := (if (F_X5_isTold t_acts x1) = (0 : Int32) then (4 : Int32) else (t_acts x1.toNatClampNeg))
def ok_X5_actAt (t_acts : Nat → Int32) (x1 : Int32) : Prop := ((ok_X5_isTold x1)) ∧ (¬ ((F_X5_isTold t_acts x1) = (0 : Int32)) → (vp_in x1 10))
set_option maxHeartbeats 4000000 in
set_option maxRecDepth 100000 in
theorem w_X5_actAt {p : Program} {l : Launch} {e : Env} {s : State} {m : MethodId} {args : Array Value} {below : List Frame} {meth : Method} {c : Code} {D : va_G} {cy : Nat → ClassId} {QQ : State → Prop} {FV : Int32} (a_t : Nat) (a_t_acts : Nat) (z_t_exceptions : Value) (t_acts : Nat → Int32) (x1 : Int32) (hx : p.tables.exec = Jvm.exec) (hb : c.code = cX5_actAt) (hml : c.maxLocals = 2) (hown : s.vm.findClass RX5 = some m.cls) (hts : ∀ w ∈ Cond.code yX5_actAt cX5_actAt 2 (some .int) :: LW, w.before args s = true) (hG : GW D cy s) (hret : ∀ (r : Int32) (ls : Array Slot) (pc : Nat), FV = r → decode cX5_actAt pc = .ok (.ireturn, 1) → W p l e (rmk 2 41) s m args below meth c s.heap [] 0 0 QQ (F0 m pc ls [.int r])) (ls : Array Slot) (hl : lv_has ls 2 [(0, .ref a_t), (1, .int x1)]) (hP : va_P D vwCl (wd_X5_actAt cy a_t a_t_acts z_t_exceptions t_acts) s.heap) (hok : (ok_X5_actAt t_acts x1)) (hR : FV = (F_X5_actAt t_acts x1)) : W p l e (rmk 2 41) s m args below meth c s.heap [] 0 0 QQ (F0 m 0 ls []) := by
  have hw : ∀ w ∈ LW, w.before args s = true := fun w h => hts w (List.mem_cons_of_mem _ h)
  have hK := hG.1
  unfold F_X5_actAt at hR
  unfold ok_X5_actAt at hok
  refine lv_aload_n hx hb dX5_actAt_0 rfl (lv_at hl 0 rfl) ?_
  refine lv_iload_n hx hb dX5_actAt_1 rfl (lv_at hl 1 rfl) ?_
  obtain ⟨h_2_0, hok⟩ := hok
  refine rdIV (As := [.int x1]) (rest := []) hx hb hml hown hts hG hP k_X5_29 (c_X5_isTold (l := l) (D := D) (cy := cy) a_t a_t_acts z_t_exceptions t_acts x1 h_2_0) ⟨Nat.le_of_ble_eq_true rfl, Nat.le_of_ble_eq_true rfl⟩ [0, 1] rfl 0 rfl rfl rfl rfl hl.1 rfl (Nat.le_of_ble_eq_true rfl) ⟨Nat.zero_le _, Nat.zero_le _⟩ dX5_actAt_2 ?_
  have K_5 : W p l e (rmk 2 41) s m args below meth c s.heap [] 0 0 QQ (F0 m 18 ls [.int (if (F_X5_isTold t_acts x1) = (0 : Int32) then (4 : Int32) else (t_acts x1.toNatClampNeg))]) := by
    exact hret (if (F_X5_isTold t_acts x1) = (0 : Int32) then (4 : Int32) else (t_acts x1.toNatClampNeg)) _ _ hR dX5_actAt_18
  refine lv_if_eq (tgt := 17) hx hb dX5_actAt_5 (by decide) (fun c_5 => ?_) (fun c_5 => ?_)
  · refine lv_iconst (v := 4) hx hb dX5_actAt_17 (by decide) ?_
    exact W.eq (congrArg (fun z => F0 m 18 ls (Value.int z :: [])) (if_pos c_5).symm) K_5
  · replace hok := hok c_5
    refine lv_aload_n hx hb dX5_actAt_8 rfl (lv_at hl 0 rfl) ?_
    refine g_X5_9 hx hb hw hown hK hP 0 rfl rfl dX5_actAt_9 ?_
    refine lv_iload_n hx hb dX5_actAt_12 rfl (lv_at hl 1 rfl) ?_
    have h_13_0 := hok
    refine va_iald hx hb hK hP 1 1 rfl rfl h_13_0 dX5_actAt_13 ?_
    refine lv_goto (tgt := 18) hx hb dX5_actAt_14 (by decide) ?_
    exact W.eq (congrArg (fun z => F0 m 18 ls (Value.int z :: [])) (if_neg c_5).symm) K_5
set_option maxHeartbeats 1000000 in
set_option maxRecDepth 100000 in
theorem c_X5_actAt {l : Launch} {D : va_G} {cy : Nat → ClassId} (a_t : Nat) (a_t_acts : Nat) (z_t_exceptions : Value) (t_acts : Nat → Int32) (x1 : Int32) (hok : (ok_X5_actAt t_acts x1)) : RdI l yX5_actAt cX5_actAt 2 (some .int) 2 41 D cy [.ref a_t, .int x1] (wd_X5_actAt cy a_t a_t_acts z_t_exceptions t_acts) (F_X5_actAt t_acts x1) := by
  refine Met.ofW (cc := cX5_actAt) (maxL := 2) (ret := (some .int)) (by decide) rfl ?_
  intro p e s m args below meth c s₁ B hml hv
  obtain ⟨rfl, hP, hG⟩ := hv
  have hr := B.returns
  have hlocks := B.notSynchronized
  have hl := lv_entry ([.ref a_t, .int x1]) (n := 2) (Nat.le_of_ble_eq_true rfl)
  rw [lg_entry_eq]
  generalize (lg_sl ([.ref a_t, .int x1]) ++ List.replicate (2 - (lg_sl ([.ref a_t, .int x1])).length) Slot.unset).toArray = ls at hl ⊢
  exact w_X5_actAt a_t a_t_acts z_t_exceptions t_acts x1 B.exec B.bytes hml (findClass_of_methodNamed B.named) (atoms_spec (ws := Cond.code yX5_actAt cX5_actAt 2 (some .int) :: LW) B.pre) hG (fun r ls pc hF hdg => W.iret (v := r) B.exec B.bytes hr (fun t ht hW => ⟨r, rfl, hF.symm, ht⟩) (fun _ h => absurd h List.not_mem_nil) hdg) ls hl hP hok rfl
abbrev wd_X1_hasOwnKey (cy : Nat → ClassId) (a_t : Nat) (z_t_people : Value) (z_t_sessions : Value) (z_t_places : Value) (z_t_forgetTenths : Value) (z_t_person : Value) (z_t_first : Value) (z_t_last : Value) (z_t_minutes : Value) (z_t_risk : Value) (z_t_openFirst : Value) (z_t_openLast : Value) (z_t_homeMinutes : Value) (z_t_beginning : Value) (z_t_ending : Value) (z_t_comer : Value) (z_t_nextComer : Value) (t_ownKeys : Int32) : va_W := [(a_t, .inr (1, [z_t_people, z_t_sessions, z_t_places, z_t_forgetTenths, .int t_ownKeys, z_t_person, z_t_first, z_t_last, z_t_minutes, z_t_risk, z_t_openFirst, z_t_openLast, z_t_homeMinutes, z_t_beginning, z_t_ending, z_t_comer, z_t_nextComer]))]
noncomputable def F_X1_hasOwnKey (t_ownKeys : Int32) (x1 : Int32) : Int32 := (if ((t_ownKeys >>> (x1 &&& (31 : Int32))) &&& (1 : Int32)) = (0 : Int32) then (0 : Int32) else (1 : Int32))
set_option maxHeartbeats 4000000 in
set_option maxRecDepth 100000 in
theorem w_X1_hasOwnKey {p : Program} {l : Launch} {e : Env} {s : State} {m : MethodId} {args : Array Value} {below : List Frame} {meth : Method} {c : Code} {D : va_G} {cy : Nat → ClassId} {QQ : State → Prop} {FV : Int32} (a_t : Nat) (z_t_people : Value) (z_t_sessions : Value) (z_t_places : Value) (z_t_forgetTenths : Value) (z_t_person : Value) (z_t_first : Value) (z_t_last : Value) (z_t_minutes : Value) (z_t_risk : Value) (z_t_openFirst : Value) (z_t_openLast : Value) (z_t_homeMinutes : Value) (z_t_beginning : Value) (z_t_ending : Value) (z_t_comer : Value) (z_t_nextComer : Value) (t_ownKeys : Int32) (x1 : Int32) (hx : p.tables.exec = Jvm.exec) (hb : c.code = cX1_hasOwnKey) (hml : c.maxLocals = 2) (hown : s.vm.findClass RX1 = some m.cls) (hts : ∀ w ∈ Cond.code yX1_hasOwnKey cX1_hasOwnKey 2 (some .boolean) :: LW, w.before args s = true) (hG : GW D cy s) (hret : ∀ (r : Int32) (ls : Array Slot) (pc : Nat), FV = r → narrow .boolean (.int r) = .int r → decode cX1_hasOwnKey pc = .ok (.ireturn, 1) → W p l e (rmk 0 0) s m args below meth c s.heap [] 0 0 QQ (F0 m pc ls [.int r])) (ls : Array Slot) (hl : lv_has ls 2 [(0, .ref a_t), (1, .int x1)]) (hP : va_P D vwCl (wd_X1_hasOwnKey cy a_t z_t_people z_t_sessions z_t_places z_t_forgetTenths z_t_person z_t_first z_t_last z_t_minutes z_t_risk z_t_openFirst z_t_openLast z_t_homeMinutes z_t_beginning z_t_ending z_t_comer z_t_nextComer t_ownKeys) s.heap) (hR : FV = (F_X1_hasOwnKey t_ownKeys x1)) : W p l e (rmk 0 0) s m args below meth c s.heap [] 0 0 QQ (F0 m 0 ls []) := by
  have hw : ∀ w ∈ LW, w.before args s = true := fun w h => hts w (List.mem_cons_of_mem _ h)
  have hK := hG.1
  unfold F_X1_hasOwnKey at hR
  refine lv_aload_n hx hb dX1_hasOwnKey_0 rfl (lv_at hl 0 rfl) ?_
  refine g_X1_24 hx hb hw hown hK hP 0 rfl rfl dX1_hasOwnKey_1 ?_
  refine lv_iload_n hx hb dX1_hasOwnKey_4 rfl (lv_at hl 1 rfl) ?_
  refine lv_ishr hx hb dX1_hasOwnKey_5 ?_
  refine lv_iconst (v := 1) hx hb dX1_hasOwnKey_6 (by decide) ?_
  refine lv_iand hx hb dX1_hasOwnKey_7 ?_
  have K_8 : W p l e (rmk 0 0) s m args below meth c s.heap [] 0 0 QQ (F0 m 16 ls [.int (if ((t_ownKeys >>> (x1 &&& (31 : Int32))) &&& (1 : Int32)) = (0 : Int32) then (0 : Int32) else (1 : Int32))]) := by
    exact hret (if ((t_ownKeys >>> (x1 &&& (31 : Int32))) &&& (1 : Int32)) = (0 : Int32) then (0 : Int32) else (1 : Int32)) _ _ hR (isB.nar (isB_ite isB_0 isB_1)) dX1_hasOwnKey_16
  refine lv_if_eq (tgt := 15) hx hb dX1_hasOwnKey_8 (by decide) (fun c_8 => ?_) (fun c_8 => ?_)
  · refine lv_iconst (v := 0) hx hb dX1_hasOwnKey_15 (by decide) ?_
    exact W.eq (congrArg (fun z => F0 m 16 ls (Value.int z :: [])) (if_pos c_8).symm) K_8
  · refine lv_iconst (v := 1) hx hb dX1_hasOwnKey_11 (by decide) ?_
    refine lv_goto (tgt := 16) hx hb dX1_hasOwnKey_12 (by decide) ?_
    exact W.eq (congrArg (fun z => F0 m 16 ls (Value.int z :: [])) (if_neg c_8).symm) K_8
set_option maxHeartbeats 1000000 in
set_option maxRecDepth 100000 in
theorem c_X1_hasOwnKey {l : Launch} {D : va_G} {cy : Nat → ClassId} (a_t : Nat) (z_t_people : Value) (z_t_sessions : Value) (z_t_places : Value) (z_t_forgetTenths : Value) (z_t_person : Value) (z_t_first : Value) (z_t_last : Value) (z_t_minutes : Value) (z_t_risk : Value) (z_t_openFirst : Value) (z_t_openLast : Value) (z_t_homeMinutes : Value) (z_t_beginning : Value) (z_t_ending : Value) (z_t_comer : Value) (z_t_nextComer : Value) (t_ownKeys : Int32) (x1 : Int32) : RdI l yX1_hasOwnKey cX1_hasOwnKey 2 (some .boolean) 0 0 D cy [.ref a_t, .int x1] (wd_X1_hasOwnKey cy a_t z_t_people z_t_sessions z_t_places z_t_forgetTenths z_t_person z_t_first z_t_last z_t_minutes z_t_risk z_t_openFirst z_t_openLast z_t_homeMinutes z_t_beginning z_t_ending z_t_comer z_t_nextComer t_ownKeys) (F_X1_hasOwnKey t_ownKeys x1) := by
  refine Met.ofW (cc := cX1_hasOwnKey) (maxL := 2) (ret := (some .boolean)) (by decide) rfl ?_
  intro p e s m args below meth c s₁ B hml hv
  obtain ⟨rfl, hP, hG⟩ := hv
  have hr := B.returns
  have hlocks := B.notSynchronized
  have hl := lv_entry ([.ref a_t, .int x1]) (n := 2) (Nat.le_of_ble_eq_true rfl)
  rw [lg_entry_eq]
  generalize (lg_sl ([.ref a_t, .int x1]) ++ List.replicate (2 - (lg_sl ([.ref a_t, .int x1])).length) Slot.unset).toArray = ls at hl ⊢
  exact w_X1_hasOwnKey a_t z_t_people z_t_sessions z_t_places z_t_forgetTenths z_t_person z_t_first z_t_last z_t_minutes z_t_risk z_t_openFirst z_t_openLast z_t_homeMinutes z_t_beginning z_t_ending z_t_comer z_t_nextComer t_ownKeys x1 B.exec B.bytes hml (findClass_of_methodNamed B.named) (atoms_spec (ws := Cond.code yX1_hasOwnKey cX1_hasOwnKey 2 (some .boolean) :: LW) B.pre) hG (fun r ls pc hF hn hdg => W.zret (v := r) B.exec B.bytes hr hn (fun t ht hW => ⟨r, rfl, hF.symm, ht⟩) (fun _ h => absurd h List.not_mem_nil) hdg) ls hl hP rfl
abbrev wd_X1_isOpen (cy : Nat → ClassId) (a_t : Nat) (a_t_openFirst : Nat) (a_t_openLast : Nat) (z_t_people : Value) (z_t_sessions : Value) (z_t_places : Value) (z_t_forgetTenths : Value) (z_t_ownKeys : Value) (z_t_person : Value) (z_t_first : Value) (z_t_last : Value) (z_t_minutes : Value) (z_t_risk : Value) (z_t_homeMinutes : Value) (z_t_beginning : Value) (z_t_ending : Value) (z_t_comer : Value) (z_t_nextComer : Value) (t_openFirst : Nat → Int32) (t_openLast : Nat → Int32) : va_W := [(a_t, .inr (1, [z_t_people, z_t_sessions, z_t_places, z_t_forgetTenths, z_t_ownKeys, z_t_person, z_t_first, z_t_last, z_t_minutes, z_t_risk, .ref a_t_openFirst, .ref a_t_openLast, z_t_homeMinutes, z_t_beginning, z_t_ending, z_t_comer, z_t_nextComer])), (a_t_openFirst, .inl (cy 1, 4, .inl t_openFirst)), (a_t_openLast, .inl (cy 1, 4, .inl t_openLast))]
noncomputable def F_X1_isOpen (t_openFirst : Nat → Int32) (t_openLast : Nat → Int32) (x1 : Int32) (x2 : Int32) : Int32 := (if x1 < (0 : Int32) then (0 : Int32) else (if (4 : Int32) ≤ x1 then (0 : Int32) else (if x2 < (t_openFirst x1.toNatClampNeg) then (0 : Int32) else (if (t_openLast x1.toNatClampNeg) < x2 then (0 : Int32) else (1 : Int32)))))
def ok_X1_isOpen (t_openFirst : Nat → Int32) (x1 : Int32) (x2 : Int32) : Prop := (¬ (x1 < (0 : Int32)) → (¬ ((4 : Int32) ≤ x1) → (vp_in x1 4) ∧ (¬ (x2 < (t_openFirst x1.toNatClampNeg)) → (vp_in x1 4))))
set_option maxHeartbeats 4000000 in
set_option maxRecDepth 100000 in
theorem w_X1_isOpen {p : Program} {l : Launch} {e : Env} {s : State} {m : MethodId} {args : Array Value} {below : List Frame} {meth : Method} {c : Code} {D : va_G} {cy : Nat → ClassId} {QQ : State → Prop} {FV : Int32} (a_t : Nat) (a_t_openFirst : Nat) (a_t_openLast : Nat) (z_t_people : Value) (z_t_sessions : Value) (z_t_places : Value) (z_t_forgetTenths : Value) (z_t_ownKeys : Value) (z_t_person : Value) (z_t_first : Value) (z_t_last : Value) (z_t_minutes : Value) (z_t_risk : Value) (z_t_homeMinutes : Value) (z_t_beginning : Value) (z_t_ending : Value) (z_t_comer : Value) (z_t_nextComer : Value) (t_openFirst : Nat → Int32) (t_openLast : Nat → Int32) (x1 : Int32) (x2 : Int32) (hx : p.tables.exec = Jvm.exec) (hb : c.code = cX1_isOpen) (hml : c.maxLocals = 3) (hown : s.vm.findClass RX1 = some m.cls) (hts : ∀ w ∈ Cond.code yX1_isOpen cX1_isOpen 3 (some .boolean) :: LW, w.before args s = true) (hG : GW D cy s) (hret : ∀ (r : Int32) (ls : Array Slot) (pc : Nat), FV = r → narrow .boolean (.int r) = .int r → decode cX1_isOpen pc = .ok (.ireturn, 1) → W p l e (rmk 0 0) s m args below meth c s.heap [] 0 0 QQ (F0 m pc ls [.int r])) (ls : Array Slot) (hl : lv_has ls 3 [(0, .ref a_t), (1, .int x1), (2, .int x2)]) (hP : va_P D vwCl (wd_X1_isOpen cy a_t a_t_openFirst a_t_openLast z_t_people z_t_sessions z_t_places z_t_forgetTenths z_t_ownKeys z_t_person z_t_first z_t_last z_t_minutes z_t_risk z_t_homeMinutes z_t_beginning z_t_ending z_t_comer z_t_nextComer t_openFirst t_openLast) s.heap) (hok : (ok_X1_isOpen t_openFirst x1 x2)) (hR : FV = (F_X1_isOpen t_openFirst t_openLast x1 x2)) : W p l e (rmk 0 0) s m args below meth c s.heap [] 0 0 QQ (F0 m 0 ls []) := by
  have hw : ∀ w ∈ LW, w.before args s = true := fun w h => hts w (List.mem_cons_of_mem _ h)
  have hK := hG.1
  unfold F_X1_isOpen at hR
  unfold ok_X1_isOpen at hok
  refine lv_iload_n hx hb dX1_isOpen_0 rfl (lv_at hl 1 rfl) ?_
  have K_1 : W p l e (rmk 0 0) s m args below meth c s.heap [] 0 0 QQ (F0 m 34 ls [.int (if x1 < (0 : Int32) then (0 : Int32) else (if (4 : Int32) ≤ x1 then (0 : Int32) else (if x2 < (t_openFirst x1.toNatClampNeg) then (0 : Int32) else (if (t_openLast x1.toNatClampNeg) < x2 then (0 : Int32) else (1 : Int32)))))]) := by
    exact hret (if x1 < (0 : Int32) then (0 : Int32) else (if (4 : Int32) ≤ x1 then (0 : Int32) else (if x2 < (t_openFirst x1.toNatClampNeg) then (0 : Int32) else (if (t_openLast x1.toNatClampNeg) < x2 then (0 : Int32) else (1 : Int32))))) _ _ hR (isB.nar (isB_ite isB_0 (isB_ite isB_0 (isB_ite isB_0 (isB_ite isB_0 isB_1))))) dX1_isOpen_34
  refine lv_if_lt (tgt := 33) hx hb dX1_isOpen_1 (by decide) (fun c_1 => ?_) (fun c_1 => ?_)
  · refine lv_iconst (v := 0) hx hb dX1_isOpen_33 (by decide) ?_
    exact W.eq (congrArg (fun z => F0 m 34 ls (Value.int z :: [])) (if_pos c_1).symm) K_1
  · replace hok := hok c_1
    refine lv_iload_n hx hb dX1_isOpen_4 rfl (lv_at hl 1 rfl) ?_
    refine lv_iconst (v := 4) hx hb dX1_isOpen_5 (by decide) ?_
    refine lv_icmp_ge (tgt := 33) hx hb dX1_isOpen_6 (by decide) (fun c_6 => ?_) (fun c_6 => ?_)
    · refine lv_iconst (v := 0) hx hb dX1_isOpen_33 (by decide) ?_
      exact W.eq (congrArg (fun z => F0 m 34 ls (Value.int z :: [])) ((if_neg c_1).trans (if_pos c_6)).symm) K_1
    · replace hok := hok c_6
      refine lv_aload_n hx hb dX1_isOpen_9 rfl (lv_at hl 0 rfl) ?_
      refine g_X1_43 hx hb hw hown hK hP 0 rfl rfl dX1_isOpen_10 ?_
      refine lv_iload_n hx hb dX1_isOpen_13 rfl (lv_at hl 1 rfl) ?_
      obtain ⟨h_14_0, hok⟩ := hok
      refine va_iald hx hb hK hP 1 1 rfl rfl h_14_0 dX1_isOpen_14 ?_
      refine lv_iload_n hx hb dX1_isOpen_15 rfl (lv_at hl 2 rfl) ?_
      refine lv_icmp_gt (tgt := 33) hx hb dX1_isOpen_16 (by decide) (fun c_16 => ?_) (fun c_16 => ?_)
      · refine lv_iconst (v := 0) hx hb dX1_isOpen_33 (by decide) ?_
        exact W.eq (congrArg (fun z => F0 m 34 ls (Value.int z :: [])) ((if_neg c_1).trans ((if_neg c_6).trans (if_pos c_16))).symm) K_1
      · replace hok := hok c_16
        refine lv_iload_n hx hb dX1_isOpen_19 rfl (lv_at hl 2 rfl) ?_
        refine lv_aload_n hx hb dX1_isOpen_20 rfl (lv_at hl 0 rfl) ?_
        refine g_X1_46 hx hb hw hown hK hP 0 rfl rfl dX1_isOpen_21 ?_
        refine lv_iload_n hx hb dX1_isOpen_24 rfl (lv_at hl 1 rfl) ?_
        have h_25_0 := hok
        refine va_iald hx hb hK hP 2 1 rfl rfl h_25_0 dX1_isOpen_25 ?_
        refine lv_icmp_gt (tgt := 33) hx hb dX1_isOpen_26 (by decide) (fun c_26 => ?_) (fun c_26 => ?_)
        · refine lv_iconst (v := 0) hx hb dX1_isOpen_33 (by decide) ?_
          exact W.eq (congrArg (fun z => F0 m 34 ls (Value.int z :: [])) ((if_neg c_1).trans ((if_neg c_6).trans ((if_neg c_16).trans (if_pos c_26)))).symm) K_1
        · refine lv_iconst (v := 1) hx hb dX1_isOpen_29 (by decide) ?_
          refine lv_goto (tgt := 34) hx hb dX1_isOpen_30 (by decide) ?_
          exact W.eq (congrArg (fun z => F0 m 34 ls (Value.int z :: [])) ((if_neg c_1).trans ((if_neg c_6).trans ((if_neg c_16).trans (if_neg c_26)))).symm) K_1
set_option maxHeartbeats 1000000 in
set_option maxRecDepth 100000 in
theorem c_X1_isOpen {l : Launch} {D : va_G} {cy : Nat → ClassId} (a_t : Nat) (a_t_openFirst : Nat) (a_t_openLast : Nat) (z_t_people : Value) (z_t_sessions : Value) (z_t_places : Value) (z_t_forgetTenths : Value) (z_t_ownKeys : Value) (z_t_person : Value) (z_t_first : Value) (z_t_last : Value) (z_t_minutes : Value) (z_t_risk : Value) (z_t_homeMinutes : Value) (z_t_beginning : Value) (z_t_ending : Value) (z_t_comer : Value) (z_t_nextComer : Value) (t_openFirst : Nat → Int32) (t_openLast : Nat → Int32) (x1 : Int32) (x2 : Int32) (hok : (ok_X1_isOpen t_openFirst x1 x2)) : RdI l yX1_isOpen cX1_isOpen 3 (some .boolean) 0 0 D cy [.ref a_t, .int x1, .int x2] (wd_X1_isOpen cy a_t a_t_openFirst a_t_openLast z_t_people z_t_sessions z_t_places z_t_forgetTenths z_t_ownKeys z_t_person z_t_first z_t_last z_t_minutes z_t_risk z_t_homeMinutes z_t_beginning z_t_ending z_t_comer z_t_nextComer t_openFirst t_openLast) (F_X1_isOpen t_openFirst t_openLast x1 x2) := by
  refine Met.ofW (cc := cX1_isOpen) (maxL := 3) (ret := (some .boolean)) (by decide) rfl ?_
  intro p e s m args below meth c s₁ B hml hv
  obtain ⟨rfl, hP, hG⟩ := hv
  have hr := B.returns
  have hlocks := B.notSynchronized
  have hl := lv_entry ([.ref a_t, .int x1, .int x2]) (n := 3) (Nat.le_of_ble_eq_true rfl)
  rw [lg_entry_eq]
  generalize (lg_sl ([.ref a_t, .int x1, .int x2]) ++ List.replicate (3 - (lg_sl ([.ref a_t, .int x1, .int x2])).length) Slot.unset).toArray = ls at hl ⊢
  exact w_X1_isOpen a_t a_t_openFirst a_t_openLast z_t_people z_t_sessions z_t_places z_t_forgetTenths z_t_ownKeys z_t_person z_t_first z_t_last z_t_minutes z_t_risk z_t_homeMinutes z_t_beginning z_t_ending z_t_comer z_t_nextComer t_openFirst t_openLast x1 x2 B.exec B.bytes hml (findClass_of_methodNamed B.named) (atoms_spec (ws := Cond.code yX1_isOpen cX1_isOpen 3 (some .boolean) :: LW) B.pre) hG (fun r ls pc hF hn hdg => W.zret (v := r) B.exec B.bytes hr hn (fun t ht hW => ⟨r, rfl, hF.symm, ht⟩) (fun _ h => absurd h List.not_mem_nil) hdg) ls hl hP hok rfl
abbrev wd_J6_bitCount_0f7a4 (cy : Nat → ClassId) : va_W := []
noncomputable def F_J6_bitCount_0f7a4_b41 (v0 : Int32) : Int32 := ((v0 + (v0.toUInt32 >>> ((16 : Int32).toUInt32 &&& Int32.toUInt32 31)).toInt32) &&& (63 : Int32))
noncomputable def F_J6_bitCount_0f7a4_b24 (v0 : Int32) : Int32 := ((fun (q : Int32) => (F_J6_bitCount_0f7a4_b41 q)) (((v0 + (v0.toUInt32 >>> ((4 : Int32).toUInt32 &&& Int32.toUInt32 31)).toInt32) &&& (252645135 : Int32)) + (((v0 + (v0.toUInt32 >>> ((4 : Int32).toUInt32 &&& Int32.toUInt32 31)).toInt32) &&& (252645135 : Int32)).toUInt32 >>> ((8 : Int32).toUInt32 &&& Int32.toUInt32 31)).toInt32))
noncomputable def F_J6_bitCount_0f7a4 (x0 : Int32) : Int32 := ((fun (q : Int32) => (F_J6_bitCount_0f7a4_b24 q)) (((x0 - ((x0.toUInt32 >>> ((1 : Int32).toUInt32 &&& Int32.toUInt32 31)).toInt32 &&& (1431655765 : Int32))) &&& (858993459 : Int32)) + (((x0 - ((x0.toUInt32 >>> ((1 : Int32).toUInt32 &&& Int32.toUInt32 31)).toInt32 &&& (1431655765 : Int32))).toUInt32 >>> ((2 : Int32).toUInt32 &&& Int32.toUInt32 31)).toInt32 &&& (858993459 : Int32))))
set_option maxHeartbeats 4000000 in
set_option maxRecDepth 100000 in
theorem w_J6_bitCount_0f7a4 {p : Program} {l : Launch} {e : Env} {s : State} {m : MethodId} {args : Array Value} {below : List Frame} {meth : Method} {c : Code} {D : va_G} {cy : Nat → ClassId} {QQ : State → Prop} {FV : Int32} (x0 : Int32) (hx : p.tables.exec = Jvm.exec) (hb : c.code = cJ6_bitCount_0f7a4) (hml : c.maxLocals = 1) (hown : s.vm.findClass RJ6 = some m.cls) (hts : ∀ w ∈ Cond.code yJ6_bitCount_0f7a4 cJ6_bitCount_0f7a4 1 (some .int) :: LW, w.before args s = true) (hG : GW D cy s) (hret : ∀ (r : Int32) (ls : Array Slot) (pc : Nat), FV = r → decode cJ6_bitCount_0f7a4 pc = .ok (.ireturn, 1) → W p l e (rmk 0 0) s m args below meth c s.heap [] 0 0 QQ (F0 m pc ls [.int r])) (ls : Array Slot) (hl : lv_has ls 1 [(0, .int x0)]) (hP : va_P D vwCl (wd_J6_bitCount_0f7a4 cy) s.heap) (hR : FV = (F_J6_bitCount_0f7a4 x0)) : W p l e (rmk 0 0) s m args below meth c s.heap [] 0 0 QQ (F0 m 0 ls []) := by
  have hw : ∀ w ∈ LW, w.before args s = true := fun w h => hts w (List.mem_cons_of_mem _ h)
  have hK := hG.1
  unfold F_J6_bitCount_0f7a4 at hR
  refine lv_iload_n hx hb dJ6_bitCount_0f7a4_0 rfl (lv_at hl 0 rfl) ?_
  refine lv_iload_n hx hb dJ6_bitCount_0f7a4_1 rfl (lv_at hl 0 rfl) ?_
  refine lv_iconst (v := 1) hx hb dJ6_bitCount_0f7a4_2 (by decide) ?_
  refine lv_iushr hx hb dJ6_bitCount_0f7a4_3 rfl ?_
  refine lv_ldcw hx hb hown (hw _ kc_J6_265) dJ6_bitCount_0f7a4_4 ?_
  refine lv_iand hx hb dJ6_bitCount_0f7a4_7 ?_
  refine lv_isub hx hb dJ6_bitCount_0f7a4_8 ?_
  refine lv_istore_n (lv' := [(0, .int (x0 - ((x0.toUInt32 >>> ((1 : Int32).toUInt32 &&& Int32.toUInt32 31)).toInt32 &&& (1431655765 : Int32))))]) hx hb dJ6_bitCount_0f7a4_9 rfl hl (Nat.le_of_ble_eq_true rfl) rfl (fun ls hl => ?_)
  refine lv_iload_n hx hb dJ6_bitCount_0f7a4_10 rfl (lv_at hl 0 rfl) ?_
  refine lv_ldcw hx hb hown (hw _ kc_J6_266) dJ6_bitCount_0f7a4_11 ?_
  refine lv_iand hx hb dJ6_bitCount_0f7a4_14 ?_
  refine lv_iload_n hx hb dJ6_bitCount_0f7a4_15 rfl (lv_at hl 0 rfl) ?_
  refine lv_iconst (v := 2) hx hb dJ6_bitCount_0f7a4_16 (by decide) ?_
  refine lv_iushr hx hb dJ6_bitCount_0f7a4_17 rfl ?_
  refine lv_ldcw hx hb hown (hw _ kc_J6_266) dJ6_bitCount_0f7a4_18 ?_
  refine lv_iand hx hb dJ6_bitCount_0f7a4_21 ?_
  refine lv_iadd hx hb dJ6_bitCount_0f7a4_22 ?_
  refine lv_topi (fun y_23 e_23 => ?_)
  have hR2 := hRq (fun (q : Int32) => (F_J6_bitCount_0f7a4_b24 q)) e_23 hR
  replace hR : FV = (F_J6_bitCount_0f7a4_b24 y_23) := hR2
  refine lv_istore_n (lv' := [(0, .int y_23)]) hx hb dJ6_bitCount_0f7a4_23 rfl hl (Nat.le_of_ble_eq_true rfl) rfl (fun ls hl => ?_)
  unfold F_J6_bitCount_0f7a4_b24 at hR
  refine lv_iload_n hx hb dJ6_bitCount_0f7a4_24 rfl (lv_at hl 0 rfl) ?_
  refine lv_iload_n hx hb dJ6_bitCount_0f7a4_25 rfl (lv_at hl 0 rfl) ?_
  refine lv_iconst (v := 4) hx hb dJ6_bitCount_0f7a4_26 (by decide) ?_
  refine lv_iushr hx hb dJ6_bitCount_0f7a4_27 rfl ?_
  refine lv_iadd hx hb dJ6_bitCount_0f7a4_28 ?_
  refine lv_ldcw hx hb hown (hw _ kc_J6_267) dJ6_bitCount_0f7a4_29 ?_
  refine lv_iand hx hb dJ6_bitCount_0f7a4_32 ?_
  refine lv_istore_n (lv' := [(0, .int ((y_23 + (y_23.toUInt32 >>> ((4 : Int32).toUInt32 &&& Int32.toUInt32 31)).toInt32) &&& (252645135 : Int32)))]) hx hb dJ6_bitCount_0f7a4_33 rfl hl (Nat.le_of_ble_eq_true rfl) rfl (fun ls hl => ?_)
  refine lv_iload_n hx hb dJ6_bitCount_0f7a4_34 rfl (lv_at hl 0 rfl) ?_
  refine lv_iload_n hx hb dJ6_bitCount_0f7a4_35 rfl (lv_at hl 0 rfl) ?_
  refine lv_bipush (v := 8) hx hb dJ6_bitCount_0f7a4_36 (by decide) ?_
  refine lv_iushr hx hb dJ6_bitCount_0f7a4_38 rfl ?_
  refine lv_iadd hx hb dJ6_bitCount_0f7a4_39 ?_
  refine lv_topi (fun y_40 e_40 => ?_)
  have hR2 := hRq (fun (q : Int32) => (F_J6_bitCount_0f7a4_b41 q)) e_40 hR
  replace hR : FV = (F_J6_bitCount_0f7a4_b41 y_40) := hR2
  refine lv_istore_n (lv' := [(0, .int y_40)]) hx hb dJ6_bitCount_0f7a4_40 rfl hl (Nat.le_of_ble_eq_true rfl) rfl (fun ls hl => ?_)
  unfold F_J6_bitCount_0f7a4_b41 at hR
  refine lv_iload_n hx hb dJ6_bitCount_0f7a4_41 rfl (lv_at hl 0 rfl) ?_
  refine lv_iload_n hx hb dJ6_bitCount_0f7a4_42 rfl (lv_at hl 0 rfl) ?_
  refine lv_bipush (v := 16) hx hb dJ6_bitCount_0f7a4_43 (by decide) ?_
  refine lv_iushr hx hb dJ6_bitCount_0f7a4_45 rfl ?_
  refine lv_iadd hx hb dJ6_bitCount_0f7a4_46 ?_
  refine lv_istore_n (lv' := [(0, .int (y_40 + (y_40.toUInt32 >>> ((16 : Int32).toUInt32 &&& Int32.toUInt32 31)).toInt32))]) hx hb dJ6_bitCount_0f7a4_47 rfl hl (Nat.le_of_ble_eq_true rfl) rfl (fun ls hl => ?_)
  refine lv_iload_n hx hb dJ6_bitCount_0f7a4_48 rfl (lv_at hl 0 rfl) ?_
  refine lv_bipush (v := 63) hx hb dJ6_bitCount_0f7a4_49 (by decide) ?_
  refine lv_iand hx hb dJ6_bitCount_0f7a4_51 ?_
  exact hret ((y_40 + (y_40.toUInt32 >>> ((16 : Int32).toUInt32 &&& Int32.toUInt32 31)).toInt32) &&& (63 : Int32)) _ _ hR dJ6_bitCount_0f7a4_52
set_option maxHeartbeats 1000000 in
set_option maxRecDepth 100000 in
theorem c_J6_bitCount_0f7a4 {l : Launch} {D : va_G} {cy : Nat → ClassId} (x0 : Int32) : RdI l yJ6_bitCount_0f7a4 cJ6_bitCount_0f7a4 1 (some .int) 0 0 D cy [.int x0] (wd_J6_bitCount_0f7a4 cy) (F_J6_bitCount_0f7a4 x0) := by
  refine Met.ofW (cc := cJ6_bitCount_0f7a4) (maxL := 1) (ret := (some .int)) (by decide) rfl ?_
  intro p e s m args below meth c s₁ B hml hv
  obtain ⟨rfl, hP, hG⟩ := hv
  have hr := B.returns
  have hlocks := B.notSynchronized
  have hl := lv_entry ([.int x0]) (n := 1) (Nat.le_of_ble_eq_true rfl)
  rw [lg_entry_eq]
  generalize (lg_sl ([.int x0]) ++ List.replicate (1 - (lg_sl ([.int x0])).length) Slot.unset).toArray = ls at hl ⊢
  exact w_J6_bitCount_0f7a4 x0 B.exec B.bytes hml (findClass_of_methodNamed B.named) (atoms_spec (ws := Cond.code yJ6_bitCount_0f7a4 cJ6_bitCount_0f7a4 1 (some .int) :: LW) B.pre) hG (fun r ls pc hF hdg => W.iret (v := r) B.exec B.bytes hr (fun t ht hW => ⟨r, rfl, hF.symm, ht⟩) (fun _ h => absurd h List.not_mem_nil) hdg) ls hl hP rfl
abbrev wd_X1_isPlace (cy : Nat → ClassId) (a_t : Nat) (z_t_people : Value) (z_t_sessions : Value) (z_t_forgetTenths : Value) (z_t_ownKeys : Value) (z_t_person : Value) (z_t_first : Value) (z_t_last : Value) (z_t_minutes : Value) (z_t_risk : Value) (z_t_openFirst : Value) (z_t_openLast : Value) (z_t_homeMinutes : Value) (z_t_beginning : Value) (z_t_ending : Value) (z_t_comer : Value) (z_t_nextComer : Value) (t_places : Int32) : va_W := [(a_t, .inr (1, [z_t_people, z_t_sessions, .int t_places, z_t_forgetTenths, z_t_ownKeys, z_t_person, z_t_first, z_t_last, z_t_minutes, z_t_risk, z_t_openFirst, z_t_openLast, z_t_homeMinutes, z_t_beginning, z_t_ending, z_t_comer, z_t_nextComer]))]
noncomputable def F_X1_isPlace (t_places : Int32) (x1 : Int32) : Int32 := (if x1 < (0 : Int32) then (0 : Int32) else (if (4 : Int32) ≤ x1 then (0 : Int32) else (if ((t_places >>> (x1 &&& (31 : Int32))) &&& (1 : Int32)) = (0 : Int32) then (0 : Int32) else (1 : Int32))))
set_option maxHeartbeats 4000000 in
set_option maxRecDepth 100000 in
theorem w_X1_isPlace {p : Program} {l : Launch} {e : Env} {s : State} {m : MethodId} {args : Array Value} {below : List Frame} {meth : Method} {c : Code} {D : va_G} {cy : Nat → ClassId} {QQ : State → Prop} {FV : Int32} (a_t : Nat) (z_t_people : Value) (z_t_sessions : Value) (z_t_forgetTenths : Value) (z_t_ownKeys : Value) (z_t_person : Value) (z_t_first : Value) (z_t_last : Value) (z_t_minutes : Value) (z_t_risk : Value) (z_t_openFirst : Value) (z_t_openLast : Value) (z_t_homeMinutes : Value) (z_t_beginning : Value) (z_t_ending : Value) (z_t_comer : Value) (z_t_nextComer : Value) (t_places : Int32) (x1 : Int32) (hx : p.tables.exec = Jvm.exec) (hb : c.code = cX1_isPlace) (hml : c.maxLocals = 2) (hown : s.vm.findClass RX1 = some m.cls) (hts : ∀ w ∈ Cond.code yX1_isPlace cX1_isPlace 2 (some .boolean) :: LW, w.before args s = true) (hG : GW D cy s) (hret : ∀ (r : Int32) (ls : Array Slot) (pc : Nat), FV = r → narrow .boolean (.int r) = .int r → decode cX1_isPlace pc = .ok (.ireturn, 1) → W p l e (rmk 0 0) s m args below meth c s.heap [] 0 0 QQ (F0 m pc ls [.int r])) (ls : Array Slot) (hl : lv_has ls 2 [(0, .ref a_t), (1, .int x1)]) (hP : va_P D vwCl (wd_X1_isPlace cy a_t z_t_people z_t_sessions z_t_forgetTenths z_t_ownKeys z_t_person z_t_first z_t_last z_t_minutes z_t_risk z_t_openFirst z_t_openLast z_t_homeMinutes z_t_beginning z_t_ending z_t_comer z_t_nextComer t_places) s.heap) (hR : FV = (F_X1_isPlace t_places x1)) : W p l e (rmk 0 0) s m args below meth c s.heap [] 0 0 QQ (F0 m 0 ls []) := by
  have hw : ∀ w ∈ LW, w.before args s = true := fun w h => hts w (List.mem_cons_of_mem _ h)
  have hK := hG.1
  unfold F_X1_isPlace at hR
  refine lv_iload_n hx hb dX1_isPlace_0 rfl (lv_at hl 1 rfl) ?_
  have K_1 : W p l e (rmk 0 0) s m args below meth c s.heap [] 0 0 QQ (F0 m 25 ls [.int (if x1 < (0 : Int32) then (0 : Int32) else (if (4 : Int32) ≤ x1 then (0 : Int32) else (if ((t_places >>> (x1 &&& (31 : Int32))) &&& (1 : Int32)) = (0 : Int32) then (0 : Int32) else (1 : Int32))))]) := by
    exact hret (if x1 < (0 : Int32) then (0 : Int32) else (if (4 : Int32) ≤ x1 then (0 : Int32) else (if ((t_places >>> (x1 &&& (31 : Int32))) &&& (1 : Int32)) = (0 : Int32) then (0 : Int32) else (1 : Int32)))) _ _ hR (isB.nar (isB_ite isB_0 (isB_ite isB_0 (isB_ite isB_0 isB_1)))) dX1_isPlace_25
  refine lv_if_lt (tgt := 24) hx hb dX1_isPlace_1 (by decide) (fun c_1 => ?_) (fun c_1 => ?_)
  · refine lv_iconst (v := 0) hx hb dX1_isPlace_24 (by decide) ?_
    exact W.eq (congrArg (fun z => F0 m 25 ls (Value.int z :: [])) (if_pos c_1).symm) K_1
  · refine lv_iload_n hx hb dX1_isPlace_4 rfl (lv_at hl 1 rfl) ?_
    refine lv_iconst (v := 4) hx hb dX1_isPlace_5 (by decide) ?_
    refine lv_icmp_ge (tgt := 24) hx hb dX1_isPlace_6 (by decide) (fun c_6 => ?_) (fun c_6 => ?_)
    · refine lv_iconst (v := 0) hx hb dX1_isPlace_24 (by decide) ?_
      exact W.eq (congrArg (fun z => F0 m 25 ls (Value.int z :: [])) ((if_neg c_1).trans (if_pos c_6)).symm) K_1
    · refine lv_aload_n hx hb dX1_isPlace_9 rfl (lv_at hl 0 rfl) ?_
      refine g_X1_18 hx hb hw hown hK hP 0 rfl rfl dX1_isPlace_10 ?_
      refine lv_iload_n hx hb dX1_isPlace_13 rfl (lv_at hl 1 rfl) ?_
      refine lv_ishr hx hb dX1_isPlace_14 ?_
      refine lv_iconst (v := 1) hx hb dX1_isPlace_15 (by decide) ?_
      refine lv_iand hx hb dX1_isPlace_16 ?_
      refine lv_if_eq (tgt := 24) hx hb dX1_isPlace_17 (by decide) (fun c_17 => ?_) (fun c_17 => ?_)
      · refine lv_iconst (v := 0) hx hb dX1_isPlace_24 (by decide) ?_
        exact W.eq (congrArg (fun z => F0 m 25 ls (Value.int z :: [])) ((if_neg c_1).trans ((if_neg c_6).trans (if_pos c_17))).symm) K_1
      · refine lv_iconst (v := 1) hx hb dX1_isPlace_20 (by decide) ?_
        refine lv_goto (tgt := 25) hx hb dX1_isPlace_21 (by decide) ?_
        exact W.eq (congrArg (fun z => F0 m 25 ls (Value.int z :: [])) ((if_neg c_1).trans ((if_neg c_6).trans (if_neg c_17))).symm) K_1
set_option maxHeartbeats 1000000 in
set_option maxRecDepth 100000 in
theorem c_X1_isPlace {l : Launch} {D : va_G} {cy : Nat → ClassId} (a_t : Nat) (z_t_people : Value) (z_t_sessions : Value) (z_t_forgetTenths : Value) (z_t_ownKeys : Value) (z_t_person : Value) (z_t_first : Value) (z_t_last : Value) (z_t_minutes : Value) (z_t_risk : Value) (z_t_openFirst : Value) (z_t_openLast : Value) (z_t_homeMinutes : Value) (z_t_beginning : Value) (z_t_ending : Value) (z_t_comer : Value) (z_t_nextComer : Value) (t_places : Int32) (x1 : Int32) : RdI l yX1_isPlace cX1_isPlace 2 (some .boolean) 0 0 D cy [.ref a_t, .int x1] (wd_X1_isPlace cy a_t z_t_people z_t_sessions z_t_forgetTenths z_t_ownKeys z_t_person z_t_first z_t_last z_t_minutes z_t_risk z_t_openFirst z_t_openLast z_t_homeMinutes z_t_beginning z_t_ending z_t_comer z_t_nextComer t_places) (F_X1_isPlace t_places x1) := by
  refine Met.ofW (cc := cX1_isPlace) (maxL := 2) (ret := (some .boolean)) (by decide) rfl ?_
  intro p e s m args below meth c s₁ B hml hv
  obtain ⟨rfl, hP, hG⟩ := hv
  have hr := B.returns
  have hlocks := B.notSynchronized
  have hl := lv_entry ([.ref a_t, .int x1]) (n := 2) (Nat.le_of_ble_eq_true rfl)
  rw [lg_entry_eq]
  generalize (lg_sl ([.ref a_t, .int x1]) ++ List.replicate (2 - (lg_sl ([.ref a_t, .int x1])).length) Slot.unset).toArray = ls at hl ⊢
  exact w_X1_isPlace a_t z_t_people z_t_sessions z_t_forgetTenths z_t_ownKeys z_t_person z_t_first z_t_last z_t_minutes z_t_risk z_t_openFirst z_t_openLast z_t_homeMinutes z_t_beginning z_t_ending z_t_comer z_t_nextComer t_places x1 B.exec B.bytes hml (findClass_of_methodNamed B.named) (atoms_spec (ws := Cond.code yX1_isPlace cX1_isPlace 2 (some .boolean) :: LW) B.pre) hG (fun r ls pc hF hn hdg => W.zret (v := r) B.exec B.bytes hr hn (fun t ht hW => ⟨r, rfl, hF.symm, ht⟩) (fun _ h => absurd h List.not_mem_nil) hdg) ls hl hP rfl
abbrev wd_X1_personOfLeast (cy : Nat → ClassId) (a_t : Nat) (a_t_person : Nat) (z_t_people : Value) (z_t_places : Value) (z_t_forgetTenths : Value) (z_t_ownKeys : Value) (z_t_first : Value) (z_t_last : Value) (z_t_minutes : Value) (z_t_risk : Value) (z_t_openFirst : Value) (z_t_openLast : Value) (z_t_homeMinutes : Value) (z_t_beginning : Value) (z_t_ending : Value) (z_t_comer : Value) (z_t_nextComer : Value) (t_sessions : Int32) (t_person : Nat → Int32) : va_W := [(a_t, .inr (1, [z_t_people, .int t_sessions, z_t_places, z_t_forgetTenths, z_t_ownKeys, .ref a_t_person, z_t_first, z_t_last, z_t_minutes, z_t_risk, z_t_openFirst, z_t_openLast, z_t_homeMinutes, z_t_beginning, z_t_ending, z_t_comer, z_t_nextComer])), (a_t_person, .inl (cy 1, 8, .inl t_person))]
noncomputable def F_X1_personOfLeast_b31 : Int32 := (-9 : Int32)
noncomputable def F_X1_personOfLeast_L2 (t_sessions : Int32) (t_person : Nat → Int32) (x1 : Int32) (kx : Int32) (n : Nat) : Int32 → Int32 := Nat.rec (motive := fun _ => Int32 → Int32) (fun _ => (0 : Int32)) (fun _ ih v2 => (if t_sessions ≤ v2 then kx else (if ((x1 >>> (v2 &&& (31 : Int32))) &&& (1 : Int32)) = (0 : Int32) then (ih (v2 + (1 : Int32))) else (t_person v2.toNatClampNeg)))) n
theorem F_X1_personOfLeast_L2_s {t_sessions : Int32} {t_person : Nat → Int32} {x1 : Int32} {kx : Int32} {n : Nat} {v2 : Int32} : F_X1_personOfLeast_L2 t_sessions t_person x1 kx (n + 1) v2 = (if t_sessions ≤ v2 then kx else (if ((x1 >>> (v2 &&& (31 : Int32))) &&& (1 : Int32)) = (0 : Int32) then ((F_X1_personOfLeast_L2 t_sessions t_person x1 kx n) (v2 + (1 : Int32))) else (t_person v2.toNatClampNeg))) := rfl
def ok_X1_personOfLeast_L2 (t_sessions : Int32) (x1 : Int32) (n : Nat) : Int32 → Prop := Nat.rec (motive := fun _ => Int32 → Prop) (fun _ => False) (fun _ oih v2 => (¬ (t_sessions ≤ v2) → ((((x1 >>> (v2 &&& (31 : Int32))) &&& (1 : Int32)) = (0 : Int32) → (oih (v2 + (1 : Int32)))) ∧ (¬ (((x1 >>> (v2 &&& (31 : Int32))) &&& (1 : Int32)) = (0 : Int32)) → (vp_in v2 8))))) n
theorem ok_X1_personOfLeast_L2_s {t_sessions : Int32} {x1 : Int32} {n : Nat} {v2 : Int32} : ok_X1_personOfLeast_L2 t_sessions x1 (n + 1) v2 ↔ ((¬ (t_sessions ≤ v2) → ((((x1 >>> (v2 &&& (31 : Int32))) &&& (1 : Int32)) = (0 : Int32) → ((ok_X1_personOfLeast_L2 t_sessions x1 n) (v2 + (1 : Int32)))) ∧ (¬ (((x1 >>> (v2 &&& (31 : Int32))) &&& (1 : Int32)) = (0 : Int32)) → (vp_in v2 8))))) := Iff.rfl
noncomputable def F_X1_personOfLeast (t_sessions : Int32) (t_person : Nat → Int32) (x1 : Int32) : Int32 := (F_X1_personOfLeast_L2 t_sessions t_person x1 (F_X1_personOfLeast_b31) FU (0 : Int32))
def ok_X1_personOfLeast (t_sessions : Int32) (x1 : Int32) : Prop := (ok_X1_personOfLeast_L2 t_sessions x1 FU (0 : Int32))
set_option maxHeartbeats 4000000 in
set_option maxRecDepth 100000 in
theorem w_X1_personOfLeast {p : Program} {l : Launch} {e : Env} {s : State} {m : MethodId} {args : Array Value} {below : List Frame} {meth : Method} {c : Code} {D : va_G} {cy : Nat → ClassId} {QQ : State → Prop} {FV : Int32} (a_t : Nat) (a_t_person : Nat) (z_t_people : Value) (z_t_places : Value) (z_t_forgetTenths : Value) (z_t_ownKeys : Value) (z_t_first : Value) (z_t_last : Value) (z_t_minutes : Value) (z_t_risk : Value) (z_t_openFirst : Value) (z_t_openLast : Value) (z_t_homeMinutes : Value) (z_t_beginning : Value) (z_t_ending : Value) (z_t_comer : Value) (z_t_nextComer : Value) (t_sessions : Int32) (t_person : Nat → Int32) (x1 : Int32) (hx : p.tables.exec = Jvm.exec) (hb : c.code = cX1_personOfLeast) (hml : c.maxLocals = 3) (hown : s.vm.findClass RX1 = some m.cls) (hts : ∀ w ∈ Cond.code yX1_personOfLeast cX1_personOfLeast 3 (some .int) :: LW, w.before args s = true) (hG : GW D cy s) (hret : ∀ (r : Int32) (ls : Array Slot) (pc : Nat), FV = r → decode cX1_personOfLeast pc = .ok (.ireturn, 1) → W p l e (rmk 0 0) s m args below meth c s.heap [] 0 0 QQ (F0 m pc ls [.int r])) (ls : Array Slot) (hl : lv_has ls 3 [(0, .ref a_t), (1, .int x1)]) (hP : va_P D vwCl (wd_X1_personOfLeast cy a_t a_t_person z_t_people z_t_places z_t_forgetTenths z_t_ownKeys z_t_first z_t_last z_t_minutes z_t_risk z_t_openFirst z_t_openLast z_t_homeMinutes z_t_beginning z_t_ending z_t_comer z_t_nextComer t_sessions t_person) s.heap) (hok : (ok_X1_personOfLeast t_sessions x1)) (hR : FV = (F_X1_personOfLeast t_sessions t_person x1)) : W p l e (rmk 0 0) s m args below meth c s.heap [] 0 0 QQ (F0 m 0 ls []) := by
  have hw : ∀ w ∈ LW, w.before args s = true := fun w h => hts w (List.mem_cons_of_mem _ h)
  have hK := hG.1
  unfold F_X1_personOfLeast at hR
  unfold ok_X1_personOfLeast at hok
  refine lv_iconst (v := 0) hx hb dX1_personOfLeast_0 (by decide) ?_
  refine lv_istore_n (lv' := [(2, .int (0 : Int32)), (0, .ref a_t), (1, .int x1)]) hx hb dX1_personOfLeast_1 rfl hl (Nat.le_of_ble_eq_true rfl) rfl (fun ls hl => ?_)
  have L_2 : ∀ (n_2 : Nat) (v2_2 : Int32) (ls : Array Slot), lv_has ls 3 [(0, .ref a_t), (1, .int x1), (2, .int v2_2)] → (ok_X1_personOfLeast_L2 t_sessions x1 n_2 v2_2) → FV = (F_X1_personOfLeast_L2 t_sessions t_person x1 (F_X1_personOfLeast_b31) n_2 v2_2) → (∀  (ls : Array Slot), lv_has ls 3 [] → FV = F_X1_personOfLeast_b31 → W p l e (rmk 0 0) s m args below meth c s.heap [] 0 0 QQ (F0 m 31 ls [])) → W p l e (rmk 0 0) s m args below meth c s.heap [] 0 0 QQ (F0 m 2 ls []) := by
    intro n_2
    induction n_2 with
    | zero => intro v2_2 ls hl hok; exact False.elim hok
    | succ n_2 ih2 =>
      intro v2_2 ls hl hok hR hX
      replace hR := hR.trans F_X1_personOfLeast_L2_s
      replace hok := ok_X1_personOfLeast_L2_s.mp hok
      refine lv_iload_n hx hb dX1_personOfLeast_2 rfl (lv_at hl 2 rfl) ?_
      refine lv_aload_n hx hb dX1_personOfLeast_3 rfl (lv_at hl 0 rfl) ?_
      refine g_X1_15 hx hb hw hown hK hP 0 rfl rfl dX1_personOfLeast_4 ?_
      refine lv_icmp_ge (tgt := 31) hx hb dX1_personOfLeast_7 (by decide) (fun c_7 => ?_) (fun c_7 => ?_)
      · replace hR := bp hR c_7
        exact hX  _ (lv_sub hl [] rfl) hR
      · replace hR := bn hR c_7
        replace hok := hok c_7
        refine lv_iload_n hx hb dX1_personOfLeast_10 rfl (lv_at hl 1 rfl) ?_
        refine lv_iload_n hx hb dX1_personOfLeast_11 rfl (lv_at hl 2 rfl) ?_
        refine lv_ishr hx hb dX1_personOfLeast_12 ?_
        refine lv_iconst (v := 1) hx hb dX1_personOfLeast_13 (by decide) ?_
        refine lv_iand hx hb dX1_personOfLeast_14 ?_
        refine lv_if_eq (tgt := 25) hx hb dX1_personOfLeast_15 (by decide) (fun c_15 => ?_) (fun c_15 => ?_)
        · replace hR := bp hR c_15
          replace hok := hok.1 c_15
          refine lv_iinc (v := (v2_2 + (1 : Int32))) (lv' := [(2, .int (v2_2 + (1 : Int32))), (0, .ref a_t), (1, .int x1)]) hx hb dX1_personOfLeast_25 hl (k := 2) rfl rfl (Nat.le_of_ble_eq_true rfl) rfl (fun ls hl => ?_)
          refine lv_goto (tgt := 2) hx hb dX1_personOfLeast_28 (by decide) ?_
          exact ih2 (v2_2 + (1 : Int32)) _ (lv_sub hl [1, 2, 0] rfl) hok hR hX
        · replace hR := bn hR c_15
          replace hok := hok.2 c_15
          refine lv_aload_n hx hb dX1_personOfLeast_18 rfl (lv_at hl 0 rfl) ?_
          refine g_X1_27 hx hb hw hown hK hP 0 rfl rfl dX1_personOfLeast_19 ?_
          refine lv_iload_n hx hb dX1_personOfLeast_22 rfl (lv_at hl 2 rfl) ?_
          have h_23_0 := hok
          refine va_iald hx hb hK hP 1 1 rfl rfl h_23_0 dX1_personOfLeast_23 ?_
          exact hret (t_person v2_2.toNatClampNeg) _ _ hR dX1_personOfLeast_24
  refine L_2 FU (0 : Int32) _ (lv_sub hl [1, 2, 0] rfl) hok hR (fun  ls hl hR => ?_)
  unfold F_X1_personOfLeast_b31 at hR
  refine lv_bipush (v := -9) hx hb dX1_personOfLeast_31 (by decide) ?_
  exact hret (-9 : Int32) _ _ hR dX1_personOfLeast_33
set_option maxHeartbeats 1000000 in
set_option maxRecDepth 100000 in
theorem c_X1_personOfLeast {l : Launch} {D : va_G} {cy : Nat → ClassId} (a_t : Nat) (a_t_person : Nat) (z_t_people : Value) (z_t_places : Value) (z_t_forgetTenths : Value) (z_t_ownKeys : Value) (z_t_first : Value) (z_t_last : Value) (z_t_minutes : Value) (z_t_risk : Value) (z_t_openFirst : Value) (z_t_openLast : Value) (z_t_homeMinutes : Value) (z_t_beginning : Value) (z_t_ending : Value) (z_t_comer : Value) (z_t_nextComer : Value) (t_sessions : Int32) (t_person : Nat → Int32) (x1 : Int32) (hok : (ok_X1_personOfLeast t_sessions x1)) : RdI l yX1_personOfLeast cX1_personOfLeast 3 (some .int) 0 0 D cy [.ref a_t, .int x1] (wd_X1_personOfLeast cy a_t a_t_person z_t_people z_t_places z_t_forgetTenths z_t_ownKeys z_t_first z_t_last z_t_minutes z_t_risk z_t_openFirst z_t_openLast z_t_homeMinutes z_t_beginning z_t_ending z_t_comer z_t_nextComer t_sessions t_person) (F_X1_personOfLeast t_sessions t_person x1) := by
  refine Met.ofW (cc := cX1_personOfLeast) (maxL := 3) (ret := (some .int)) (by decide) rfl ?_
  intro p e s m args below meth c s₁ B hml hv
  obtain ⟨rfl, hP, hG⟩ := hv
  have hr := B.returns
  have hlocks := B.notSynchronized
  have hl := lv_entry ([.ref a_t, .int x1]) (n := 3) (Nat.le_of_ble_eq_true rfl)
  rw [lg_entry_eq]
  generalize (lg_sl ([.ref a_t, .int x1]) ++ List.replicate (3 - (lg_sl ([.ref a_t, .int x1])).length) Slot.unset).toArray = ls at hl ⊢
  exact w_X1_personOfLeast a_t a_t_person z_t_people z_t_places z_t_forgetTenths z_t_ownKeys z_t_first z_t_last z_t_minutes z_t_risk z_t_openFirst z_t_openLast z_t_homeMinutes z_t_beginning z_t_ending z_t_comer z_t_nextComer t_sessions t_person x1 B.exec B.bytes hml (findClass_of_methodNamed B.named) (atoms_spec (ws := Cond.code yX1_personOfLeast cX1_personOfLeast 3 (some .int) :: LW) B.pre) hG (fun r ls pc hF hdg => W.iret (v := r) B.exec B.bytes hr (fun t ht hW => ⟨r, rfl, hF.symm, ht⟩) (fun _ h => absurd h List.not_mem_nil) hdg) ls hl hP hok rfl
abbrev wd_X11_hourAfter (cy : Nat → ClassId) : va_W := []
noncomputable def F_X11_hourAfter (x0 : Int32) : Int32 := (if (10 : Int32) ≤ (x0 + (1 : Int32)) then (0 : Int32) else (x0 + (1 : Int32)))
set_option maxHeartbeats 4000000 in
set_option maxRecDepth 100000 in
theorem w_X11_hourAfter {p : Program} {l : Launch} {e : Env} {s : State} {m : MethodId} {args : Array Value} {below : List Frame} {meth : Method} {c : Code} {D : va_G} {cy : Nat → ClassId} {QQ : State → Prop} {FV : Int32} (x0 : Int32) (hx : p.tables.exec = Jvm.exec) (hb : c.code = cX11_hourAfter) (hml : c.maxLocals = 1) (hown : s.vm.findClass RX11 = some m.cls) (hts : ∀ w ∈ Cond.code yX11_hourAfter cX11_hourAfter 1 (some .int) :: LW, w.before args s = true) (hG : GW D cy s) (hret : ∀ (r : Int32) (ls : Array Slot) (pc : Nat), FV = r → decode cX11_hourAfter pc = .ok (.ireturn, 1) → W p l e (rmk 0 0) s m args below meth c s.heap [] 0 0 QQ (F0 m pc ls [.int r])) (ls : Array Slot) (hl : lv_has ls 1 [(0, .int x0)]) (hP : va_P D vwCl (wd_X11_hourAfter cy) s.heap) (hR : FV = (F_X11_hourAfter x0)) : W p l e (rmk 0 0) s m args below meth c s.heap [] 0 0 QQ (F0 m 0 ls []) := by
  have hw : ∀ w ∈ LW, w.before args s = true := fun w h => hts w (List.mem_cons_of_mem _ h)
  have hK := hG.1
  unfold F_X11_hourAfter at hR
  refine lv_iload_n hx hb dX11_hourAfter_0 rfl (lv_at hl 0 rfl) ?_
  refine lv_iconst (v := 1) hx hb dX11_hourAfter_1 (by decide) ?_
  refine lv_iadd hx hb dX11_hourAfter_2 ?_
  refine lv_bipush (v := 10) hx hb dX11_hourAfter_3 (by decide) ?_
  have K_5 : W p l e (rmk 0 0) s m args below meth c s.heap [] 0 0 QQ (F0 m 15 ls [.int (if (10 : Int32) ≤ (x0 + (1 : Int32)) then (0 : Int32) else (x0 + (1 : Int32)))]) := by
    exact hret (if (10 : Int32) ≤ (x0 + (1 : Int32)) then (0 : Int32) else (x0 + (1 : Int32))) _ _ hR dX11_hourAfter_15
  refine lv_icmp_ge (tgt := 14) hx hb dX11_hourAfter_5 (by decide) (fun c_5 => ?_) (fun c_5 => ?_)
  · refine lv_iconst (v := 0) hx hb dX11_hourAfter_14 (by decide) ?_
    exact W.eq (congrArg (fun z => F0 m 15 ls (Value.int z :: [])) (if_pos c_5).symm) K_5
  · refine lv_iload_n hx hb dX11_hourAfter_8 rfl (lv_at hl 0 rfl) ?_
    refine lv_iconst (v := 1) hx hb dX11_hourAfter_9 (by decide) ?_
    refine lv_iadd hx hb dX11_hourAfter_10 ?_
    refine lv_goto (tgt := 15) hx hb dX11_hourAfter_11 (by decide) ?_
    exact W.eq (congrArg (fun z => F0 m 15 ls (Value.int z :: [])) (if_neg c_5).symm) K_5
set_option maxHeartbeats 1000000 in
set_option maxRecDepth 100000 in
theorem c_X11_hourAfter {l : Launch} {D : va_G} {cy : Nat → ClassId} (x0 : Int32) : RdI l yX11_hourAfter cX11_hourAfter 1 (some .int) 0 0 D cy [.int x0] (wd_X11_hourAfter cy) (F_X11_hourAfter x0) := by
  refine Met.ofW (cc := cX11_hourAfter) (maxL := 1) (ret := (some .int)) (by decide) rfl ?_
  intro p e s m args below meth c s₁ B hml hv
  obtain ⟨rfl, hP, hG⟩ := hv
  have hr := B.returns
  have hlocks := B.notSynchronized
  have hl := lv_entry ([.int x0]) (n := 1) (Nat.le_of_ble_eq_true rfl)
  rw [lg_entry_eq]
  generalize (lg_sl ([.int x0]) ++ List.replicate (1 - (lg_sl ([.int x0])).length) Slot.unset).toArray = ls at hl ⊢
  exact w_X11_hourAfter x0 B.exec B.bytes hml (findClass_of_methodNamed B.named) (atoms_spec (ws := Cond.code yX11_hourAfter cX11_hourAfter 1 (some .int) :: LW) B.pre) hG (fun r ls pc hF hdg => W.iret (v := r) B.exec B.bytes hr (fun t ht hW => ⟨r, rfl, hF.symm, ht⟩) (fun _ h => absurd h List.not_mem_nil) hdg) ls hl hP rfl
abbrev wd_X1_isPerson (cy : Nat → ClassId) (a_t : Nat) (z_t_sessions : Value) (z_t_places : Value) (z_t_forgetTenths : Value) (z_t_ownKeys : Value) (z_t_person : Value) (z_t_first : Value) (z_t_last : Value) (z_t_minutes : Value) (z_t_risk : Value) (z_t_openFirst : Value) (z_t_openLast : Value) (z_t_homeMinutes : Value) (z_t_beginning : Value) (z_t_ending : Value) (z_t_comer : Value) (z_t_nextComer : Value) (t_people : Int32) : va_W := [(a_t, .inr (1, [.int t_people, z_t_sessions, z_t_places, z_t_forgetTenths, z_t_ownKeys, z_t_person, z_t_first, z_t_last, z_t_minutes, z_t_risk, z_t_openFirst, z_t_openLast, z_t_homeMinutes, z_t_beginning, z_t_ending, z_t_comer, z_t_nextComer]))]
noncomputable def F_X1_isPerson (t_people : Int32) (x1 : Int32) : Int32 := (if x1 < (0 : Int32) then (0 : Int32) else (if t_people ≤ x1 then (0 : Int32) else (if (6 : Int32) ≤ x1 then (0 : Int32) else (1 : Int32))))
set_option maxHeartbeats 4000000 in
set_option maxRecDepth 100000 in
theorem w_X1_isPerson {p : Program} {l : Launch} {e : Env} {s : State} {m : MethodId} {args : Array Value} {below : List Frame} {meth : Method} {c : Code} {D : va_G} {cy : Nat → ClassId} {QQ : State → Prop} {FV : Int32} (a_t : Nat) (z_t_sessions : Value) (z_t_places : Value) (z_t_forgetTenths : Value) (z_t_ownKeys : Value) (z_t_person : Value) (z_t_first : Value) (z_t_last : Value) (z_t_minutes : Value) (z_t_risk : Value) (z_t_openFirst : Value) (z_t_openLast : Value) (z_t_homeMinutes : Value) (z_t_beginning : Value) (z_t_ending : Value) (z_t_comer : Value) (z_t_nextComer : Value) (t_people : Int32) (x1 : Int32) (hx : p.tables.exec = Jvm.exec) (hb : c.code = cX1_isPerson) (hml : c.maxLocals = 2) (hown : s.vm.findClass RX1 = some m.cls) (hts : ∀ w ∈ Cond.code yX1_isPerson cX1_isPerson 2 (some .boolean) :: LW, w.before args s = true) (hG : GW D cy s) (hret : ∀ (r : Int32) (ls : Array Slot) (pc : Nat), FV = r → narrow .boolean (.int r) = .int r → decode cX1_isPerson pc = .ok (.ireturn, 1) → W p l e (rmk 0 0) s m args below meth c s.heap [] 0 0 QQ (F0 m pc ls [.int r])) (ls : Array Slot) (hl : lv_has ls 2 [(0, .ref a_t), (1, .int x1)]) (hP : va_P D vwCl (wd_X1_isPerson cy a_t z_t_sessions z_t_places z_t_forgetTenths z_t_ownKeys z_t_person z_t_first z_t_last z_t_minutes z_t_risk z_t_openFirst z_t_openLast z_t_homeMinutes z_t_beginning z_t_ending z_t_comer z_t_nextComer t_people) s.heap) (hR : FV = (F_X1_isPerson t_people x1)) : W p l e (rmk 0 0) s m args below meth c s.heap [] 0 0 QQ (F0 m 0 ls []) := by
  have hw : ∀ w ∈ LW, w.before args s = true := fun w h => hts w (List.mem_cons_of_mem _ h)
  have hK := hG.1
  unfold F_X1_isPerson at hR
  refine lv_iload_n hx hb dX1_isPerson_0 rfl (lv_at hl 1 rfl) ?_
  have K_1 : W p l e (rmk 0 0) s m args below meth c s.heap [] 0 0 QQ (F0 m 23 ls [.int (if x1 < (0 : Int32) then (0 : Int32) else (if t_people ≤ x1 then (0 : Int32) else (if (6 : Int32) ≤ x1 then (0 : Int32) else (1 : Int32))))]) := by
    exact hret (if x1 < (0 : Int32) then (0 : Int32) else (if t_people ≤ x1 then (0 : Int32) else (if (6 : Int32) ≤ x1 then (0 : Int32) else (1 : Int32)))) _ _ hR (isB.nar (isB_ite isB_0 (isB_ite isB_0 (isB_ite isB_0 isB_1)))) dX1_isPerson_23
  refine lv_if_lt (tgt := 22) hx hb dX1_isPerson_1 (by decide) (fun c_1 => ?_) (fun c_1 => ?_)
  · refine lv_iconst (v := 0) hx hb dX1_isPerson_22 (by decide) ?_
    exact W.eq (congrArg (fun z => F0 m 23 ls (Value.int z :: [])) (if_pos c_1).symm) K_1
  · refine lv_iload_n hx hb dX1_isPerson_4 rfl (lv_at hl 1 rfl) ?_
    refine lv_aload_n hx hb dX1_isPerson_5 rfl (lv_at hl 0 rfl) ?_
    refine g_X1_9 hx hb hw hown hK hP 0 rfl rfl dX1_isPerson_6 ?_
    refine lv_icmp_ge (tgt := 22) hx hb dX1_isPerson_9 (by decide) (fun c_9 => ?_) (fun c_9 => ?_)
    · refine lv_iconst (v := 0) hx hb dX1_isPerson_22 (by decide) ?_
      exact W.eq (congrArg (fun z => F0 m 23 ls (Value.int z :: [])) ((if_neg c_1).trans (if_pos c_9)).symm) K_1
    · refine lv_iload_n hx hb dX1_isPerson_12 rfl (lv_at hl 1 rfl) ?_
      refine lv_bipush (v := 6) hx hb dX1_isPerson_13 (by decide) ?_
      refine lv_icmp_ge (tgt := 22) hx hb dX1_isPerson_15 (by decide) (fun c_15 => ?_) (fun c_15 => ?_)
      · refine lv_iconst (v := 0) hx hb dX1_isPerson_22 (by decide) ?_
        exact W.eq (congrArg (fun z => F0 m 23 ls (Value.int z :: [])) ((if_neg c_1).trans ((if_neg c_9).trans (if_pos c_15))).symm) K_1
      · refine lv_iconst (v := 1) hx hb dX1_isPerson_18 (by decide) ?_
        refine lv_goto (tgt := 23) hx hb dX1_isPerson_19 (by decide) ?_
        exact W.eq (congrArg (fun z => F0 m 23 ls (Value.int z :: [])) ((if_neg c_1).trans ((if_neg c_9).trans (if_neg c_15))).symm) K_1
set_option maxHeartbeats 1000000 in
set_option maxRecDepth 100000 in
theorem c_X1_isPerson {l : Launch} {D : va_G} {cy : Nat → ClassId} (a_t : Nat) (z_t_sessions : Value) (z_t_places : Value) (z_t_forgetTenths : Value) (z_t_ownKeys : Value) (z_t_person : Value) (z_t_first : Value) (z_t_last : Value) (z_t_minutes : Value) (z_t_risk : Value) (z_t_openFirst : Value) (z_t_openLast : Value) (z_t_homeMinutes : Value) (z_t_beginning : Value) (z_t_ending : Value) (z_t_comer : Value) (z_t_nextComer : Value) (t_people : Int32) (x1 : Int32) : RdI l yX1_isPerson cX1_isPerson 2 (some .boolean) 0 0 D cy [.ref a_t, .int x1] (wd_X1_isPerson cy a_t z_t_sessions z_t_places z_t_forgetTenths z_t_ownKeys z_t_person z_t_first z_t_last z_t_minutes z_t_risk z_t_openFirst z_t_openLast z_t_homeMinutes z_t_beginning z_t_ending z_t_comer z_t_nextComer t_people) (F_X1_isPerson t_people x1) := by
  refine Met.ofW (cc := cX1_isPerson) (maxL := 2) (ret := (some .boolean)) (by decide) rfl ?_
  intro p e s m args below meth c s₁ B hml hv
  obtain ⟨rfl, hP, hG⟩ := hv
  have hr := B.returns
  have hlocks := B.notSynchronized
  have hl := lv_entry ([.ref a_t, .int x1]) (n := 2) (Nat.le_of_ble_eq_true rfl)
  rw [lg_entry_eq]
  generalize (lg_sl ([.ref a_t, .int x1]) ++ List.replicate (2 - (lg_sl ([.ref a_t, .int x1])).length) Slot.unset).toArray = ls at hl ⊢
  exact w_X1_isPerson a_t z_t_sessions z_t_places z_t_forgetTenths z_t_ownKeys z_t_person z_t_first z_t_last z_t_minutes z_t_risk z_t_openFirst z_t_openLast z_t_homeMinutes z_t_beginning z_t_ending z_t_comer z_t_nextComer t_people x1 B.exec B.bytes hml (findClass_of_methodNamed B.named) (atoms_spec (ws := Cond.code yX1_isPerson cX1_isPerson 2 (some .boolean) :: LW) B.pre) hG (fun r ls pc hF hn hdg => W.zret (v := r) B.exec B.bytes hr hn (fun t ht hW => ⟨r, rfl, hF.symm, ht⟩) (fun _ h => absurd h List.not_mem_nil) hdg) ls hl hP rfl
abbrev wd_X11_spotOf (cy : Nat → ClassId) : va_W := []
noncomputable def F_X11_spotOf_b30 (x0 : Int32) : Int32 := (if x0 = (20 : Int32) then (10 : Int32) else (-1 : Int32))
noncomputable def F_X11_spotOf_b11 (x0 : Int32) : Int32 := (if x0 < (10 : Int32) then (F_X11_spotOf_b30 x0) else (if (16 : Int32) ≤ x0 then (F_X11_spotOf_b30 x0) else ((x0 - (10 : Int32)) + (4 : Int32))))
noncomputable def F_X11_spotOf (x0 : Int32) : Int32 := (if x0 < (0 : Int32) then (F_X11_spotOf_b11 x0) else (if (4 : Int32) ≤ x0 then (F_X11_spotOf_b11 x0) else x0))
set_option maxHeartbeats 4000000 in
set_option maxRecDepth 100000 in
theorem w_X11_spotOf {p : Program} {l : Launch} {e : Env} {s : State} {m : MethodId} {args : Array Value} {below : List Frame} {meth : Method} {c : Code} {D : va_G} {cy : Nat → ClassId} {QQ : State → Prop} {FV : Int32} (x0 : Int32) (hx : p.tables.exec = Jvm.exec) (hb : c.code = cX11_spotOf) (hml : c.maxLocals = 1) (hown : s.vm.findClass RX11 = some m.cls) (hts : ∀ w ∈ Cond.code yX11_spotOf cX11_spotOf 1 (some .int) :: LW, w.before args s = true) (hG : GW D cy s) (hret : ∀ (r : Int32) (ls : Array Slot) (pc : Nat), FV = r → decode cX11_spotOf pc = .ok (.ireturn, 1) → W p l e (rmk 0 0) s m args below meth c s.heap [] 0 0 QQ (F0 m pc ls [.int r])) (ls : Array Slot) (hl : lv_has ls 1 [(0, .int x0)]) (hP : va_P D vwCl (wd_X11_spotOf cy) s.heap) (hR : FV = (F_X11_spotOf x0)) : W p l e (rmk 0 0) s m args below meth c s.heap [] 0 0 QQ (F0 m 0 ls []) := by
  have hw : ∀ w ∈ LW, w.before args s = true := fun w h => hts w (List.mem_cons_of_mem _ h)
  have hK := hG.1
  have J_30 : ∀  (ls : Array Slot), lv_has ls 1 [(0, .int x0)] → FV = (F_X11_spotOf_b30 x0) → W p l e (rmk 0 0) s m args below meth c s.heap [] 0 0 QQ (F0 m 30 ls []) := by
    intro  ls hl hR
    unfold F_X11_spotOf_b30 at hR
    refine lv_iload_n hx hb dX11_spotOf_30 rfl (lv_at hl 0 rfl) ?_
    refine lv_bipush (v := 20) hx hb dX11_spotOf_31 (by decide) ?_
    have K_33 : W p l e (rmk 0 0) s m args below meth c s.heap [] 0 0 QQ (F0 m 42 ls [.int (if x0 = (20 : Int32) then (10 : Int32) else (-1 : Int32))]) := by
      exact hret (if x0 = (20 : Int32) then (10 : Int32) else (-1 : Int32)) _ _ hR dX11_spotOf_42
    refine lv_icmp_ne (tgt := 41) hx hb dX11_spotOf_33 (by decide) (fun c_33 => ?_) (fun c_33 => ?_)
    · refine lv_iconst (v := -1) hx hb dX11_spotOf_41 (by decide) ?_
      exact W.eq (congrArg (fun z => F0 m 42 ls (Value.int z :: [])) (if_neg c_33).symm) K_33
    · refine lv_bipush (v := 10) hx hb dX11_spotOf_36 (by decide) ?_
      refine lv_goto (tgt := 42) hx hb dX11_spotOf_38 (by decide) ?_
      exact W.eq (congrArg (fun z => F0 m 42 ls (Value.int z :: [])) (if_pos c_33).symm) K_33
  have J_11 : ∀  (ls : Array Slot), lv_has ls 1 [(0, .int x0)] → FV = (F_X11_spotOf_b11 x0) → W p l e (rmk 0 0) s m args below meth c s.heap [] 0 0 QQ (F0 m 11 ls []) := by
    intro  ls hl hR
    unfold F_X11_spotOf_b11 at hR
    refine lv_iload_n hx hb dX11_spotOf_11 rfl (lv_at hl 0 rfl) ?_
    refine lv_bipush (v := 10) hx hb dX11_spotOf_12 (by decide) ?_
    refine lv_icmp_lt (tgt := 30) hx hb dX11_spotOf_14 (by decide) (fun c_14 => ?_) (fun c_14 => ?_)
    · replace hR := bp hR c_14
      exact J_30  _ (lv_sub hl [0] rfl) hR
    · replace hR := bn hR c_14
      refine lv_iload_n hx hb dX11_spotOf_17 rfl (lv_at hl 0 rfl) ?_
      refine lv_bipush (v := 16) hx hb dX11_spotOf_18 (by decide) ?_
      refine lv_icmp_ge (tgt := 30) hx hb dX11_spotOf_20 (by decide) (fun c_20 => ?_) (fun c_20 => ?_)
      · replace hR := bp hR c_20
        exact J_30  _ (lv_sub hl [0] rfl) hR
      · replace hR := bn hR c_20
        refine lv_iload_n hx hb dX11_spotOf_23 rfl (lv_at hl 0 rfl) ?_
        refine lv_bipush (v := 10) hx hb dX11_spotOf_24 (by decide) ?_
        refine lv_isub hx hb dX11_spotOf_26 ?_
        refine lv_iconst (v := 4) hx hb dX11_spotOf_27 (by decide) ?_
        refine lv_iadd hx hb dX11_spotOf_28 ?_
        exact hret ((x0 - (10 : Int32)) + (4 : Int32)) _ _ hR dX11_spotOf_29
  unfold F_X11_spotOf at hR
  refine lv_iload_n hx hb dX11_spotOf_0 rfl (lv_at hl 0 rfl) ?_
  refine lv_if_lt (tgt := 11) hx hb dX11_spotOf_1 (by decide) (fun c_1 => ?_) (fun c_1 => ?_)
  · replace hR := bp hR c_1
    exact J_11  _ (lv_sub hl [0] rfl) hR
  · replace hR := bn hR c_1
    refine lv_iload_n hx hb dX11_spotOf_4 rfl (lv_at hl 0 rfl) ?_
    refine lv_iconst (v := 4) hx hb dX11_spotOf_5 (by decide) ?_
    refine lv_icmp_ge (tgt := 11) hx hb dX11_spotOf_6 (by decide) (fun c_6 => ?_) (fun c_6 => ?_)
    · replace hR := bp hR c_6
      exact J_11  _ (lv_sub hl [0] rfl) hR
    · replace hR := bn hR c_6
      refine lv_iload_n hx hb dX11_spotOf_9 rfl (lv_at hl 0 rfl) ?_
      exact hret x0 _ _ hR dX11_spotOf_10
set_option maxHeartbeats 1000000 in
set_option maxRecDepth 100000 in
theorem c_X11_spotOf {l : Launch} {D : va_G} {cy : Nat → ClassId} (x0 : Int32) : RdI l yX11_spotOf cX11_spotOf 1 (some .int) 0 0 D cy [.int x0] (wd_X11_spotOf cy) (F_X11_spotOf x0) := by
  refine Met.ofW (cc := cX11_spotOf) (maxL := 1) (ret := (some .int)) (by decide) rfl ?_
  intro p e s m args below meth c s₁ B hml hv
  obtain ⟨rfl, hP, hG⟩ := hv
  have hr := B.returns
  have hlocks := B.notSynchronized
  have hl := lv_entry ([.int x0]) (n := 1) (Nat.le_of_ble_eq_true rfl)
  rw [lg_entry_eq]
  generalize (lg_sl ([.int x0]) ++ List.replicate (1 - (lg_sl ([.int x0])).length) Slot.unset).toArray = ls at hl ⊢
  exact w_X11_spotOf x0 B.exec B.bytes hml (findClass_of_methodNamed B.named) (atoms_spec (ws := Cond.code yX11_spotOf cX11_spotOf 1 (some .int) :: LW) B.pre) hG (fun r ls pc hF hdg => W.iret (v := r) B.exec B.bytes hr (fun t ht hW => ⟨r, rfl, hF.symm, ht⟩) (fun _ h => absurd h List.not_mem_nil) hdg) ls hl hP rfl
abbrev wd_J7_fill_53178 (cy : Nat → ClassId) (a_p0 : Nat) (n_p0 : Nat) (p0 : Nat → Int32) : va_W := [(a_p0, .inl (cy 1, n_p0, .inl p0))]
noncomputable def F_J7_fill_53178_b20 (p0 : Nat → Int32) : (Nat → Int32) := p0
noncomputable def F_J7_fill_53178_L5 (x1 : Int32) (v3 : Int32) (n : Nat) : (Nat → Int32) → Int32 → (Nat → Int32) := Nat.rec (motive := fun _ => (Nat → Int32) → Int32 → (Nat → Int32)) (fun _ _ => (fun _ => 0)) (fun _ ih p0 v2 => (if v3 ≤ v2 then p0 else (ih (upd p0 v2.toNatClampNeg x1) (v2 + (1 : Int32))))) n
theorem F_J7_fill_53178_L5_s {x1 : Int32} {v3 : Int32} {n : Nat} {p0 : Nat → Int32} {v2 : Int32} : F_J7_fill_53178_L5 x1 v3 (n + 1) p0 v2 = (if v3 ≤ v2 then p0 else ((F_J7_fill_53178_L5 x1 v3 n) (upd p0 v2.toNatClampNeg x1) (v2 + (1 : Int32)))) := rfl
def ok_J7_fill_53178_L5 (n_p0 : Nat) (x1 : Int32) (v3 : Int32) (n : Nat) : (Nat → Int32) → Int32 → Prop := Nat.rec (motive := fun _ => (Nat → Int32) → Int32 → Prop) (fun _ _ => False) (fun _ oih p0 v2 => (¬ (v3 ≤ v2) → (vp_in v2 n_p0) ∧ (oih (upd p0 v2.toNatClampNeg x1) (v2 + (1 : Int32))))) n
theorem ok_J7_fill_53178_L5_s {n_p0 : Nat} {x1 : Int32} {v3 : Int32} {n : Nat} {p0 : Nat → Int32} {v2 : Int32} : ok_J7_fill_53178_L5 n_p0 x1 v3 (n + 1) p0 v2 ↔ ((¬ (v3 ≤ v2) → (vp_in v2 n_p0) ∧ ((ok_J7_fill_53178_L5 n_p0 x1 v3 n) (upd p0 v2.toNatClampNeg x1) (v2 + (1 : Int32))))) := Iff.rfl
noncomputable def F_J7_fill_53178 (n_p0 : Nat) (p0 : Nat → Int32) (x1 : Int32) : (Nat → Int32) := ((fun (q : (Nat → Int32)) => (F_J7_fill_53178_b20 q)) (F_J7_fill_53178_L5 x1 (Int32.ofNat n_p0) FU p0 (0 : Int32)))
def ok_J7_fill_53178 (n_p0 : Nat) (p0 : Nat → Int32) (x1 : Int32) : Prop := (ok_J7_fill_53178_L5 n_p0 x1 (Int32.ofNat n_p0) FU p0 (0 : Int32))
set_option maxHeartbeats 4000000 in
set_option maxRecDepth 100000 in
theorem w_J7_fill_53178 {p : Program} {l : Launch} {e : Env} {s : State} {m : MethodId} {args : Array Value} {below : List Frame} {meth : Method} {c : Code} {D : va_G} {cy : Nat → ClassId} {A : Nat → Prop} {QQ : State → Prop} {FV : (Nat → Int32)} (a_p0 : Nat) (n_p0 : Nat) (p0 : Nat → Int32) (x1 : Int32) (hx : p.tables.exec = Jvm.exec) (hb : c.code = cJ7_fill_53178) (hml : c.maxLocals = 4) (hown : s.vm.findClass RJ7 = some m.cls) (hts : ∀ w ∈ Cond.code yJ7_fill_53178 cJ7_fill_53178 4 none :: LW, w.before args s = true) (hG : GW D cy s) (hA : ∀ q, s.heap.size ≤ q → A q) (hret : ∀ (o0 : Nat → Int32) (H : Heap) (locs : List Loc) (ls : Array Slot) (pc : Nat), va_P D vwCl (wd_J7_fill_53178 cy a_p0 n_p0 o0) H → va_D A (wd_J7_fill_53178 cy a_p0 n_p0 o0) → va_S A s.heap H locs → FV = o0 → decode cJ7_fill_53178 pc = .ok (.return_, 1) → W p l e (rmk 0 0) s m args below meth c H locs 0 0 QQ (F0 m pc ls [])) (ls : Array Slot) (hl : lv_has ls 4 [(0, .ref a_p0), (1, .int x1)]) (hP : va_P D vwCl (wd_J7_fill_53178 cy a_p0 n_p0 p0) s.heap) (hD : va_D A (wd_J7_fill_53178 cy a_p0 n_p0 p0)) (hok : (ok_J7_fill_53178 n_p0 p0 x1)) (hR : FV = (F_J7_fill_53178 n_p0 p0 x1)) : W p l e (rmk 0 0) s m args below meth c s.heap [] 0 0 QQ (F0 m 0 ls []) := by
  have hw : ∀ w ∈ LW, w.before args s = true := fun w h => hts w (List.mem_cons_of_mem _ h)
  have hK := hG.1
  have hS : va_S A s.heap s.heap [] := va_S.rf
  unfold F_J7_fill_53178 at hR
  unfold ok_J7_fill_53178 at hok
  refine lv_iconst (v := 0) hx hb dJ7_fill_53178_0 (by decide) ?_
  refine lv_istore_n (lv' := [(2, .int (0 : Int32)), (0, .ref a_p0), (1, .int x1)]) hx hb dJ7_fill_53178_1 rfl hl (Nat.le_of_ble_eq_true rfl) rfl (fun ls hl => ?_)
  refine lv_aload_n hx hb dJ7_fill_53178_2 rfl (lv_at hl 1 rfl) ?_
  refine va_alen (v := (Int32.ofNat n_p0)) hx hb hK hP 0 1 rfl rfl rfl dJ7_fill_53178_3 ?_
  refine lv_istore_n (lv' := [(3, .int (Int32.ofNat n_p0)), (2, .int (0 : Int32)), (0, .ref a_p0), (1, .int x1)]) hx hb dJ7_fill_53178_4 rfl hl (Nat.le_of_ble_eq_true rfl) rfl (fun ls hl => ?_)
  have L_5 : ∀ (n_5 : Nat) (V : (Nat → Int32)) (p0_5 : Nat → Int32) (v2_5 : Int32) (H : Heap) (locs : List Loc) (ls : Array Slot), lv_has ls 4 [(0, .ref a_p0), (1, .int x1), (2, .int v2_5), (3, .int (Int32.ofNat n_p0))] → va_P D vwCl (wd_J7_fill_53178 cy a_p0 n_p0 p0_5) H → va_D A (wd_J7_fill_53178 cy a_p0 n_p0 p0_5) → va_S A s.heap H locs → (ok_J7_fill_53178_L5 n_p0 x1 (Int32.ofNat n_p0) n_5 p0_5 v2_5) → V = (F_J7_fill_53178_L5 x1 (Int32.ofNat n_p0) n_5 p0_5 v2_5) → (∀ (e5_0 : Nat → Int32) (H : Heap) (locs : List Loc) (ls : Array Slot), lv_has ls 4 [] → va_P D vwCl (wd_J7_fill_53178 cy a_p0 n_p0 e5_0) H → va_D A (wd_J7_fill_53178 cy a_p0 n_p0 e5_0) → va_S A s.heap H locs → V = e5_0 → W p l e (rmk 0 0) s m args below meth c H locs 0 0 QQ (F0 m 20 ls [])) → W p l e (rmk 0 0) s m args below meth c H locs 0 0 QQ (F0 m 5 ls []) := by
    intro n_5
    induction n_5 with
    | zero => intro V p0_5 v2_5 H locs ls hl hP hD hS hok; exact False.elim hok
    | succ n_5 ih5 =>
      intro V p0_5 v2_5 H locs ls hl hP hD hS hok hR hX
      replace hR := hR.trans F_J7_fill_53178_L5_s
      replace hok := ok_J7_fill_53178_L5_s.mp hok
      refine lv_iload_n hx hb dJ7_fill_53178_5 rfl (lv_at hl 2 rfl) ?_
      refine lv_iload_n hx hb dJ7_fill_53178_6 rfl (lv_at hl 3 rfl) ?_
      refine lv_icmp_ge (tgt := 20) hx hb dJ7_fill_53178_7 (by decide) (fun c_7 => ?_) (fun c_7 => ?_)
      · replace hR := bp hR c_7
        exact hX p0_5 _ _ _ (lv_sub hl [] rfl) hP hD hS hR
      · replace hR := bn hR c_7
        replace hok := hok c_7
        refine lv_aload_n hx hb dJ7_fill_53178_10 rfl (lv_at hl 0 rfl) ?_
        refine lv_iload_n hx hb dJ7_fill_53178_11 rfl (lv_at hl 2 rfl) ?_
        refine lv_iload_n hx hb dJ7_fill_53178_12 rfl (lv_at hl 1 rfl) ?_
        obtain ⟨h_13_0, hok⟩ := hok
        refine va_iast hx hb hK hP hD hS 0 1 rfl rfl h_13_0 dJ7_fill_53178_13 (fun H locs hP hD hS => ?_)
        replace hP : va_P D vwCl (wd_J7_fill_53178 cy a_p0 n_p0 (upd p0_5 v2_5.toNatClampNeg x1)) H := hP
        replace hD : va_D A (wd_J7_fill_53178 cy a_p0 n_p0 (upd p0_5 v2_5.toNatClampNeg x1)) := hD
        refine lv_iinc (v := (v2_5 + (1 : Int32))) (lv' := [(2, .int (v2_5 + (1 : Int32))), (0, .ref a_p0), (1, .int x1), (3, .int (Int32.ofNat n_p0))]) hx hb dJ7_fill_53178_14 hl (k := 2) rfl rfl (Nat.le_of_ble_eq_true rfl) rfl (fun ls hl => ?_)
        refine lv_goto (tgt := 5) hx hb dJ7_fill_53178_17 (by decide) ?_
        exact ih5 V (upd p0_5 v2_5.toNatClampNeg x1) (v2_5 + (1 : Int32)) _ _ _ (lv_sub hl [1, 2, 0, 3] rfl) hP hD hS hok hR hX
  have hokL := hok
  refine L_5 FU _ p0 (0 : Int32) _ _ _ (lv_sub hl [2, 3, 1, 0] rfl) hP hD hS hokL rfl (fun e5_0 H locs ls hl hP hD hS hE => ?_)
  have hR2 := hRq (fun (q : (Nat → Int32)) => (F_J7_fill_53178_b20 q)) hE.symm hR
  replace hR : FV = (F_J7_fill_53178_b20 e5_0) := hR2
  unfold F_J7_fill_53178_b20 at hR
  exact hret e5_0 _ _ _ _ hP hD hS hR dJ7_fill_53178_20
set_option maxHeartbeats 1000000 in
set_option maxRecDepth 100000 in
theorem c_J7_fill_53178 {l : Launch} {D : va_G} {cy : Nat → ClassId} (a_p0 : Nat) (n_p0 : Nat) (p0 : Nat → Int32) (x1 : Int32) (sz : Nat) (hok : (ok_J7_fill_53178 n_p0 p0 x1)) : WrV (S := (Nat → Int32)) l yJ7_fill_53178 cJ7_fill_53178 4 none 0 0 D cy [.ref a_p0, .int x1] (wd_J7_fill_53178 cy a_p0 n_p0 p0) (fun u => (wd_J7_fill_53178 cy a_p0 n_p0 u)) (F_J7_fill_53178 n_p0 p0 x1) sz := by
  refine Met.ofW (cc := cJ7_fill_53178) (maxL := 4) (ret := none) (by decide) rfl ?_
  intro p e s m args below meth c s₁ B hml hv
  obtain ⟨rfl, hsz, hP, hG, hD0⟩ := hv
  subst hsz
  have hD := hD0.self (sz := s.heap.size)
  have hr := B.returns
  have hlocks := B.notSynchronized
  have hl := lv_entry ([.ref a_p0, .int x1]) (n := 4) (Nat.le_of_ble_eq_true rfl)
  rw [lg_entry_eq]
  generalize (lg_sl ([.ref a_p0, .int x1]) ++ List.replicate (4 - (lg_sl ([.ref a_p0, .int x1])).length) Slot.unset).toArray = ls at hl ⊢
  exact w_J7_fill_53178 a_p0 n_p0 p0 x1 B.exec B.bytes hml (findClass_of_methodNamed B.named) (atoms_spec (ws := Cond.code yJ7_fill_53178 cJ7_fill_53178 4 none :: LW) B.pre) hG (fun q h => Or.inr h) (fun o0 H locs ls pc hP hD hS hF hdg => W.vret B.exec B.bytes hr (fun t ht hW => ⟨⟨o0, rfl, hF.symm, by rw [ht]; exact hP, hD⟩, hS.F ht⟩) hS.2.2 hdg) ls hl hP hD hok rfl
abbrev wd_X1_clear (cy : Nat → ClassId) (a_t : Nat) (a_t_openFirst : Nat) (a_t_openLast : Nat) (a_t_homeMinutes : Nat) (z_t_person : Value) (z_t_first : Value) (z_t_last : Value) (z_t_minutes : Value) (z_t_risk : Value) (z_t_beginning : Value) (z_t_ending : Value) (z_t_comer : Value) (z_t_nextComer : Value) (t_people : Int32) (t_sessions : Int32) (t_places : Int32) (t_forgetTenths : Int32) (t_ownKeys : Int32) (t_openFirst : Nat → Int32) (t_openLast : Nat → Int32) (t_homeMinutes : Nat → Int32) : va_W := [(a_t, .inr (1, [.int t_people, .int t_sessions, .int t_places, .int t_forgetTenths, .int t_ownKeys, z_t_person, z_t_first, z_t_last, z_t_minutes, z_t_risk, .ref a_t_openFirst, .ref a_t_openLast, .ref a_t_homeMinutes, z_t_beginning, z_t_ending, z_t_comer, z_t_nextComer])), (a_t_openFirst, .inl (cy 1, 4, .inl t_openFirst)), (a_t_openLast, .inl (cy 1, 4, .inl t_openLast)), (a_t_homeMinutes, .inl (cy 1, 6, .inl t_homeMinutes))]
noncomputable def F_X1_clear_b50 (t_people : Int32) (t_sessions : Int32) (t_places : Int32) (t_forgetTenths : Int32) (t_ownKeys : Int32) (t_openFirst : Nat → Int32) (t_openLast : Nat → Int32) (t_homeMinutes : Nat → Int32) : Int32 × Int32 × Int32 × Int32 × Int32 × (Nat → Int32) × (Nat → Int32) × (Nat → Int32) := (t_people, t_sessions, t_places, t_forgetTenths, t_ownKeys, t_openFirst, t_openLast, t_homeMinutes)
noncomputable def F_X1_clear_b42 (t_people : Int32) (t_sessions : Int32) (t_places : Int32) (t_forgetTenths : Int32) (t_ownKeys : Int32) (t_openFirst : Nat → Int32) (t_openLast : Nat → Int32) (t_homeMinutes : Nat → Int32) : Int32 × Int32 × Int32 × Int32 × Int32 × (Nat → Int32) × (Nat → Int32) × (Nat → Int32) := ((fun (q : (Nat → Int32)) => (F_X1_clear_b50 t_people t_sessions t_places t_forgetTenths t_ownKeys t_openFirst t_openLast q)) (F_J7_fill_53178 6 t_homeMinutes (0 : Int32)))
def ok_X1_clear_b42 (t_homeMinutes : Nat → Int32) : Prop := (ok_J7_fill_53178 6 t_homeMinutes (0 : Int32))
noncomputable def F_X1_clear_b33 (t_people : Int32) (t_sessions : Int32) (t_places : Int32) (t_forgetTenths : Int32) (t_ownKeys : Int32) (t_openFirst : Nat → Int32) (t_openLast : Nat → Int32) (t_homeMinutes : Nat → Int32) : Int32 × Int32 × Int32 × Int32 × Int32 × (Nat → Int32) × (Nat → Int32) × (Nat → Int32) := ((fun (q : (Nat → Int32)) => (F_X1_clear_b42 t_people t_sessions t_places t_forgetTenths t_ownKeys t_openFirst q t_homeMinutes)) (F_J7_fill_53178 4 t_openLast (-9 : Int32)))
def ok_X1_clear_b33 (t_openLast : Nat → Int32) (t_homeMinutes : Nat → Int32) : Prop := (ok_J7_fill_53178 4 t_openLast (-9 : Int32)) ∧ ((fun (q : (Nat → Int32)) => (ok_X1_clear_b42 t_homeMinutes)) (F_J7_fill_53178 4 t_openLast (-9 : Int32)))
noncomputable def F_X1_clear (t_openFirst : Nat → Int32) (t_openLast : Nat → Int32) (t_homeMinutes : Nat → Int32) : Int32 × Int32 × Int32 × Int32 × Int32 × (Nat → Int32) × (Nat → Int32) × (Nat → Int32) := ((fun (q : (Nat → Int32)) => (F_X1_clear_b33 (0 : Int32) (0 : Int32) (0 : Int32) (0 : Int32) (0 : Int32) q t_openLast t_homeMinutes)) (F_J7_fill_53178 4 t_openFirst (0 : Int32)))
def ok_X1_clear (t_openFirst : Nat → Int32) (t_openLast : Nat → Int32) (t_homeMinutes : Nat → Int32) : Prop := (ok_J7_fill_53178 4 t_openFirst (0 : Int32)) ∧ ((fun (q : (Nat → Int32)) => (ok_X1_clear_b33 t_openLast t_homeMinutes)) (F_J7_fill_53178 4 t_openFirst (0 : Int32)))
set_option maxHeartbeats 4000000 in
set_option maxRecDepth 100000 in
theorem w_X1_clear {p : Program} {l : Launch} {e : Env} {s : State} {m : MethodId} {args : Array Value} {below : List Frame} {meth : Method} {c : Code} {D : va_G} {cy : Nat → ClassId} {A : Nat → Prop} {QQ : State → Prop} {FV : Int32 × Int32 × Int32 × Int32 × Int32 × (Nat → Int32) × (Nat → Int32) × (Nat → Int32)} (a_t : Nat) (a_t_openFirst : Nat) (a_t_openLast : Nat) (a_t_homeMinutes : Nat) (z_t_person : Value) (z_t_first : Value) (z_t_last : Value) (z_t_minutes : Value) (z_t_risk : Value) (z_t_beginning : Value) (z_t_ending : Value) (z_t_comer : Value) (z_t_nextComer : Value) (t_people : Int32) (t_sessions : Int32) (t_places : Int32) (t_forgetTenths : Int32) (t_ownKeys : Int32) (t_openFirst : Nat → Int32) (t_openLast : Nat → Int32) (t_homeMinutes : Nat → Int32) (hx : p.tables.exec = Jvm.exec) (hb : c.code = cX1_clear) (hml : c.maxLocals = 1) (hown : s.vm.findClass RX1 = some m.cls) (hts : ∀ w ∈ Cond.code yX1_clear cX1_clear 1 none :: LW, w.before args s = true) (hG : GW D cy s) (hA : ∀ q, s.heap.size ≤ q → A q) (hret : ∀ (o0 : Int32) (o1 : Int32) (o2 : Int32) (o3 : Int32) (o4 : Int32) (o5 : Nat → Int32) (o6 : Nat → Int32) (o7 : Nat → Int32) (H : Heap) (locs : List Loc) (ls : Array Slot) (pc : Nat), va_P D vwCl (wd_X1_clear cy a_t a_t_openFirst a_t_openLast a_t_homeMinutes z_t_person z_t_first z_t_last z_t_minutes z_t_risk z_t_beginning z_t_ending z_t_comer z_t_nextComer o0 o1 o2 o3 o4 o5 o6 o7) H → va_D A (wd_X1_clear cy a_t a_t_openFirst a_t_openLast a_t_homeMinutes z_t_person z_t_first z_t_last z_t_minutes z_t_risk z_t_beginning z_t_ending z_t_comer z_t_nextComer o0 o1 o2 o3 o4 o5 o6 o7) → va_S A s.heap H locs → FV = (o0, o1, o2, o3, o4, o5, o6, o7) → decode cX1_clear pc = .ok (.return_, 1) → W p l e (rmk 1 23) s m args below meth c H locs 0 0 QQ (F0 m pc ls [])) (ls : Array Slot) (hl : lv_has ls 1 [(0, .ref a_t)]) (hP : va_P D vwCl (wd_X1_clear cy a_t a_t_openFirst a_t_openLast a_t_homeMinutes z_t_person z_t_first z_t_last z_t_minutes z_t_risk z_t_beginning z_t_ending z_t_comer z_t_nextComer t_people t_sessions t_places t_forgetTenths t_ownKeys t_openFirst t_openLast t_homeMinutes) s.heap) (hD : va_D A (wd_X1_clear cy a_t a_t_openFirst a_t_openLast a_t_homeMinutes z_t_person z_t_first z_t_last z_t_minutes z_t_risk z_t_beginning z_t_ending z_t_comer z_t_nextComer t_people t_sessions t_places t_forgetTenths t_ownKeys t_openFirst t_openLast t_homeMinutes)) (hok : (ok_X1_clear t_openFirst t_openLast t_homeMinutes)) (hR : FV = (F_X1_clear t_openFirst t_openLast t_homeMinutes)) : W p l e (rmk 1 23) s m args below meth c s.heap [] 0 0 QQ (F0 m 0 ls []) := by
  have hw : ∀ w ∈ LW, w.before args s = true := fun w h => hts w (List.mem_cons_of_mem _ h)
  have hK := hG.1
  have hS : va_S A s.heap s.heap [] := va_S.rf
  unfold F_X1_clear at hR
  unfold ok_X1_clear at hok
  refine lv_aload_n hx hb dX1_clear_0 rfl (lv_at hl 0 rfl) ?_
  refine lv_iconst (v := 0) hx hb dX1_clear_1 (by decide) ?_
  refine p_X1_9 hx hb hw hown hK hP hD hS 0 rfl rfl rfl rfl dX1_clear_2 (fun H locs hP hD hS => ?_)
  replace hP : va_P D vwCl (wd_X1_clear cy a_t a_t_openFirst a_t_openLast a_t_homeMinutes z_t_person z_t_first z_t_last z_t_minutes z_t_risk z_t_beginning z_t_ending z_t_comer z_t_nextComer (0 : Int32) t_sessions t_places t_forgetTenths t_ownKeys t_openFirst t_openLast t_homeMinutes) H := hP
  replace hD : va_D A (wd_X1_clear cy a_t a_t_openFirst a_t_openLast a_t_homeMinutes z_t_person z_t_first z_t_last z_t_minutes z_t_risk z_t_beginning z_t_ending z_t_comer z_t_nextComer (0 : Int32) t_sessions t_places t_forgetTenths t_ownKeys t_openFirst t_openLast t_homeMinutes) := hD
  refine lv_aload_n hx hb dX1_clear_5 rfl (lv_at hl 0 rfl) ?_
  refine lv_iconst (v := 0) hx hb dX1_clear_6 (by decide) ?_
  refine p_X1_15 hx hb hw hown hK hP hD hS 0 rfl rfl rfl rfl dX1_clear_7 (fun H locs hP hD hS => ?_)
  replace hP : va_P D vwCl (wd_X1_clear cy a_t a_t_openFirst a_t_openLast a_t_homeMinutes z_t_person z_t_first z_t_last z_t_minutes z_t_risk z_t_beginning z_t_ending z_t_comer z_t_nextComer (0 : Int32) (0 : Int32) t_places t_forgetTenths t_ownKeys t_openFirst t_openLast t_homeMinutes) H := hP
  replace hD : va_D A (wd_X1_clear cy a_t a_t_openFirst a_t_openLast a_t_homeMinutes z_t_person z_t_first z_t_last z_t_minutes z_t_risk z_t_beginning z_t_ending z_t_comer z_t_nextComer (0 : Int32) (0 : Int32) t_places t_forgetTenths t_ownKeys t_openFirst t_openLast t_homeMinutes) := hD
  refine lv_aload_n hx hb dX1_clear_10 rfl (lv_at hl 0 rfl) ?_
  refine lv_iconst (v := 0) hx hb dX1_clear_11 (by decide) ?_
  refine p_X1_18 hx hb hw hown hK hP hD hS 0 rfl rfl rfl rfl dX1_clear_12 (fun H locs hP hD hS => ?_)
  replace hP : va_P D vwCl (wd_X1_clear cy a_t a_t_openFirst a_t_openLast a_t_homeMinutes z_t_person z_t_first z_t_last z_t_minutes z_t_risk z_t_beginning z_t_ending z_t_comer z_t_nextComer (0 : Int32) (0 : Int32) (0 : Int32) t_forgetTenths t_ownKeys t_openFirst t_openLast t_homeMinutes) H := hP
  replace hD : va_D A (wd_X1_clear cy a_t a_t_openFirst a_t_openLast a_t_homeMinutes z_t_person z_t_first z_t_last z_t_minutes z_t_risk z_t_beginning z_t_ending z_t_comer z_t_nextComer (0 : Int32) (0 : Int32) (0 : Int32) t_forgetTenths t_ownKeys t_openFirst t_openLast t_homeMinutes) := hD
  refine lv_aload_n hx hb dX1_clear_15 rfl (lv_at hl 0 rfl) ?_
  refine lv_iconst (v := 0) hx hb dX1_clear_16 (by decide) ?_
  refine p_X1_21 hx hb hw hown hK hP hD hS 0 rfl rfl rfl rfl dX1_clear_17 (fun H locs hP hD hS => ?_)
  replace hP : va_P D vwCl (wd_X1_clear cy a_t a_t_openFirst a_t_openLast a_t_homeMinutes z_t_person z_t_first z_t_last z_t_minutes z_t_risk z_t_beginning z_t_ending z_t_comer z_t_nextComer (0 : Int32) (0 : Int32) (0 : Int32) (0 : Int32) t_ownKeys t_openFirst t_openLast t_homeMinutes) H := hP
  replace hD : va_D A (wd_X1_clear cy a_t a_t_openFirst a_t_openLast a_t_homeMinutes z_t_person z_t_first z_t_last z_t_minutes z_t_risk z_t_beginning z_t_ending z_t_comer z_t_nextComer (0 : Int32) (0 : Int32) (0 : Int32) (0 : Int32) t_ownKeys t_openFirst t_openLast t_homeMinutes) := hD
  refine lv_aload_n hx hb dX1_clear_20 rfl (lv_at hl 0 rfl) ?_
  refine lv_iconst (v := 0) hx hb dX1_clear_21 (by decide) ?_
  refine p_X1_24 hx hb hw hown hK hP hD hS 0 rfl rfl rfl rfl dX1_clear_22 (fun H locs hP hD hS => ?_)
  replace hP : va_P D vwCl (wd_X1_clear cy a_t a_t_openFirst a_t_openLast a_t_homeMinutes z_t_person z_t_first z_t_last z_t_minutes z_t_risk z_t_beginning z_t_ending z_t_comer z_t_nextComer (0 : Int32) (0 : Int32) (0 : Int32) (0 : Int32) (0 : Int32) t_openFirst t_openLast t_homeMinutes) H := hP
  replace hD : va_D A (wd_X1_clear cy a_t a_t_openFirst a_t_openLast a_t_homeMinutes z_t_person z_t_first z_t_last z_t_minutes z_t_risk z_t_beginning z_t_ending z_t_comer z_t_nextComer (0 : Int32) (0 : Int32) (0 : Int32) (0 : Int32) (0 : Int32) t_openFirst t_openLast t_homeMinutes) := hD
  refine lv_aload_n hx hb dX1_clear_25 rfl (lv_at hl 0 rfl) ?_
  refine g_X1_43 hx hb hw hown hK hP 0 rfl rfl dX1_clear_26 ?_
  refine lv_iconst (v := 0) hx hb dX1_clear_29 (by decide) ?_
  obtain ⟨hok_30, hok⟩ := hok
  refine wkVS (As := [.ref a_t_openFirst, .int (0 : Int32)]) (rest := []) hx hb hml hown hts hG hP hD hS hA k_X1_64 (c_J7_fill_53178 (l := l) (D := D) (cy := cy) a_t_openFirst 4 t_openFirst (0 : Int32) H.size hok_30) ⟨Nat.le_of_ble_eq_true rfl, Nat.le_of_ble_eq_true rfl⟩ [1] [0, 2, 3] [0, 3, 1, 2] (N := 4) rfl (by decide +kernel) rfl rfl hl.1 rfl (Nat.le_of_ble_eq_true rfl) ⟨Nat.zero_le _, Nat.zero_le _⟩ dX1_clear_30 (fun u => (wd_X1_clear cy a_t a_t_openFirst a_t_openLast a_t_homeMinutes z_t_person z_t_first z_t_last z_t_minutes z_t_risk z_t_beginning z_t_ending z_t_comer z_t_nextComer (0 : Int32) (0 : Int32) (0 : Int32) (0 : Int32) (0 : Int32) u t_openLast t_homeMinutes)) (fun _ => rfl) (fun u_30 H locs e_30 hP hD hS => ?_)
  obtain ⟨o30_0, rfl⟩ : ∃ z, z = u_30 := ⟨_, rfl⟩
  replace hP : va_P D vwCl (wd_X1_clear cy a_t a_t_openFirst a_t_openLast a_t_homeMinutes z_t_person z_t_first z_t_last z_t_minutes z_t_risk z_t_beginning z_t_ending z_t_comer z_t_nextComer (0 : Int32) (0 : Int32) (0 : Int32) (0 : Int32) (0 : Int32) o30_0 t_openLast t_homeMinutes) H := hP
  replace hD : va_D A (wd_X1_clear cy a_t a_t_openFirst a_t_openLast a_t_homeMinutes z_t_person z_t_first z_t_last z_t_minutes z_t_risk z_t_beginning z_t_ending z_t_comer z_t_nextComer (0 : Int32) (0 : Int32) (0 : Int32) (0 : Int32) (0 : Int32) o30_0 t_openLast t_homeMinutes) := hD
  have hR2 := hRq (fun (q : (Nat → Int32)) => (F_X1_clear_b33 (0 : Int32) (0 : Int32) (0 : Int32) (0 : Int32) (0 : Int32) q t_openLast t_homeMinutes)) e_30 hR
  replace hR : FV = (F_X1_clear_b33 (0 : Int32) (0 : Int32) (0 : Int32) (0 : Int32) (0 : Int32) o30_0 t_openLast t_homeMinutes) := hR2
  have hok2 := hokq (fun (q : (Nat → Int32)) => (ok_X1_clear_b33 t_openLast t_homeMinutes)) e_30 hok
  replace hok : (ok_X1_clear_b33 t_openLast t_homeMinutes) := hok2
  unfold F_X1_clear_b33 at hR
  unfold ok_X1_clear_b33 at hok
  refine lv_aload_n hx hb dX1_clear_33 rfl (lv_at hl 0 rfl) ?_
  refine g_X1_46 hx hb hw hown hK hP 0 rfl rfl dX1_clear_34 ?_
  refine lv_bipush (v := -9) hx hb dX1_clear_37 (by decide) ?_
  obtain ⟨hok_39, hok⟩ := hok
  refine wkVS (As := [.ref a_t_openLast, .int (-9 : Int32)]) (rest := []) hx hb hml hown hts hG hP hD hS hA k_X1_64 (c_J7_fill_53178 (l := l) (D := D) (cy := cy) a_t_openLast 4 t_openLast (-9 : Int32) H.size hok_39) ⟨Nat.le_of_ble_eq_true rfl, Nat.le_of_ble_eq_true rfl⟩ [2] [0, 1, 3] [0, 1, 3, 2] (N := 4) rfl (by decide +kernel) rfl rfl hl.1 rfl (Nat.le_of_ble_eq_true rfl) ⟨Nat.zero_le _, Nat.zero_le _⟩ dX1_clear_39 (fun u => (wd_X1_clear cy a_t a_t_openFirst a_t_openLast a_t_homeMinutes z_t_person z_t_first z_t_last z_t_minutes z_t_risk z_t_beginning z_t_ending z_t_comer z_t_nextComer (0 : Int32) (0 : Int32) (0 : Int32) (0 : Int32) (0 : Int32) o30_0 u t_homeMinutes)) (fun _ => rfl) (fun u_39 H locs e_39 hP hD hS => ?_)
  obtain ⟨o39_0, rfl⟩ : ∃ z, z = u_39 := ⟨_, rfl⟩
  replace hP : va_P D vwCl (wd_X1_clear cy a_t a_t_openFirst a_t_openLast a_t_homeMinutes z_t_person z_t_first z_t_last z_t_minutes z_t_risk z_t_beginning z_t_ending z_t_comer z_t_nextComer (0 : Int32) (0 : Int32) (0 : Int32) (0 : Int32) (0 : Int32) o30_0 o39_0 t_homeMinutes) H := hP
  replace hD : va_D A (wd_X1_clear cy a_t a_t_openFirst a_t_openLast a_t_homeMinutes z_t_person z_t_first z_t_last z_t_minutes z_t_risk z_t_beginning z_t_ending z_t_comer z_t_nextComer (0 : Int32) (0 : Int32) (0 : Int32) (0 : Int32) (0 : Int32) o30_0 o39_0 t_homeMinutes) := hD
  have hR2 := hRq (fun (q : (Nat → Int32)) => (F_X1_clear_b42 (0 : Int32) (0 : Int32) (0 : Int32) (0 : Int32) (0 : Int32) o30_0 q t_homeMinutes)) e_39 hR
  replace hR : FV = (F_X1_clear_b42 (0 : Int32) (0 : Int32) (0 : Int32) (0 : Int32) (0 : Int32) o30_0 o39_0 t_homeMinutes) := hR2
  have hok2 := hokq (fun (q : (Nat → Int32)) => (ok_X1_clear_b42 t_homeMinutes)) e_39 hok
  replace hok : (ok_X1_clear_b42 t_homeMinutes) := hok2
  unfold F_X1_clear_b42 at hR
  unfold ok_X1_clear_b42 at hok
  refine lv_aload_n hx hb dX1_clear_42 rfl (lv_at hl 0 rfl) ?_
  refine g_X1_49 hx hb hw hown hK hP 0 rfl rfl dX1_clear_43 ?_
  refine lv_iconst (v := 0) hx hb dX1_clear_46 (by decide) ?_
  have hok_47 := hok
  refine wkVS (As := [.ref a_t_homeMinutes, .int (0 : Int32)]) (rest := []) hx hb hml hown hts hG hP hD hS hA k_X1_64 (c_J7_fill_53178 (l := l) (D := D) (cy := cy) a_t_homeMinutes 6 t_homeMinutes (0 : Int32) H.size hok_47) ⟨Nat.le_of_ble_eq_true rfl, Nat.le_of_ble_eq_true rfl⟩ [3] [0, 1, 2] [0, 1, 2, 3] (N := 4) rfl (by decide +kernel) rfl rfl hl.1 rfl (Nat.le_of_ble_eq_true rfl) ⟨Nat.zero_le _, Nat.zero_le _⟩ dX1_clear_47 (fun u => (wd_X1_clear cy a_t a_t_openFirst a_t_openLast a_t_homeMinutes z_t_person z_t_first z_t_last z_t_minutes z_t_risk z_t_beginning z_t_ending z_t_comer z_t_nextComer (0 : Int32) (0 : Int32) (0 : Int32) (0 : Int32) (0 : Int32) o30_0 o39_0 u)) (fun _ => rfl) (fun u_47 H locs e_47 hP hD hS => ?_)
  obtain ⟨o47_0, rfl⟩ : ∃ z, z = u_47 := ⟨_, rfl⟩
  replace hP : va_P D vwCl (wd_X1_clear cy a_t a_t_openFirst a_t_openLast a_t_homeMinutes z_t_person z_t_first z_t_last z_t_minutes z_t_risk z_t_beginning z_t_ending z_t_comer z_t_nextComer (0 : Int32) (0 : Int32) (0 : Int32) (0 : Int32) (0 : Int32) o30_0 o39_0 o47_0) H := hP
  replace hD : va_D A (wd_X1_clear cy a_t a_t_openFirst a_t_openLast a_t_homeMinutes z_t_person z_t_first z_t_last z_t_minutes z_t_risk z_t_beginning z_t_ending z_t_comer z_t_nextComer (0 : Int32) (0 : Int32) (0 : Int32) (0 : Int32) (0 : Int32) o30_0 o39_0 o47_0) := hD
  have hR2 := hRq (fun (q : (Nat → Int32)) => (F_X1_clear_b50 (0 : Int32) (0 : Int32) (0 : Int32) (0 : Int32) (0 : Int32) o30_0 o39_0 q)) e_47 hR
  replace hR : FV = (F_X1_clear_b50 (0 : Int32) (0 : Int32) (0 : Int32) (0 : Int32) (0 : Int32) o30_0 o39_0 o47_0) := hR2
  unfold F_X1_clear_b50 at hR
  exact hret (0 : Int32) (0 : Int32) (0 : Int32) (0 : Int32) (0 : Int32) o30_0 o39_0 o47_0 _ _ _ _ hP hD hS hR dX1_clear_50
set_option maxHeartbeats 1000000 in
set_option maxRecDepth 100000 in
theorem c_X1_clear {l : Launch} {D : va_G} {cy : Nat → ClassId} (a_t : Nat) (a_t_openFirst : Nat) (a_t_openLast : Nat) (a_t_homeMinutes : Nat) (z_t_person : Value) (z_t_first : Value) (z_t_last : Value) (z_t_minutes : Value) (z_t_risk : Value) (z_t_beginning : Value) (z_t_ending : Value) (z_t_comer : Value) (z_t_nextComer : Value) (t_people : Int32) (t_sessions : Int32) (t_places : Int32) (t_forgetTenths : Int32) (t_ownKeys : Int32) (t_openFirst : Nat → Int32) (t_openLast : Nat → Int32) (t_homeMinutes : Nat → Int32) (sz : Nat) (hok : (ok_X1_clear t_openFirst t_openLast t_homeMinutes)) : WrV (S := Int32 × Int32 × Int32 × Int32 × Int32 × (Nat → Int32) × (Nat → Int32) × (Nat → Int32)) l yX1_clear cX1_clear 1 none 1 23 D cy [.ref a_t] (wd_X1_clear cy a_t a_t_openFirst a_t_openLast a_t_homeMinutes z_t_person z_t_first z_t_last z_t_minutes z_t_risk z_t_beginning z_t_ending z_t_comer z_t_nextComer t_people t_sessions t_places t_forgetTenths t_ownKeys t_openFirst t_openLast t_homeMinutes) (fun u => (wd_X1_clear cy a_t a_t_openFirst a_t_openLast a_t_homeMinutes z_t_person z_t_first z_t_last z_t_minutes z_t_risk z_t_beginning z_t_ending z_t_comer z_t_nextComer u.1 u.2.1 u.2.2.1 u.2.2.2.1 u.2.2.2.2.1 u.2.2.2.2.2.1 u.2.2.2.2.2.2.1 u.2.2.2.2.2.2.2)) (F_X1_clear t_openFirst t_openLast t_homeMinutes) sz := by
  refine Met.ofW (cc := cX1_clear) (maxL := 1) (ret := none) (by decide) rfl ?_
  intro p e s m args below meth c s₁ B hml hv
  obtain ⟨rfl, hsz, hP, hG, hD0⟩ := hv
  subst hsz
  have hD := hD0.self (sz := s.heap.size)
  have hr := B.returns
  have hlocks := B.notSynchronized
  have hl := lv_entry ([.ref a_t]) (n := 1) (Nat.le_of_ble_eq_true rfl)
  rw [lg_entry_eq]
  generalize (lg_sl ([.ref a_t]) ++ List.replicate (1 - (lg_sl ([.ref a_t])).length) Slot.unset).toArray = ls at hl ⊢
  exact w_X1_clear a_t a_t_openFirst a_t_openLast a_t_homeMinutes z_t_person z_t_first z_t_last z_t_minutes z_t_risk z_t_beginning z_t_ending z_t_comer z_t_nextComer t_people t_sessions t_places t_forgetTenths t_ownKeys t_openFirst t_openLast t_homeMinutes B.exec B.bytes hml (findClass_of_methodNamed B.named) (atoms_spec (ws := Cond.code yX1_clear cX1_clear 1 none :: LW) B.pre) hG (fun q h => Or.inr h) (fun o0 o1 o2 o3 o4 o5 o6 o7 H locs ls pc hP hD hS hF hdg => W.vret B.exec B.bytes hr (fun t ht hW => ⟨⟨(o0, o1, o2, o3, o4, o5, o6, o7), rfl, hF.symm, by rw [ht]; exact hP, hD⟩, hS.F ht⟩) hS.2.2 hdg) ls hl hP hD hok rfl
abbrev wd_X1_isSession (cy : Nat → ClassId) (a_t : Nat) (z_t_people : Value) (z_t_places : Value) (z_t_forgetTenths : Value) (z_t_ownKeys : Value) (z_t_person : Value) (z_t_first : Value) (z_t_last : Value) (z_t_minutes : Value) (z_t_risk : Value) (z_t_openFirst : Value) (z_t_openLast : Value) (z_t_homeMinutes : Value) (z_t_beginning : Value) (z_t_ending : Value) (z_t_comer : Value) (z_t_nextComer : Value) (t_sessions : Int32) : va_W := [(a_t, .inr (1, [z_t_people, .int t_sessions, z_t_places, z_t_forgetTenths, z_t_ownKeys, z_t_person, z_t_first, z_t_last, z_t_minutes, z_t_risk, z_t_openFirst, z_t_openLast, z_t_homeMinutes, z_t_beginning, z_t_ending, z_t_comer, z_t_nextComer]))]
noncomputable def F_X1_isSession (t_sessions : Int32) (x1 : Int32) : Int32 := (if x1 < (0 : Int32) then (0 : Int32) else (if t_sessions ≤ x1 then (0 : Int32) else (if (8 : Int32) ≤ x1 then (0 : Int32) else (1 : Int32))))
set_option maxHeartbeats 4000000 in
set_option maxRecDepth 100000 in
theorem w_X1_isSession {p : Program} {l : Launch} {e : Env} {s : State} {m : MethodId} {args : Array Value} {below : List Frame} {meth : Method} {c : Code} {D : va_G} {cy : Nat → ClassId} {QQ : State → Prop} {FV : Int32} (a_t : Nat) (z_t_people : Value) (z_t_places : Value) (z_t_forgetTenths : Value) (z_t_ownKeys : Value) (z_t_person : Value) (z_t_first : Value) (z_t_last : Value) (z_t_minutes : Value) (z_t_risk : Value) (z_t_openFirst : Value) (z_t_openLast : Value) (z_t_homeMinutes : Value) (z_t_beginning : Value) (z_t_ending : Value) (z_t_comer : Value) (z_t_nextComer : Value) (t_sessions : Int32) (x1 : Int32) (hx : p.tables.exec = Jvm.exec) (hb : c.code = cX1_isSession) (hml : c.maxLocals = 2) (hown : s.vm.findClass RX1 = some m.cls) (hts : ∀ w ∈ Cond.code yX1_isSession cX1_isSession 2 (some .boolean) :: LW, w.before args s = true) (hG : GW D cy s) (hret : ∀ (r : Int32) (ls : Array Slot) (pc : Nat), FV = r → narrow .boolean (.int r) = .int r → decode cX1_isSession pc = .ok (.ireturn, 1) → W p l e (rmk 0 0) s m args below meth c s.heap [] 0 0 QQ (F0 m pc ls [.int r])) (ls : Array Slot) (hl : lv_has ls 2 [(0, .ref a_t), (1, .int x1)]) (hP : va_P D vwCl (wd_X1_isSession cy a_t z_t_people z_t_places z_t_forgetTenths z_t_ownKeys z_t_person z_t_first z_t_last z_t_minutes z_t_risk z_t_openFirst z_t_openLast z_t_homeMinutes z_t_beginning z_t_ending z_t_comer z_t_nextComer t_sessions) s.heap) (hR : FV = (F_X1_isSession t_sessions x1)) : W p l e (rmk 0 0) s m args below meth c s.heap [] 0 0 QQ (F0 m 0 ls []) := by
  have hw : ∀ w ∈ LW, w.before args s = true := fun w h => hts w (List.mem_cons_of_mem _ h)
  have hK := hG.1
  unfold F_X1_isSession at hR
  refine lv_iload_n hx hb dX1_isSession_0 rfl (lv_at hl 1 rfl) ?_
  have K_1 : W p l e (rmk 0 0) s m args below meth c s.heap [] 0 0 QQ (F0 m 23 ls [.int (if x1 < (0 : Int32) then (0 : Int32) else (if t_sessions ≤ x1 then (0 : Int32) else (if (8 : Int32) ≤ x1 then (0 : Int32) else (1 : Int32))))]) := by
    exact hret (if x1 < (0 : Int32) then (0 : Int32) else (if t_sessions ≤ x1 then (0 : Int32) else (if (8 : Int32) ≤ x1 then (0 : Int32) else (1 : Int32)))) _ _ hR (isB.nar (isB_ite isB_0 (isB_ite isB_0 (isB_ite isB_0 isB_1)))) dX1_isSession_23
  refine lv_if_lt (tgt := 22) hx hb dX1_isSession_1 (by decide) (fun c_1 => ?_) (fun c_1 => ?_)
  · refine lv_iconst (v := 0) hx hb dX1_isSession_22 (by decide) ?_
    exact W.eq (congrArg (fun z => F0 m 23 ls (Value.int z :: [])) (if_pos c_1).symm) K_1
  · refine lv_iload_n hx hb dX1_isSession_4 rfl (lv_at hl 1 rfl) ?_
    refine lv_aload_n hx hb dX1_isSession_5 rfl (lv_at hl 0 rfl) ?_
    refine g_X1_15 hx hb hw hown hK hP 0 rfl rfl dX1_isSession_6 ?_
    refine lv_icmp_ge (tgt := 22) hx hb dX1_isSession_9 (by decide) (fun c_9 => ?_) (fun c_9 => ?_)
    · refine lv_iconst (v := 0) hx hb dX1_isSession_22 (by decide) ?_
      exact W.eq (congrArg (fun z => F0 m 23 ls (Value.int z :: [])) ((if_neg c_1).trans (if_pos c_9)).symm) K_1
    · refine lv_iload_n hx hb dX1_isSession_12 rfl (lv_at hl 1 rfl) ?_
      refine lv_bipush (v := 8) hx hb dX1_isSession_13 (by decide) ?_
      refine lv_icmp_ge (tgt := 22) hx hb dX1_isSession_15 (by decide) (fun c_15 => ?_) (fun c_15 => ?_)
      · refine lv_iconst (v := 0) hx hb dX1_isSession_22 (by decide) ?_
        exact W.eq (congrArg (fun z => F0 m 23 ls (Value.int z :: [])) ((if_neg c_1).trans ((if_neg c_9).trans (if_pos c_15))).symm) K_1
      · refine lv_iconst (v := 1) hx hb dX1_isSession_18 (by decide) ?_
        refine lv_goto (tgt := 23) hx hb dX1_isSession_19 (by decide) ?_
        exact W.eq (congrArg (fun z => F0 m 23 ls (Value.int z :: [])) ((if_neg c_1).trans ((if_neg c_9).trans (if_neg c_15))).symm) K_1
set_option maxHeartbeats 1000000 in
set_option maxRecDepth 100000 in
theorem c_X1_isSession {l : Launch} {D : va_G} {cy : Nat → ClassId} (a_t : Nat) (z_t_people : Value) (z_t_places : Value) (z_t_forgetTenths : Value) (z_t_ownKeys : Value) (z_t_person : Value) (z_t_first : Value) (z_t_last : Value) (z_t_minutes : Value) (z_t_risk : Value) (z_t_openFirst : Value) (z_t_openLast : Value) (z_t_homeMinutes : Value) (z_t_beginning : Value) (z_t_ending : Value) (z_t_comer : Value) (z_t_nextComer : Value) (t_sessions : Int32) (x1 : Int32) : RdI l yX1_isSession cX1_isSession 2 (some .boolean) 0 0 D cy [.ref a_t, .int x1] (wd_X1_isSession cy a_t z_t_people z_t_places z_t_forgetTenths z_t_ownKeys z_t_person z_t_first z_t_last z_t_minutes z_t_risk z_t_openFirst z_t_openLast z_t_homeMinutes z_t_beginning z_t_ending z_t_comer z_t_nextComer t_sessions) (F_X1_isSession t_sessions x1) := by
  refine Met.ofW (cc := cX1_isSession) (maxL := 2) (ret := (some .boolean)) (by decide) rfl ?_
  intro p e s m args below meth c s₁ B hml hv
  obtain ⟨rfl, hP, hG⟩ := hv
  have hr := B.returns
  have hlocks := B.notSynchronized
  have hl := lv_entry ([.ref a_t, .int x1]) (n := 2) (Nat.le_of_ble_eq_true rfl)
  rw [lg_entry_eq]
  generalize (lg_sl ([.ref a_t, .int x1]) ++ List.replicate (2 - (lg_sl ([.ref a_t, .int x1])).length) Slot.unset).toArray = ls at hl ⊢
  exact w_X1_isSession a_t z_t_people z_t_places z_t_forgetTenths z_t_ownKeys z_t_person z_t_first z_t_last z_t_minutes z_t_risk z_t_openFirst z_t_openLast z_t_homeMinutes z_t_beginning z_t_ending z_t_comer z_t_nextComer t_sessions x1 B.exec B.bytes hml (findClass_of_methodNamed B.named) (atoms_spec (ws := Cond.code yX1_isSession cX1_isSession 2 (some .boolean) :: LW) B.pre) hG (fun r ls pc hF hn hdg => W.zret (v := r) B.exec B.bytes hr hn (fun t ht hW => ⟨r, rfl, hF.symm, ht⟩) (fun _ h => absurd h List.not_mem_nil) hdg) ls hl hP rfl
abbrev wd_X1_isBegin (cy : Nat → ClassId) (a_t : Nat) (z_t_sessions : Value) (z_t_forgetTenths : Value) (z_t_ownKeys : Value) (z_t_person : Value) (z_t_first : Value) (z_t_last : Value) (z_t_minutes : Value) (z_t_risk : Value) (z_t_openFirst : Value) (z_t_openLast : Value) (z_t_homeMinutes : Value) (z_t_beginning : Value) (z_t_ending : Value) (z_t_comer : Value) (z_t_nextComer : Value) (t_people : Int32) (t_places : Int32) : va_W := [(a_t, .inr (1, [.int t_people, z_t_sessions, .int t_places, z_t_forgetTenths, z_t_ownKeys, z_t_person, z_t_first, z_t_last, z_t_minutes, z_t_risk, z_t_openFirst, z_t_openLast, z_t_homeMinutes, z_t_beginning, z_t_ending, z_t_comer, z_t_nextComer]))]
noncomputable def F_X1_isBegin (t_people : Int32) (t_places : Int32) (x1 : Int32) : Int32 := (if (F_X1_isPlace t_places x1) = (0 : Int32) then (if x1 < (10 : Int32) then (0 : Int32) else (if (F_X1_isPerson t_people (x1 - (10 : Int32))) = (0 : Int32) then (0 : Int32) else (1 : Int32))) else (1 : Int32))
set_option maxHeartbeats 4000000 in
set_option maxRecDepth 100000 in
theorem w_X1_isBegin {p : Program} {l : Launch} {e : Env} {s : State} {m : MethodId} {args : Array Value} {below : List Frame} {meth : Method} {c : Code} {D : va_G} {cy : Nat → ClassId} {QQ : State → Prop} {FV : Int32} (a_t : Nat) (z_t_sessions : Value) (z_t_forgetTenths : Value) (z_t_ownKeys : Value) (z_t_person : Value) (z_t_first : Value) (z_t_last : Value) (z_t_minutes : Value) (z_t_risk : Value) (z_t_openFirst : Value) (z_t_openLast : Value) (z_t_homeMinutes : Value) (z_t_beginning : Value) (z_t_ending : Value) (z_t_comer : Value) (z_t_nextComer : Value) (t_people : Int32) (t_places : Int32) (x1 : Int32) (hx : p.tables.exec = Jvm.exec) (hb : c.code = cX1_isBegin) (hml : c.maxLocals = 2) (hown : s.vm.findClass RX1 = some m.cls) (hts : ∀ w ∈ Cond.code yX1_isBegin cX1_isBegin 2 (some .boolean) :: LW, w.before args s = true) (hG : GW D cy s) (hret : ∀ (r : Int32) (ls : Array Slot) (pc : Nat), FV = r → narrow .boolean (.int r) = .int r → decode cX1_isBegin pc = .ok (.ireturn, 1) → W p l e (rmk 1 21) s m args below meth c s.heap [] 0 0 QQ (F0 m pc ls [.int r])) (ls : Array Slot) (hl : lv_has ls 2 [(0, .ref a_t), (1, .int x1)]) (hP : va_P D vwCl (wd_X1_isBegin cy a_t z_t_sessions z_t_forgetTenths z_t_ownKeys z_t_person z_t_first z_t_last z_t_minutes z_t_risk z_t_openFirst z_t_openLast z_t_homeMinutes z_t_beginning z_t_ending z_t_comer z_t_nextComer t_people t_places) s.heap) (hR : FV = (F_X1_isBegin t_people t_places x1)) : W p l e (rmk 1 21) s m args below meth c s.heap [] 0 0 QQ (F0 m 0 ls []) := by
  have hw : ∀ w ∈ LW, w.before args s = true := fun w h => hts w (List.mem_cons_of_mem _ h)
  have hK := hG.1
  unfold F_X1_isBegin at hR
  refine lv_aload_n hx hb dX1_isBegin_0 rfl (lv_at hl 0 rfl) ?_
  refine lv_iload_n hx hb dX1_isBegin_1 rfl (lv_at hl 1 rfl) ?_
  refine rdIV (As := [.int x1]) (rest := []) hx hb hml hown hts hG hP k_X1_73 (c_X1_isPlace (l := l) (D := D) (cy := cy) a_t (.int t_people) z_t_sessions z_t_forgetTenths z_t_ownKeys z_t_person z_t_first z_t_last z_t_minutes z_t_risk z_t_openFirst z_t_openLast z_t_homeMinutes z_t_beginning z_t_ending z_t_comer z_t_nextComer t_places x1) ⟨Nat.le_of_ble_eq_true rfl, Nat.le_of_ble_eq_true rfl⟩ [0] rfl 0 rfl rfl rfl rfl hl.1 rfl (Nat.le_of_ble_eq_true rfl) ⟨Nat.zero_le _, Nat.zero_le _⟩ dX1_isBegin_2 ?_
  have K_5 : W p l e (rmk 1 21) s m args below meth c s.heap [] 0 0 QQ (F0 m 30 ls [.int (if (F_X1_isPlace t_places x1) = (0 : Int32) then (if x1 < (10 : Int32) then (0 : Int32) else (if (F_X1_isPerson t_people (x1 - (10 : Int32))) = (0 : Int32) then (0 : Int32) else (1 : Int32))) else (1 : Int32))]) := by
    exact hret (if (F_X1_isPlace t_places x1) = (0 : Int32) then (if x1 < (10 : Int32) then (0 : Int32) else (if (F_X1_isPerson t_people (x1 - (10 : Int32))) = (0 : Int32) then (0 : Int32) else (1 : Int32))) else (1 : Int32)) _ _ hR (isB.nar (isB_ite (isB_ite isB_0 (isB_ite isB_0 isB_1)) isB_1)) dX1_isBegin_30
  refine lv_if_ne (tgt := 25) hx hb dX1_isBegin_5 (by decide) (fun c_5 => ?_) (fun c_5 => ?_)
  · refine lv_iconst (v := 1) hx hb dX1_isBegin_25 (by decide) ?_
    refine lv_goto (tgt := 30) hx hb dX1_isBegin_26 (by decide) ?_
    exact W.eq (congrArg (fun z => F0 m 30 ls (Value.int z :: [])) (if_neg c_5).symm) K_5
  · refine lv_iload_n hx hb dX1_isBegin_8 rfl (lv_at hl 1 rfl) ?_
    refine lv_bipush (v := 10) hx hb dX1_isBegin_9 (by decide) ?_
    refine lv_icmp_lt (tgt := 29) hx hb dX1_isBegin_11 (by decide) (fun c_11 => ?_) (fun c_11 => ?_)
    · refine lv_iconst (v := 0) hx hb dX1_isBegin_29 (by decide) ?_
      exact W.eq (congrArg (fun z => F0 m 30 ls (Value.int z :: [])) ((if_pos c_5).trans (if_pos c_11)).symm) K_5
    · refine lv_aload_n hx hb dX1_isBegin_14 rfl (lv_at hl 0 rfl) ?_
      refine lv_iload_n hx hb dX1_isBegin_15 rfl (lv_at hl 1 rfl) ?_
      refine lv_bipush (v := 10) hx hb dX1_isBegin_16 (by decide) ?_
      refine lv_isub hx hb dX1_isBegin_18 ?_
      refine rdIV (As := [.int (x1 - (10 : Int32))]) (rest := []) hx hb hml hown hts hG hP k_X1_77 (c_X1_isPerson (l := l) (D := D) (cy := cy) a_t z_t_sessions (.int t_places) z_t_forgetTenths z_t_ownKeys z_t_person z_t_first z_t_last z_t_minutes z_t_risk z_t_openFirst z_t_openLast z_t_homeMinutes z_t_beginning z_t_ending z_t_comer z_t_nextComer t_people (x1 - (10 : Int32))) ⟨Nat.le_of_ble_eq_true rfl, Nat.le_of_ble_eq_true rfl⟩ [0] rfl 0 rfl rfl rfl rfl hl.1 rfl (Nat.le_of_ble_eq_true rfl) ⟨Nat.zero_le _, Nat.zero_le _⟩ dX1_isBegin_19 ?_
      refine lv_if_eq (tgt := 29) hx hb dX1_isBegin_22 (by decide) (fun c_22 => ?_) (fun c_22 => ?_)
      · refine lv_iconst (v := 0) hx hb dX1_isBegin_29 (by decide) ?_
        exact W.eq (congrArg (fun z => F0 m 30 ls (Value.int z :: [])) ((if_pos c_5).trans ((if_neg c_11).trans (if_pos c_22))).symm) K_5
      · refine lv_iconst (v := 1) hx hb dX1_isBegin_25 (by decide) ?_
        refine lv_goto (tgt := 30) hx hb dX1_isBegin_26 (by decide) ?_
        exact W.eq (congrArg (fun z => F0 m 30 ls (Value.int z :: [])) ((if_pos c_5).trans ((if_neg c_11).trans (if_neg c_22))).symm) K_5
set_option maxHeartbeats 1000000 in
set_option maxRecDepth 100000 in
theorem c_X1_isBegin {l : Launch} {D : va_G} {cy : Nat → ClassId} (a_t : Nat) (z_t_sessions : Value) (z_t_forgetTenths : Value) (z_t_ownKeys : Value) (z_t_person : Value) (z_t_first : Value) (z_t_last : Value) (z_t_minutes : Value) (z_t_risk : Value) (z_t_openFirst : Value) (z_t_openLast : Value) (z_t_homeMinutes : Value) (z_t_beginning : Value) (z_t_ending : Value) (z_t_comer : Value) (z_t_nextComer : Value) (t_people : Int32) (t_places : Int32) (x1 : Int32) : RdI l yX1_isBegin cX1_isBegin 2 (some .boolean) 1 21 D cy [.ref a_t, .int x1] (wd_X1_isBegin cy a_t z_t_sessions z_t_forgetTenths z_t_ownKeys z_t_person z_t_first z_t_last z_t_minutes z_t_risk z_t_openFirst z_t_openLast z_t_homeMinutes z_t_beginning z_t_ending z_t_comer z_t_nextComer t_people t_places) (F_X1_isBegin t_people t_places x1) := by
  refine Met.ofW (cc := cX1_isBegin) (maxL := 2) (ret := (some .boolean)) (by decide) rfl ?_
  intro p e s m args below meth c s₁ B hml hv
  obtain ⟨rfl, hP, hG⟩ := hv
  have hr := B.returns
  have hlocks := B.notSynchronized
  have hl := lv_entry ([.ref a_t, .int x1]) (n := 2) (Nat.le_of_ble_eq_true rfl)
  rw [lg_entry_eq]
  generalize (lg_sl ([.ref a_t, .int x1]) ++ List.replicate (2 - (lg_sl ([.ref a_t, .int x1])).length) Slot.unset).toArray = ls at hl ⊢
  exact w_X1_isBegin a_t z_t_sessions z_t_forgetTenths z_t_ownKeys z_t_person z_t_first z_t_last z_t_minutes z_t_risk z_t_openFirst z_t_openLast z_t_homeMinutes z_t_beginning z_t_ending z_t_comer z_t_nextComer t_people t_places x1 B.exec B.bytes hml (findClass_of_methodNamed B.named) (atoms_spec (ws := Cond.code yX1_isBegin cX1_isBegin 2 (some .boolean) :: LW) B.pre) hG (fun r ls pc hF hn hdg => W.zret (v := r) B.exec B.bytes hr hn (fun t ht hW => ⟨r, rfl, hF.symm, ht⟩) (fun _ h => absurd h List.not_mem_nil) hdg) ls hl hP rfl
abbrev wd_X1_addSession (cy : Nat → ClassId) (a_t : Nat) (a_t_person : Nat) (a_t_first : Nat) (a_t_last : Nat) (z_t_people : Value) (z_t_places : Value) (z_t_forgetTenths : Value) (z_t_ownKeys : Value) (z_t_minutes : Value) (z_t_risk : Value) (z_t_openFirst : Value) (z_t_openLast : Value) (z_t_homeMinutes : Value) (z_t_beginning : Value) (z_t_ending : Value) (z_t_comer : Value) (z_t_nextComer : Value) (t_sessions : Int32) (t_person : Nat → Int32) (t_first : Nat → Int32) (t_last : Nat → Int32) : va_W := [(a_t, .inr (1, [z_t_people, .int t_sessions, z_t_places, z_t_forgetTenths, z_t_ownKeys, .ref a_t_person, .ref a_t_first, .ref a_t_last, z_t_minutes, z_t_risk, z_t_openFirst, z_t_openLast, z_t_homeMinutes, z_t_beginning, z_t_ending, z_t_comer, z_t_nextComer])), (a_t_person, .inl (cy 1, 8, .inl t_person)), (a_t_first, .inl (cy 1, 8, .inl t_first)), (a_t_last, .inl (cy 1, 8, .inl t_last))]
noncomputable def F_X1_addSession (t_sessions : Int32) (t_person : Nat → Int32) (t_first : Nat → Int32) (t_last : Nat → Int32) (x1 : Int32) (x2 : Int32) (x3 : Int32) : Int32 × (Nat → Int32) × (Nat → Int32) × (Nat → Int32) := (if (8 : Int32) ≤ t_sessions then (t_sessions, t_person, t_first, t_last) else ((t_sessions + (1 : Int32)), (upd t_person t_sessions.toNatClampNeg x1), (upd t_first t_sessions.toNatClampNeg x2), (upd t_last t_sessions.toNatClampNeg x3)))
def ok_X1_addSession (t_sessions : Int32) : Prop := (¬ ((8 : Int32) ≤ t_sessions) → (vp_in t_sessions 8) ∧ (vp_in t_sessions 8) ∧ (vp_in t_sessions 8))
set_option maxHeartbeats 4000000 in
set_option maxRecDepth 100000 in
theorem w_X1_addSession {p : Program} {l : Launch} {e : Env} {s : State} {m : MethodId} {args : Array Value} {below : List Frame} {meth : Method} {c : Code} {D : va_G} {cy : Nat → ClassId} {A : Nat → Prop} {QQ : State → Prop} {FV : Int32 × (Nat → Int32) × (Nat → Int32) × (Nat → Int32)} (a_t : Nat) (a_t_person : Nat) (a_t_first : Nat) (a_t_last : Nat) (z_t_people : Value) (z_t_places : Value) (z_t_forgetTenths : Value) (z_t_ownKeys : Value) (z_t_minutes : Value) (z_t_risk : Value) (z_t_openFirst : Value) (z_t_openLast : Value) (z_t_homeMinutes : Value) (z_t_beginning : Value) (z_t_ending : Value) (z_t_comer : Value) (z_t_nextComer : Value) (t_sessions : Int32) (t_person : Nat → Int32) (t_first : Nat → Int32) (t_last : Nat → Int32) (x1 : Int32) (x2 : Int32) (x3 : Int32) (hx : p.tables.exec = Jvm.exec) (hb : c.code = cX1_addSession) (hml : c.maxLocals = 4) (hown : s.vm.findClass RX1 = some m.cls) (hts : ∀ w ∈ Cond.code yX1_addSession cX1_addSession 4 none :: LW, w.before args s = true) (hG : GW D cy s) (hA : ∀ q, s.heap.size ≤ q → A q) (hret : ∀ (o0 : Int32) (o1 : Nat → Int32) (o2 : Nat → Int32) (o3 : Nat → Int32) (H : Heap) (locs : List Loc) (ls : Array Slot) (pc : Nat), va_P D vwCl (wd_X1_addSession cy a_t a_t_person a_t_first a_t_last z_t_people z_t_places z_t_forgetTenths z_t_ownKeys z_t_minutes z_t_risk z_t_openFirst z_t_openLast z_t_homeMinutes z_t_beginning z_t_ending z_t_comer z_t_nextComer o0 o1 o2 o3) H → va_D A (wd_X1_addSession cy a_t a_t_person a_t_first a_t_last z_t_people z_t_places z_t_forgetTenths z_t_ownKeys z_t_minutes z_t_risk z_t_openFirst z_t_openLast z_t_homeMinutes z_t_beginning z_t_ending z_t_comer z_t_nextComer o0 o1 o2 o3) → va_S A s.heap H locs → FV = (o0, o1, o2, o3) → decode cX1_addSession pc = .ok (.return_, 1) → W p l e (rmk 0 0) s m args below meth c H locs 0 0 QQ (F0 m pc ls [])) (ls : Array Slot) (hl : lv_has ls 4 [(0, .ref a_t), (1, .int x1), (2, .int x2), (3, .int x3)]) (hP : va_P D vwCl (wd_X1_addSession cy a_t a_t_person a_t_first a_t_last z_t_people z_t_places z_t_forgetTenths z_t_ownKeys z_t_minutes z_t_risk z_t_openFirst z_t_openLast z_t_homeMinutes z_t_beginning z_t_ending z_t_comer z_t_nextComer t_sessions t_person t_first t_last) s.heap) (hD : va_D A (wd_X1_addSession cy a_t a_t_person a_t_first a_t_last z_t_people z_t_places z_t_forgetTenths z_t_ownKeys z_t_minutes z_t_risk z_t_openFirst z_t_openLast z_t_homeMinutes z_t_beginning z_t_ending z_t_comer z_t_nextComer t_sessions t_person t_first t_last)) (hok : (ok_X1_addSession t_sessions)) (hR : FV = (F_X1_addSession t_sessions t_person t_first t_last x1 x2 x3)) : W p l e (rmk 0 0) s m args below meth c s.heap [] 0 0 QQ (F0 m 0 ls []) := by
  have hw : ∀ w ∈ LW, w.before args s = true := fun w h => hts w (List.mem_cons_of_mem _ h)
  have hK := hG.1
  have hS : va_S A s.heap s.heap [] := va_S.rf
  unfold F_X1_addSession at hR
  unfold ok_X1_addSession at hok
  refine lv_aload_n hx hb dX1_addSession_0 rfl (lv_at hl 0 rfl) ?_
  refine g_X1_15 hx hb hw hown hK hP 0 rfl rfl dX1_addSession_1 ?_
  refine lv_bipush (v := 8) hx hb dX1_addSession_4 (by decide) ?_
  refine lv_icmp_ge (tgt := 49) hx hb dX1_addSession_6 (by decide) (fun c_6 => ?_) (fun c_6 => ?_)
  · replace hR := bp hR c_6
    exact hret t_sessions t_person t_first t_last _ _ _ _ hP hD hS hR dX1_addSession_49
  · replace hR := bn hR c_6
    replace hok := hok c_6
    refine lv_aload_n hx hb dX1_addSession_9 rfl (lv_at hl 0 rfl) ?_
    refine g_X1_27 hx hb hw hown hK hP 0 rfl rfl dX1_addSession_10 ?_
    refine lv_aload_n hx hb dX1_addSession_13 rfl (lv_at hl 0 rfl) ?_
    refine g_X1_15 hx hb hw hown hK hP 0 rfl rfl dX1_addSession_14 ?_
    refine lv_iload_n hx hb dX1_addSession_17 rfl (lv_at hl 1 rfl) ?_
    obtain ⟨h_18_0, hok⟩ := hok
    refine va_iast hx hb hK hP hD hS 1 1 rfl rfl h_18_0 dX1_addSession_18 (fun H locs hP hD hS => ?_)
    replace hP : va_P D vwCl (wd_X1_addSession cy a_t a_t_person a_t_first a_t_last z_t_people z_t_places z_t_forgetTenths z_t_ownKeys z_t_minutes z_t_risk z_t_openFirst z_t_openLast z_t_homeMinutes z_t_beginning z_t_ending z_t_comer z_t_nextComer t_sessions (upd t_person t_sessions.toNatClampNeg x1) t_first t_last) H := hP
    replace hD : va_D A (wd_X1_addSession cy a_t a_t_person a_t_first a_t_last z_t_people z_t_places z_t_forgetTenths z_t_ownKeys z_t_minutes z_t_risk z_t_openFirst z_t_openLast z_t_homeMinutes z_t_beginning z_t_ending z_t_comer z_t_nextComer t_sessions (upd t_person t_sessions.toNatClampNeg x1) t_first t_last) := hD
    refine lv_aload_n hx hb dX1_addSession_19 rfl (lv_at hl 0 rfl) ?_
    refine g_X1_31 hx hb hw hown hK hP 0 rfl rfl dX1_addSession_20 ?_
    refine lv_aload_n hx hb dX1_addSession_23 rfl (lv_at hl 0 rfl) ?_
    refine g_X1_15 hx hb hw hown hK hP 0 rfl rfl dX1_addSession_24 ?_
    refine lv_iload_n hx hb dX1_addSession_27 rfl (lv_at hl 2 rfl) ?_
    obtain ⟨h_28_0, hok⟩ := hok
    refine va_iast hx hb hK hP hD hS 2 1 rfl rfl h_28_0 dX1_addSession_28 (fun H locs hP hD hS => ?_)
    replace hP : va_P D vwCl (wd_X1_addSession cy a_t a_t_person a_t_first a_t_last z_t_people z_t_places z_t_forgetTenths z_t_ownKeys z_t_minutes z_t_risk z_t_openFirst z_t_openLast z_t_homeMinutes z_t_beginning z_t_ending z_t_comer z_t_nextComer t_sessions (upd t_person t_sessions.toNatClampNeg x1) (upd t_first t_sessions.toNatClampNeg x2) t_last) H := hP
    replace hD : va_D A (wd_X1_addSession cy a_t a_t_person a_t_first a_t_last z_t_people z_t_places z_t_forgetTenths z_t_ownKeys z_t_minutes z_t_risk z_t_openFirst z_t_openLast z_t_homeMinutes z_t_beginning z_t_ending z_t_comer z_t_nextComer t_sessions (upd t_person t_sessions.toNatClampNeg x1) (upd t_first t_sessions.toNatClampNeg x2) t_last) := hD
    refine lv_aload_n hx hb dX1_addSession_29 rfl (lv_at hl 0 rfl) ?_
    refine g_X1_34 hx hb hw hown hK hP 0 rfl rfl dX1_addSession_30 ?_
    refine lv_aload_n hx hb dX1_addSession_33 rfl (lv_at hl 0 rfl) ?_
    refine g_X1_15 hx hb hw hown hK hP 0 rfl rfl dX1_addSession_34 ?_
    refine lv_iload_n hx hb dX1_addSession_37 rfl (lv_at hl 3 rfl) ?_
    have h_38_0 := hok
    refine va_iast hx hb hK hP hD hS 3 1 rfl rfl h_38_0 dX1_addSession_38 (fun H locs hP hD hS => ?_)
    replace hP : va_P D vwCl (wd_X1_addSession cy a_t a_t_person a_t_first a_t_last z_t_people z_t_places z_t_forgetTenths z_t_ownKeys z_t_minutes z_t_risk z_t_openFirst z_t_openLast z_t_homeMinutes z_t_beginning z_t_ending z_t_comer z_t_nextComer t_sessions (upd t_person t_sessions.toNatClampNeg x1) (upd t_first t_sessions.toNatClampNeg x2) (upd t_last t_sessions.toNatClampNeg x3)) H := hP
    replace hD : va_D A (wd_X1_addSession cy a_t a_t_person a_t_first a_t_last z_t_people z_t_places z_t_forgetTenths z_t_ownKeys z_t_minutes z_t_risk z_t_openFirst z_t_openLast z_t_homeMinutes z_t_beginning z_t_ending z_t_comer z_t_nextComer t_sessions (upd t_person t_sessions.toNatClampNeg x1) (upd t_first t_sessions.toNatClampNeg x2) (upd t_last t_sessions.toNatClampNeg x3)) := hD
    refine lv_aload_n hx hb dX1_addSession_39 rfl (lv_at hl 0 rfl) ?_
    refine lv_dup hx hb dX1_addSession_40 rfl ?_
    refine g_X1_15 hx hb hw hown hK hP 0 rfl rfl dX1_addSession_41 ?_
    refine lv_iconst (v := 1) hx hb dX1_addSession_44 (by decide) ?_
    refine lv_iadd hx hb dX1_addSession_45 ?_
    refine p_X1_15 hx hb hw hown hK hP hD hS 0 rfl rfl rfl rfl dX1_addSession_46 (fun H locs hP hD hS => ?_)
    replace hP : va_P D vwCl (wd_X1_addSession cy a_t a_t_person a_t_first a_t_last z_t_people z_t_places z_t_forgetTenths z_t_ownKeys z_t_minutes z_t_risk z_t_openFirst z_t_openLast z_t_homeMinutes z_t_beginning z_t_ending z_t_comer z_t_nextComer (t_sessions + (1 : Int32)) (upd t_person t_sessions.toNatClampNeg x1) (upd t_first t_sessions.toNatClampNeg x2) (upd t_last t_sessions.toNatClampNeg x3)) H := hP
    replace hD : va_D A (wd_X1_addSession cy a_t a_t_person a_t_first a_t_last z_t_people z_t_places z_t_forgetTenths z_t_ownKeys z_t_minutes z_t_risk z_t_openFirst z_t_openLast z_t_homeMinutes z_t_beginning z_t_ending z_t_comer z_t_nextComer (t_sessions + (1 : Int32)) (upd t_person t_sessions.toNatClampNeg x1) (upd t_first t_sessions.toNatClampNeg x2) (upd t_last t_sessions.toNatClampNeg x3)) := hD
    exact hret (t_sessions + (1 : Int32)) (upd t_person t_sessions.toNatClampNeg x1) (upd t_first t_sessions.toNatClampNeg x2) (upd t_last t_sessions.toNatClampNeg x3) _ _ _ _ hP hD hS hR dX1_addSession_49
set_option maxHeartbeats 1000000 in
set_option maxRecDepth 100000 in
theorem c_X1_addSession {l : Launch} {D : va_G} {cy : Nat → ClassId} (a_t : Nat) (a_t_person : Nat) (a_t_first : Nat) (a_t_last : Nat) (z_t_people : Value) (z_t_places : Value) (z_t_forgetTenths : Value) (z_t_ownKeys : Value) (z_t_minutes : Value) (z_t_risk : Value) (z_t_openFirst : Value) (z_t_openLast : Value) (z_t_homeMinutes : Value) (z_t_beginning : Value) (z_t_ending : Value) (z_t_comer : Value) (z_t_nextComer : Value) (t_sessions : Int32) (t_person : Nat → Int32) (t_first : Nat → Int32) (t_last : Nat → Int32) (x1 : Int32) (x2 : Int32) (x3 : Int32) (sz : Nat) (hok : (ok_X1_addSession t_sessions)) : WrV (S := Int32 × (Nat → Int32) × (Nat → Int32) × (Nat → Int32)) l yX1_addSession cX1_addSession 4 none 0 0 D cy [.ref a_t, .int x1, .int x2, .int x3] (wd_X1_addSession cy a_t a_t_person a_t_first a_t_last z_t_people z_t_places z_t_forgetTenths z_t_ownKeys z_t_minutes z_t_risk z_t_openFirst z_t_openLast z_t_homeMinutes z_t_beginning z_t_ending z_t_comer z_t_nextComer t_sessions t_person t_first t_last) (fun u => (wd_X1_addSession cy a_t a_t_person a_t_first a_t_last z_t_people z_t_places z_t_forgetTenths z_t_ownKeys z_t_minutes z_t_risk z_t_openFirst z_t_openLast z_t_homeMinutes z_t_beginning z_t_ending z_t_comer z_t_nextComer u.1 u.2.1 u.2.2.1 u.2.2.2)) (F_X1_addSession t_sessions t_person t_first t_last x1 x2 x3) sz := by
  refine Met.ofW (cc := cX1_addSession) (maxL := 4) (ret := none) (by decide) rfl ?_
  intro p e s m args below meth c s₁ B hml hv
  obtain ⟨rfl, hsz, hP, hG, hD0⟩ := hv
  subst hsz
  have hD := hD0.self (sz := s.heap.size)
  have hr := B.returns
  have hlocks := B.notSynchronized
  have hl := lv_entry ([.ref a_t, .int x1, .int x2, .int x3]) (n := 4) (Nat.le_of_ble_eq_true rfl)
  rw [lg_entry_eq]
  generalize (lg_sl ([.ref a_t, .int x1, .int x2, .int x3]) ++ List.replicate (4 - (lg_sl ([.ref a_t, .int x1, .int x2, .int x3])).length) Slot.unset).toArray = ls at hl ⊢
  exact w_X1_addSession a_t a_t_person a_t_first a_t_last z_t_people z_t_places z_t_forgetTenths z_t_ownKeys z_t_minutes z_t_risk z_t_openFirst z_t_openLast z_t_homeMinutes z_t_beginning z_t_ending z_t_comer z_t_nextComer t_sessions t_person t_first t_last x1 x2 x3 B.exec B.bytes hml (findClass_of_methodNamed B.named) (atoms_spec (ws := Cond.code yX1_addSession cX1_addSession 4 none :: LW) B.pre) hG (fun q h => Or.inr h) (fun o0 o1 o2 o3 H locs ls pc hP hD hS hF hdg => W.vret B.exec B.bytes hr (fun t ht hW => ⟨⟨(o0, o1, o2, o3), rfl, hF.symm, by rw [ht]; exact hP, hD⟩, hS.F ht⟩) hS.2.2 hdg) ls hl hP hD hok rfl
abbrev wd_X1_addPlace (cy : Nat → ClassId) (a_t : Nat) (a_t_minutes : Nat) (a_t_risk : Nat) (a_t_openFirst : Nat) (a_t_openLast : Nat) (z_t_people : Value) (z_t_sessions : Value) (z_t_forgetTenths : Value) (z_t_ownKeys : Value) (z_t_person : Value) (z_t_first : Value) (z_t_last : Value) (z_t_homeMinutes : Value) (z_t_beginning : Value) (z_t_ending : Value) (z_t_comer : Value) (z_t_nextComer : Value) (t_places : Int32) (t_minutes : Nat → Int32) (t_risk : Nat → Int32) (t_openFirst : Nat → Int32) (t_openLast : Nat → Int32) : va_W := [(a_t, .inr (1, [z_t_people, z_t_sessions, .int t_places, z_t_forgetTenths, z_t_ownKeys, z_t_person, z_t_first, z_t_last, .ref a_t_minutes, .ref a_t_risk, .ref a_t_openFirst, .ref a_t_openLast, z_t_homeMinutes, z_t_beginning, z_t_ending, z_t_comer, z_t_nextComer])), (a_t_minutes, .inl (cy 1, 4, .inl t_minutes)), (a_t_risk, .inl (cy 1, 4, .inl t_risk)), (a_t_openFirst, .inl (cy 1, 4, .inl t_openFirst)), (a_t_openLast, .inl (cy 1, 4, .inl t_openLast))]
noncomputable def F_X1_addPlace (t_places : Int32) (t_minutes : Nat → Int32) (t_risk : Nat → Int32) (t_openFirst : Nat → Int32) (t_openLast : Nat → Int32) (x1 : Int32) (x2 : Int32) (x3 : Int32) : Int32 × (Nat → Int32) × (Nat → Int32) × (Nat → Int32) × (Nat → Int32) := (if x1 < (0 : Int32) then (t_places, t_minutes, t_risk, t_openFirst, t_openLast) else (if (4 : Int32) ≤ x1 then (t_places, t_minutes, t_risk, t_openFirst, t_openLast) else ((t_places ||| ((1 : Int32) <<< (x1 &&& (31 : Int32)))), (upd t_minutes x1.toNatClampNeg x2), (upd t_risk x1.toNatClampNeg x3), (upd t_openFirst x1.toNatClampNeg (0 : Int32)), (upd t_openLast x1.toNatClampNeg (9 : Int32)))))
def ok_X1_addPlace (x1 : Int32) : Prop := (¬ (x1 < (0 : Int32)) → (¬ ((4 : Int32) ≤ x1) → (vp_in x1 4) ∧ (vp_in x1 4) ∧ (vp_in x1 4) ∧ (vp_in x1 4)))
set_option maxHeartbeats 4000000 in
set_option maxRecDepth 100000 in
theorem w_X1_addPlace {p : Program} {l : Launch} {e : Env} {s : State} {m : MethodId} {args : Array Value} {below : List Frame} {meth : Method} {c : Code} {D : va_G} {cy : Nat → ClassId} {A : Nat → Prop} {QQ : State → Prop} {FV : Int32 × (Nat → Int32) × (Nat → Int32) × (Nat → Int32) × (Nat → Int32)} (a_t : Nat) (a_t_minutes : Nat) (a_t_risk : Nat) (a_t_openFirst : Nat) (a_t_openLast : Nat) (z_t_people : Value) (z_t_sessions : Value) (z_t_forgetTenths : Value) (z_t_ownKeys : Value) (z_t_person : Value) (z_t_first : Value) (z_t_last : Value) (z_t_homeMinutes : Value) (z_t_beginning : Value) (z_t_ending : Value) (z_t_comer : Value) (z_t_nextComer : Value) (t_places : Int32) (t_minutes : Nat → Int32) (t_risk : Nat → Int32) (t_openFirst : Nat → Int32) (t_openLast : Nat → Int32) (x1 : Int32) (x2 : Int32) (x3 : Int32) (hx : p.tables.exec = Jvm.exec) (hb : c.code = cX1_addPlace) (hml : c.maxLocals = 4) (hown : s.vm.findClass RX1 = some m.cls) (hts : ∀ w ∈ Cond.code yX1_addPlace cX1_addPlace 4 none :: LW, w.before args s = true) (hG : GW D cy s) (hA : ∀ q, s.heap.size ≤ q → A q) (hret : ∀ (o0 : Int32) (o1 : Nat → Int32) (o2 : Nat → Int32) (o3 : Nat → Int32) (o4 : Nat → Int32) (H : Heap) (locs : List Loc) (ls : Array Slot) (pc : Nat), va_P D vwCl (wd_X1_addPlace cy a_t a_t_minutes a_t_risk a_t_openFirst a_t_openLast z_t_people z_t_sessions z_t_forgetTenths z_t_ownKeys z_t_person z_t_first z_t_last z_t_homeMinutes z_t_beginning z_t_ending z_t_comer z_t_nextComer o0 o1 o2 o3 o4) H → va_D A (wd_X1_addPlace cy a_t a_t_minutes a_t_risk a_t_openFirst a_t_openLast z_t_people z_t_sessions z_t_forgetTenths z_t_ownKeys z_t_person z_t_first z_t_last z_t_homeMinutes z_t_beginning z_t_ending z_t_comer z_t_nextComer o0 o1 o2 o3 o4) → va_S A s.heap H locs → FV = (o0, o1, o2, o3, o4) → decode cX1_addPlace pc = .ok (.return_, 1) → W p l e (rmk 0 0) s m args below meth c H locs 0 0 QQ (F0 m pc ls [])) (ls : Array Slot) (hl : lv_has ls 4 [(0, .ref a_t), (1, .int x1), (2, .int x2), (3, .int x3)]) (hP : va_P D vwCl (wd_X1_addPlace cy a_t a_t_minutes a_t_risk a_t_openFirst a_t_openLast z_t_people z_t_sessions z_t_forgetTenths z_t_ownKeys z_t_person z_t_first z_t_last z_t_homeMinutes z_t_beginning z_t_ending z_t_comer z_t_nextComer t_places t_minutes t_risk t_openFirst t_openLast) s.heap) (hD : va_D A (wd_X1_addPlace cy a_t a_t_minutes a_t_risk a_t_openFirst a_t_openLast z_t_people z_t_sessions z_t_forgetTenths z_t_ownKeys z_t_person z_t_first z_t_last z_t_homeMinutes z_t_beginning z_t_ending z_t_comer z_t_nextComer t_places t_minutes t_risk t_openFirst t_openLast)) (hok : (ok_X1_addPlace x1)) (hR : FV = (F_X1_addPlace t_places t_minutes t_risk t_openFirst t_openLast x1 x2 x3)) : W p l e (rmk 0 0) s m args below meth c s.heap [] 0 0 QQ (F0 m 0 ls []) := by
  have hw : ∀ w ∈ LW, w.before args s = true := fun w h => hts w (List.mem_cons_of_mem _ h)
  have hK := hG.1
  have hS : va_S A s.heap s.heap [] := va_S.rf
  unfold F_X1_addPlace at hR
  unfold ok_X1_addPlace at hok
  refine lv_iload_n hx hb dX1_addPlace_0 rfl (lv_at hl 1 rfl) ?_
  refine lv_if_lt (tgt := 50) hx hb dX1_addPlace_1 (by decide) (fun c_1 => ?_) (fun c_1 => ?_)
  · replace hR := bp hR c_1
    exact hret t_places t_minutes t_risk t_openFirst t_openLast _ _ _ _ hP hD hS hR dX1_addPlace_50
  · replace hR := bn hR c_1
    replace hok := hok c_1
    refine lv_iload_n hx hb dX1_addPlace_4 rfl (lv_at hl 1 rfl) ?_
    refine lv_iconst (v := 4) hx hb dX1_addPlace_5 (by decide) ?_
    refine lv_icmp_ge (tgt := 50) hx hb dX1_addPlace_6 (by decide) (fun c_6 => ?_) (fun c_6 => ?_)
    · replace hR := bp hR c_6
      exact hret t_places t_minutes t_risk t_openFirst t_openLast _ _ _ _ hP hD hS hR dX1_addPlace_50
    · replace hR := bn hR c_6
      replace hok := hok c_6
      refine lv_aload_n hx hb dX1_addPlace_9 rfl (lv_at hl 0 rfl) ?_
      refine lv_dup hx hb dX1_addPlace_10 rfl ?_
      refine g_X1_18 hx hb hw hown hK hP 0 rfl rfl dX1_addPlace_11 ?_
      refine lv_iconst (v := 1) hx hb dX1_addPlace_14 (by decide) ?_
      refine lv_iload_n hx hb dX1_addPlace_15 rfl (lv_at hl 1 rfl) ?_
      refine lv_ishl hx hb dX1_addPlace_16 ?_
      refine lv_ior hx hb dX1_addPlace_17 ?_
      refine p_X1_18 hx hb hw hown hK hP hD hS 0 rfl rfl rfl rfl dX1_addPlace_18 (fun H locs hP hD hS => ?_)
      replace hP : va_P D vwCl (wd_X1_addPlace cy a_t a_t_minutes a_t_risk a_t_openFirst a_t_openLast z_t_people z_t_sessions z_t_forgetTenths z_t_ownKeys z_t_person z_t_first z_t_last z_t_homeMinutes z_t_beginning z_t_ending z_t_comer z_t_nextComer (t_places ||| ((1 : Int32) <<< (x1 &&& (31 : Int32)))) t_minutes t_risk t_openFirst t_openLast) H := hP
      replace hD : va_D A (wd_X1_addPlace cy a_t a_t_minutes a_t_risk a_t_openFirst a_t_openLast z_t_people z_t_sessions z_t_forgetTenths z_t_ownKeys z_t_person z_t_first z_t_last z_t_homeMinutes z_t_beginning z_t_ending z_t_comer z_t_nextComer (t_places ||| ((1 : Int32) <<< (x1 &&& (31 : Int32)))) t_minutes t_risk t_openFirst t_openLast) := hD
      refine lv_aload_n hx hb dX1_addPlace_21 rfl (lv_at hl 0 rfl) ?_
      refine g_X1_37 hx hb hw hown hK hP 0 rfl rfl dX1_addPlace_22 ?_
      refine lv_iload_n hx hb dX1_addPlace_25 rfl (lv_at hl 1 rfl) ?_
      refine lv_iload_n hx hb dX1_addPlace_26 rfl (lv_at hl 2 rfl) ?_
      obtain ⟨h_27_0, hok⟩ := hok
      refine va_iast hx hb hK hP hD hS 1 1 rfl rfl h_27_0 dX1_addPlace_27 (fun H locs hP hD hS => ?_)
      replace hP : va_P D vwCl (wd_X1_addPlace cy a_t a_t_minutes a_t_risk a_t_openFirst a_t_openLast z_t_people z_t_sessions z_t_forgetTenths z_t_ownKeys z_t_person z_t_first z_t_last z_t_homeMinutes z_t_beginning z_t_ending z_t_comer z_t_nextComer (t_places ||| ((1 : Int32) <<< (x1 &&& (31 : Int32)))) (upd t_minutes x1.toNatClampNeg x2) t_risk t_openFirst t_openLast) H := hP
      replace hD : va_D A (wd_X1_addPlace cy a_t a_t_minutes a_t_risk a_t_openFirst a_t_openLast z_t_people z_t_sessions z_t_forgetTenths z_t_ownKeys z_t_person z_t_first z_t_last z_t_homeMinutes z_t_beginning z_t_ending z_t_comer z_t_nextComer (t_places ||| ((1 : Int32) <<< (x1 &&& (31 : Int32)))) (upd t_minutes x1.toNatClampNeg x2) t_risk t_openFirst t_openLast) := hD
      refine lv_aload_n hx hb dX1_addPlace_28 rfl (lv_at hl 0 rfl) ?_
      refine g_X1_40 hx hb hw hown hK hP 0 rfl rfl dX1_addPlace_29 ?_
      refine lv_iload_n hx hb dX1_addPlace_32 rfl (lv_at hl 1 rfl) ?_
      refine lv_iload_n hx hb dX1_addPlace_33 rfl (lv_at hl 3 rfl) ?_
      obtain ⟨h_34_0, hok⟩ := hok
      refine va_iast hx hb hK hP hD hS 2 1 rfl rfl h_34_0 dX1_addPlace_34 (fun H locs hP hD hS => ?_)
      replace hP : va_P D vwCl (wd_X1_addPlace cy a_t a_t_minutes a_t_risk a_t_openFirst a_t_openLast z_t_people z_t_sessions z_t_forgetTenths z_t_ownKeys z_t_person z_t_first z_t_last z_t_homeMinutes z_t_beginning z_t_ending z_t_comer z_t_nextComer (t_places ||| ((1 : Int32) <<< (x1 &&& (31 : Int32)))) (upd t_minutes x1.toNatClampNeg x2) (upd t_risk x1.toNatClampNeg x3) t_openFirst t_openLast) H := hP
      replace hD : va_D A (wd_X1_addPlace cy a_t a_t_minutes a_t_risk a_t_openFirst a_t_openLast z_t_people z_t_sessions z_t_forgetTenths z_t_ownKeys z_t_person z_t_first z_t_last z_t_homeMinutes z_t_beginning z_t_ending z_t_comer z_t_nextComer (t_places ||| ((1 : Int32) <<< (x1 &&& (31 : Int32)))) (upd t_minutes x1.toNatClampNeg x2) (upd t_risk x1.toNatClampNeg x3) t_openFirst t_openLast) := hD
      refine lv_aload_n hx hb dX1_addPlace_35 rfl (lv_at hl 0 rfl) ?_
      refine g_X1_43 hx hb hw hown hK hP 0 rfl rfl dX1_addPlace_36 ?_
      refine lv_iload_n hx hb dX1_addPlace_39 rfl (lv_at hl 1 rfl) ?_
      refine lv_iconst (v := 0) hx hb dX1_addPlace_40 (by decide) ?_
      obtain ⟨h_41_0, hok⟩ := hok
      refine va_iast hx hb hK hP hD hS 3 1 rfl rfl h_41_0 dX1_addPlace_41 (fun H locs hP hD hS => ?_)
      replace hP : va_P D vwCl (wd_X1_addPlace cy a_t a_t_minutes a_t_risk a_t_openFirst a_t_openLast z_t_people z_t_sessions z_t_forgetTenths z_t_ownKeys z_t_person z_t_first z_t_last z_t_homeMinutes z_t_beginning z_t_ending z_t_comer z_t_nextComer (t_places ||| ((1 : Int32) <<< (x1 &&& (31 : Int32)))) (upd t_minutes x1.toNatClampNeg x2) (upd t_risk x1.toNatClampNeg x3) (upd t_openFirst x1.toNatClampNeg (0 : Int32)) t_openLast) H := hP
      replace hD : va_D A (wd_X1_addPlace cy a_t a_t_minutes a_t_risk a_t_openFirst a_t_openLast z_t_people z_t_sessions z_t_forgetTenths z_t_ownKeys z_t_person z_t_first z_t_last z_t_homeMinutes z_t_beginning z_t_ending z_t_comer z_t_nextComer (t_places ||| ((1 : Int32) <<< (x1 &&& (31 : Int32)))) (upd t_minutes x1.toNatClampNeg x2) (upd t_risk x1.toNatClampNeg x3) (upd t_openFirst x1.toNatClampNeg (0 : Int32)) t_openLast) := hD
      refine lv_aload_n hx hb dX1_addPlace_42 rfl (lv_at hl 0 rfl) ?_
      refine g_X1_46 hx hb hw hown hK hP 0 rfl rfl dX1_addPlace_43 ?_
      refine lv_iload_n hx hb dX1_addPlace_46 rfl (lv_at hl 1 rfl) ?_
      refine lv_bipush (v := 9) hx hb dX1_addPlace_47 (by decide) ?_
      have h_49_0 := hok
      refine va_iast hx hb hK hP hD hS 4 1 rfl rfl h_49_0 dX1_addPlace_49 (fun H locs hP hD hS => ?_)
      replace hP : va_P D vwCl (wd_X1_addPlace cy a_t a_t_minutes a_t_risk a_t_openFirst a_t_openLast z_t_people z_t_sessions z_t_forgetTenths z_t_ownKeys z_t_person z_t_first z_t_last z_t_homeMinutes z_t_beginning z_t_ending z_t_comer z_t_nextComer (t_places ||| ((1 : Int32) <<< (x1 &&& (31 : Int32)))) (upd t_minutes x1.toNatClampNeg x2) (upd t_risk x1.toNatClampNeg x3) (upd t_openFirst x1.toNatClampNeg (0 : Int32)) (upd t_openLast x1.toNatClampNeg (9 : Int32))) H := hP
      replace hD : va_D A (wd_X1_addPlace cy a_t a_t_minutes a_t_risk a_t_openFirst a_t_openLast z_t_people z_t_sessions z_t_forgetTenths z_t_ownKeys z_t_person z_t_first z_t_last z_t_homeMinutes z_t_beginning z_t_ending z_t_comer z_t_nextComer (t_places ||| ((1 : Int32) <<< (x1 &&& (31 : Int32)))) (upd t_minutes x1.toNatClampNeg x2) (upd t_risk x1.toNatClampNeg x3) (upd t_openFirst x1.toNatClampNeg (0 : Int32)) (upd t_openLast x1.toNatClampNeg (9 : Int32))) := hD
      exact hret (t_places ||| ((1 : Int32) <<< (x1 &&& (31 : Int32)))) (upd t_minutes x1.toNatClampNeg x2) (upd t_risk x1.toNatClampNeg x3) (upd t_openFirst x1.toNatClampNeg (0 : Int32)) (upd t_openLast x1.toNatClampNeg (9 : Int32)) _ _ _ _ hP hD hS hR dX1_addPlace_50
set_option maxHeartbeats 1000000 in
set_option maxRecDepth 100000 in
theorem c_X1_addPlace {l : Launch} {D : va_G} {cy : Nat → ClassId} (a_t : Nat) (a_t_minutes : Nat) (a_t_risk : Nat) (a_t_openFirst : Nat) (a_t_openLast : Nat) (z_t_people : Value) (z_t_sessions : Value) (z_t_forgetTenths : Value) (z_t_ownKeys : Value) (z_t_person : Value) (z_t_first : Value) (z_t_last : Value) (z_t_homeMinutes : Value) (z_t_beginning : Value) (z_t_ending : Value) (z_t_comer : Value) (z_t_nextComer : Value) (t_places : Int32) (t_minutes : Nat → Int32) (t_risk : Nat → Int32) (t_openFirst : Nat → Int32) (t_openLast : Nat → Int32) (x1 : Int32) (x2 : Int32) (x3 : Int32) (sz : Nat) (hok : (ok_X1_addPlace x1)) : WrV (S := Int32 × (Nat → Int32) × (Nat → Int32) × (Nat → Int32) × (Nat → Int32)) l yX1_addPlace cX1_addPlace 4 none 0 0 D cy [.ref a_t, .int x1, .int x2, .int x3] (wd_X1_addPlace cy a_t a_t_minutes a_t_risk a_t_openFirst a_t_openLast z_t_people z_t_sessions z_t_forgetTenths z_t_ownKeys z_t_person z_t_first z_t_last z_t_homeMinutes z_t_beginning z_t_ending z_t_comer z_t_nextComer t_places t_minutes t_risk t_openFirst t_openLast) (fun u => (wd_X1_addPlace cy a_t a_t_minutes a_t_risk a_t_openFirst a_t_openLast z_t_people z_t_sessions z_t_forgetTenths z_t_ownKeys z_t_person z_t_first z_t_last z_t_homeMinutes z_t_beginning z_t_ending z_t_comer z_t_nextComer u.1 u.2.1 u.2.2.1 u.2.2.2.1 u.2.2.2.2)) (F_X1_addPlace t_places t_minutes t_risk t_openFirst t_openLast x1 x2 x3) sz := by
  refine Met.ofW (cc := cX1_addPlace) (maxL := 4) (ret := none) (by decide) rfl ?_
  intro p e s m args below meth c s₁ B hml hv
  obtain ⟨rfl, hsz, hP, hG, hD0⟩ := hv
  subst hsz
  have hD := hD0.self (sz := s.heap.size)
  have hr := B.returns
  have hlocks := B.notSynchronized
  have hl := lv_entry ([.ref a_t, .int x1, .int x2, .int x3]) (n := 4) (Nat.le_of_ble_eq_true rfl)
  rw [lg_entry_eq]
  generalize (lg_sl ([.ref a_t, .int x1, .int x2, .int x3]) ++ List.replicate (4 - (lg_sl ([.ref a_t, .int x1, .int x2, .int x3])).length) Slot.unset).toArray = ls at hl ⊢
  exact w_X1_addPlace a_t a_t_minutes a_t_risk a_t_openFirst a_t_openLast z_t_people z_t_sessions z_t_forgetTenths z_t_ownKeys z_t_person z_t_first z_t_last z_t_homeMinutes z_t_beginning z_t_ending z_t_comer z_t_nextComer t_places t_minutes t_risk t_openFirst t_openLast x1 x2 x3 B.exec B.bytes hml (findClass_of_methodNamed B.named) (atoms_spec (ws := Cond.code yX1_addPlace cX1_addPlace 4 none :: LW) B.pre) hG (fun q h => Or.inr h) (fun o0 o1 o2 o3 o4 H locs ls pc hP hD hS hF hdg => W.vret B.exec B.bytes hr (fun t ht hW => ⟨⟨(o0, o1, o2, o3, o4), rfl, hF.symm, by rw [ht]; exact hP, hD⟩, hS.F ht⟩) hS.2.2 hdg) ls hl hP hD hok rfl
abbrev wd_X1_openBetween (cy : Nat → ClassId) (a_t : Nat) (a_t_openFirst : Nat) (a_t_openLast : Nat) (z_t_people : Value) (z_t_sessions : Value) (z_t_forgetTenths : Value) (z_t_ownKeys : Value) (z_t_person : Value) (z_t_first : Value) (z_t_last : Value) (z_t_minutes : Value) (z_t_risk : Value) (z_t_homeMinutes : Value) (z_t_beginning : Value) (z_t_ending : Value) (z_t_comer : Value) (z_t_nextComer : Value) (t_places : Int32) (t_openFirst : Nat → Int32) (t_openLast : Nat → Int32) : va_W := [(a_t, .inr (1, [z_t_people, z_t_sessions, .int t_places, z_t_forgetTenths, z_t_ownKeys, z_t_person, z_t_first, z_t_last, z_t_minutes, z_t_risk, .ref a_t_openFirst, .ref a_t_openLast, z_t_homeMinutes, z_t_beginning, z_t_ending, z_t_comer, z_t_nextComer])), (a_t_openFirst, .inl (cy 1, 4, .inl t_openFirst)), (a_t_openLast, .inl (cy 1, 4, .inl t_openLast))]
noncomputable def F_X1_openBetween (t_places : Int32) (t_openFirst : Nat → Int32) (t_openLast : Nat → Int32) (x1 : Int32) (x2 : Int32) (x3 : Int32) : (Nat → Int32) × (Nat → Int32) := (if (F_X1_isPlace t_places x1) = (0 : Int32) then (t_openFirst, t_openLast) else ((upd t_openFirst x1.toNatClampNeg x2), (upd t_openLast x1.toNatClampNeg x3)))
def ok_X1_openBetween (t_places : Int32) (x1 : Int32) : Prop := (¬ ((F_X1_isPlace t_places x1) = (0 : Int32)) → (vp_in x1 4) ∧ (vp_in x1 4))
set_option maxHeartbeats 4000000 in
set_option maxRecDepth 100000 in
theorem w_X1_openBetween {p : Program} {l : Launch} {e : Env} {s : State} {m : MethodId} {args : Array Value} {below : List Frame} {meth : Method} {c : Code} {D : va_G} {cy : Nat → ClassId} {A : Nat → Prop} {QQ : State → Prop} {FV : (Nat → Int32) × (Nat → Int32)} (a_t : Nat) (a_t_openFirst : Nat) (a_t_openLast : Nat) (z_t_people : Value) (z_t_sessions : Value) (z_t_forgetTenths : Value) (z_t_ownKeys : Value) (z_t_person : Value) (z_t_first : Value) (z_t_last : Value) (z_t_minutes : Value) (z_t_risk : Value) (z_t_homeMinutes : Value) (z_t_beginning : Value) (z_t_ending : Value) (z_t_comer : Value) (z_t_nextComer : Value) (t_places : Int32) (t_openFirst : Nat → Int32) (t_openLast : Nat → Int32) (x1 : Int32) (x2 : Int32) (x3 : Int32) (hx : p.tables.exec = Jvm.exec) (hb : c.code = cX1_openBetween) (hml : c.maxLocals = 4) (hown : s.vm.findClass RX1 = some m.cls) (hts : ∀ w ∈ Cond.code yX1_openBetween cX1_openBetween 4 none :: LW, w.before args s = true) (hG : GW D cy s) (hA : ∀ q, s.heap.size ≤ q → A q) (hret : ∀ (o0 : Nat → Int32) (o1 : Nat → Int32) (H : Heap) (locs : List Loc) (ls : Array Slot) (pc : Nat), va_P D vwCl (wd_X1_openBetween cy a_t a_t_openFirst a_t_openLast z_t_people z_t_sessions z_t_forgetTenths z_t_ownKeys z_t_person z_t_first z_t_last z_t_minutes z_t_risk z_t_homeMinutes z_t_beginning z_t_ending z_t_comer z_t_nextComer t_places o0 o1) H → va_D A (wd_X1_openBetween cy a_t a_t_openFirst a_t_openLast z_t_people z_t_sessions z_t_forgetTenths z_t_ownKeys z_t_person z_t_first z_t_last z_t_minutes z_t_risk z_t_homeMinutes z_t_beginning z_t_ending z_t_comer z_t_nextComer t_places o0 o1) → va_S A s.heap H locs → FV = (o0, o1) → decode cX1_openBetween pc = .ok (.return_, 1) → W p l e (rmk 1 21) s m args below meth c H locs 0 0 QQ (F0 m pc ls [])) (ls : Array Slot) (hl : lv_has ls 4 [(0, .ref a_t), (1, .int x1), (2, .int x2), (3, .int x3)]) (hP : va_P D vwCl (wd_X1_openBetween cy a_t a_t_openFirst a_t_openLast z_t_people z_t_sessions z_t_forgetTenths z_t_ownKeys z_t_person z_t_first z_t_last z_t_minutes z_t_risk z_t_homeMinutes z_t_beginning z_t_ending z_t_comer z_t_nextComer t_places t_openFirst t_openLast) s.heap) (hD : va_D A (wd_X1_openBetween cy a_t a_t_openFirst a_t_openLast z_t_people z_t_sessions z_t_forgetTenths z_t_ownKeys z_t_person z_t_first z_t_last z_t_minutes z_t_risk z_t_homeMinutes z_t_beginning z_t_ending z_t_comer z_t_nextComer t_places t_openFirst t_openLast)) (hok : (ok_X1_openBetween t_places x1)) (hR : FV = (F_X1_openBetween t_places t_openFirst t_openLast x1 x2 x3)) : W p l e (rmk 1 21) s m args below meth c s.heap [] 0 0 QQ (F0 m 0 ls []) := by
  have hw : ∀ w ∈ LW, w.before args s = true := fun w h => hts w (List.mem_cons_of_mem _ h)
  have hK := hG.1
  have hS : va_S A s.heap s.heap [] := va_S.rf
  unfold F_X1_openBetween at hR
  unfold ok_X1_openBetween at hok
  refine lv_aload_n hx hb dX1_openBetween_0 rfl (lv_at hl 0 rfl) ?_
  refine lv_iload_n hx hb dX1_openBetween_1 rfl (lv_at hl 1 rfl) ?_
  refine rdIV (As := [.int x1]) (rest := []) hx hb hml hown hts hG hP k_X1_73 (c_X1_isPlace (l := l) (D := D) (cy := cy) a_t z_t_people z_t_sessions z_t_forgetTenths z_t_ownKeys z_t_person z_t_first z_t_last z_t_minutes z_t_risk (.ref a_t_openFirst) (.ref a_t_openLast) z_t_homeMinutes z_t_beginning z_t_ending z_t_comer z_t_nextComer t_places x1) ⟨Nat.le_of_ble_eq_true rfl, Nat.le_of_ble_eq_true rfl⟩ [0] rfl 0 rfl rfl rfl rfl hl.1 rfl (Nat.le_of_ble_eq_true rfl) ⟨Nat.zero_le _, Nat.zero_le _⟩ dX1_openBetween_2 ?_
  refine lv_if_eq (tgt := 22) hx hb dX1_openBetween_5 (by decide) (fun c_5 => ?_) (fun c_5 => ?_)
  · replace hR := bp hR c_5
    exact hret t_openFirst t_openLast _ _ _ _ hP hD hS hR dX1_openBetween_22
  · replace hR := bn hR c_5
    replace hok := hok c_5
    refine lv_aload_n hx hb dX1_openBetween_8 rfl (lv_at hl 0 rfl) ?_
    refine g_X1_43 hx hb hw hown hK hP 0 rfl rfl dX1_openBetween_9 ?_
    refine lv_iload_n hx hb dX1_openBetween_12 rfl (lv_at hl 1 rfl) ?_
    refine lv_iload_n hx hb dX1_openBetween_13 rfl (lv_at hl 2 rfl) ?_
    obtain ⟨h_14_0, hok⟩ := hok
    refine va_iast hx hb hK hP hD hS 1 1 rfl rfl h_14_0 dX1_openBetween_14 (fun H locs hP hD hS => ?_)
    replace hP : va_P D vwCl (wd_X1_openBetween cy a_t a_t_openFirst a_t_openLast z_t_people z_t_sessions z_t_forgetTenths z_t_ownKeys z_t_person z_t_first z_t_last z_t_minutes z_t_risk z_t_homeMinutes z_t_beginning z_t_ending z_t_comer z_t_nextComer t_places (upd t_openFirst x1.toNatClampNeg x2) t_openLast) H := hP
    replace hD : va_D A (wd_X1_openBetween cy a_t a_t_openFirst a_t_openLast z_t_people z_t_sessions z_t_forgetTenths z_t_ownKeys z_t_person z_t_first z_t_last z_t_minutes z_t_risk z_t_homeMinutes z_t_beginning z_t_ending z_t_comer z_t_nextComer t_places (upd t_openFirst x1.toNatClampNeg x2) t_openLast) := hD
    refine lv_aload_n hx hb dX1_openBetween_15 rfl (lv_at hl 0 rfl) ?_
    refine g_X1_46 hx hb hw hown hK hP 0 rfl rfl dX1_openBetween_16 ?_
    refine lv_iload_n hx hb dX1_openBetween_19 rfl (lv_at hl 1 rfl) ?_
    refine lv_iload_n hx hb dX1_openBetween_20 rfl (lv_at hl 3 rfl) ?_
    have h_21_0 := hok
    refine va_iast hx hb hK hP hD hS 2 1 rfl rfl h_21_0 dX1_openBetween_21 (fun H locs hP hD hS => ?_)
    replace hP : va_P D vwCl (wd_X1_openBetween cy a_t a_t_openFirst a_t_openLast z_t_people z_t_sessions z_t_forgetTenths z_t_ownKeys z_t_person z_t_first z_t_last z_t_minutes z_t_risk z_t_homeMinutes z_t_beginning z_t_ending z_t_comer z_t_nextComer t_places (upd t_openFirst x1.toNatClampNeg x2) (upd t_openLast x1.toNatClampNeg x3)) H := hP
    replace hD : va_D A (wd_X1_openBetween cy a_t a_t_openFirst a_t_openLast z_t_people z_t_sessions z_t_forgetTenths z_t_ownKeys z_t_person z_t_first z_t_last z_t_minutes z_t_risk z_t_homeMinutes z_t_beginning z_t_ending z_t_comer z_t_nextComer t_places (upd t_openFirst x1.toNatClampNeg x2) (upd t_openLast x1.toNatClampNeg x3)) := hD
    exact hret (upd t_openFirst x1.toNatClampNeg x2) (upd t_openLast x1.toNatClampNeg x3) _ _ _ _ hP hD hS hR dX1_openBetween_22
set_option maxHeartbeats 1000000 in
set_option maxRecDepth 100000 in
theorem c_X1_openBetween {l : Launch} {D : va_G} {cy : Nat → ClassId} (a_t : Nat) (a_t_openFirst : Nat) (a_t_openLast : Nat) (z_t_people : Value) (z_t_sessions : Value) (z_t_forgetTenths : Value) (z_t_ownKeys : Value) (z_t_person : Value) (z_t_first : Value) (z_t_last : Value) (z_t_minutes : Value) (z_t_risk : Value) (z_t_homeMinutes : Value) (z_t_beginning : Value) (z_t_ending : Value) (z_t_comer : Value) (z_t_nextComer : Value) (t_places : Int32) (t_openFirst : Nat → Int32) (t_openLast : Nat → Int32) (x1 : Int32) (x2 : Int32) (x3 : Int32) (sz : Nat) (hok : (ok_X1_openBetween t_places x1)) : WrV (S := (Nat → Int32) × (Nat → Int32)) l yX1_openBetween cX1_openBetween 4 none 1 21 D cy [.ref a_t, .int x1, .int x2, .int x3] (wd_X1_openBetween cy a_t a_t_openFirst a_t_openLast z_t_people z_t_sessions z_t_forgetTenths z_t_ownKeys z_t_person z_t_first z_t_last z_t_minutes z_t_risk z_t_homeMinutes z_t_beginning z_t_ending z_t_comer z_t_nextComer t_places t_openFirst t_openLast) (fun u => (wd_X1_openBetween cy a_t a_t_openFirst a_t_openLast z_t_people z_t_sessions z_t_forgetTenths z_t_ownKeys z_t_person z_t_first z_t_last z_t_minutes z_t_risk z_t_homeMinutes z_t_beginning z_t_ending z_t_comer z_t_nextComer t_places u.1 u.2)) (F_X1_openBetween t_places t_openFirst t_openLast x1 x2 x3) sz := by
  refine Met.ofW (cc := cX1_openBetween) (maxL := 4) (ret := none) (by decide) rfl ?_
  intro p e s m args below meth c s₁ B hml hv
  obtain ⟨rfl, hsz, hP, hG, hD0⟩ := hv
  subst hsz
  have hD := hD0.self (sz := s.heap.size)
  have hr := B.returns
  have hlocks := B.notSynchronized
  have hl := lv_entry ([.ref a_t, .int x1, .int x2, .int x3]) (n := 4) (Nat.le_of_ble_eq_true rfl)
  rw [lg_entry_eq]
  generalize (lg_sl ([.ref a_t, .int x1, .int x2, .int x3]) ++ List.replicate (4 - (lg_sl ([.ref a_t, .int x1, .int x2, .int x3])).length) Slot.unset).toArray = ls at hl ⊢
  exact w_X1_openBetween a_t a_t_openFirst a_t_openLast z_t_people z_t_sessions z_t_forgetTenths z_t_ownKeys z_t_person z_t_first z_t_last z_t_minutes z_t_risk z_t_homeMinutes z_t_beginning z_t_ending z_t_comer z_t_nextComer t_places t_openFirst t_openLast x1 x2 x3 B.exec B.bytes hml (findClass_of_methodNamed B.named) (atoms_spec (ws := Cond.code yX1_openBetween cX1_openBetween 4 none :: LW) B.pre) hG (fun q h => Or.inr h) (fun o0 o1 H locs ls pc hP hD hS hF hdg => W.vret B.exec B.bytes hr (fun t ht hW => ⟨⟨(o0, o1), rfl, hF.symm, by rw [ht]; exact hP, hD⟩, hS.F ht⟩) hS.2.2 hdg) ls hl hP hD hok rfl
abbrev wd_X1_mayBegin (cy : Nat → ClassId) (a_t : Nat) (a_t_person : Nat) (a_t_first : Nat) (a_t_last : Nat) (z_t_people : Value) (z_t_places : Value) (z_t_forgetTenths : Value) (z_t_ownKeys : Value) (z_t_minutes : Value) (z_t_risk : Value) (z_t_openFirst : Value) (z_t_openLast : Value) (z_t_homeMinutes : Value) (z_t_beginning : Value) (z_t_ending : Value) (z_t_comer : Value) (z_t_nextComer : Value) (t_sessions : Int32) (t_person : Nat → Int32) (t_first : Nat → Int32) (t_last : Nat → Int32) : va_W := [(a_t, .inr (1, [z_t_people, .int t_sessions, z_t_places, z_t_forgetTenths, z_t_ownKeys, .ref a_t_person, .ref a_t_first, .ref a_t_last, z_t_minutes, z_t_risk, z_t_openFirst, z_t_openLast, z_t_homeMinutes, z_t_beginning, z_t_ending, z_t_comer, z_t_nextComer])), (a_t_person, .inl (cy 1, 8, .inl t_person)), (a_t_first, .inl (cy 1, 8, .inl t_first)), (a_t_last, .inl (cy 1, 8, .inl t_last))]
noncomputable def F_X1_mayBegin_b105 : Int32 := (1 : Int32)
noncomputable def F_X1_mayBegin_L44 (t_sessions : Int32) (t_person : Nat → Int32) (t_first : Nat → Int32) (t_last : Nat → Int32) (x1 : Int32) (x2 : Int32) (kx : Int32) (v3 : Int32) (n : Nat) : Int32 → Int32 := Nat.rec (motive := fun _ => Int32 → Int32) (fun _ => (0 : Int32)) (fun _ ih v4 => (if t_sessions ≤ v4 then kx else (if v4 = x1 then (ih (v4 + (1 : Int32))) else (if (t_person v4.toNatClampNeg) = (t_person x1.toNatClampNeg) then (if v3 < (t_first v4.toNatClampNeg) then (ih (v4 + (1 : Int32))) else (if (t_last v4.toNatClampNeg) < x2 then (ih (v4 + (1 : Int32))) else (0 : Int32))) else (ih (v4 + (1 : Int32))))))) n
theorem F_X1_mayBegin_L44_s {t_sessions : Int32} {t_person : Nat → Int32} {t_first : Nat → Int32} {t_last : Nat → Int32} {x1 : Int32} {x2 : Int32} {kx : Int32} {v3 : Int32} {n : Nat} {v4 : Int32} : F_X1_mayBegin_L44 t_sessions t_person t_first t_last x1 x2 kx v3 (n + 1) v4 = (if t_sessions ≤ v4 then kx else (if v4 = x1 then ((F_X1_mayBegin_L44 t_sessions t_person t_first t_last x1 x2 kx v3 n) (v4 + (1 : Int32))) else (if (t_person v4.toNatClampNeg) = (t_person x1.toNatClampNeg) then (if v3 < (t_first v4.toNatClampNeg) then ((F_X1_mayBegin_L44 t_sessions t_person t_first t_last x1 x2 kx v3 n) (v4 + (1 : Int32))) else (if (t_last v4.toNatClampNeg) < x2 then ((F_X1_mayBegin_L44 t_sessions t_person t_first t_last x1 x2 kx v3 n) (v4 + (1 : Int32))) else (0 : Int32))) else ((F_X1_mayBegin_L44 t_sessions t_person t_first t_last x1 x2 kx v3 n) (v4 + (1 : Int32)))))) := rfl
def ok_X1_mayBegin_L44 (t_sessions : Int32) (t_person : Nat → Int32) (t_first : Nat → Int32) (t_last : Nat → Int32) (x1 : Int32) (x2 : Int32) (v3 : Int32) (n : Nat) : Int32 → Prop := Nat.rec (motive := fun _ => Int32 → Prop) (fun _ => False) (fun _ oih v4 => (¬ (t_sessions ≤ v4) → ((v4 = x1 → (oih (v4 + (1 : Int32)))) ∧ (¬ (v4 = x1) → (vp_in v4 8) ∧ (vp_in x1 8) ∧ (((t_person v4.toNatClampNeg) = (t_person x1.toNatClampNeg) → (vp_in v4 8) ∧ ((v3 < (t_first v4.toNatClampNeg) → (oih (v4 + (1 : Int32)))) ∧ (¬ (v3 < (t_first v4.toNatClampNeg)) → (vp_in v4 8) ∧ ((t_last v4.toNatClampNeg) < x2 → (oih (v4 + (1 : Int32))))))) ∧ (¬ ((t_person v4.toNatClampNeg) = (t_person x1.toNatClampNeg)) → (oih (v4 + (1 : Int32))))))))) n
theorem ok_X1_mayBegin_L44_s {t_sessions : Int32} {t_person : Nat → Int32} {t_first : Nat → Int32} {t_last : Nat → Int32} {x1 : Int32} {x2 : Int32} {v3 : Int32} {n : Nat} {v4 : Int32} : ok_X1_mayBegin_L44 t_sessions t_person t_first t_last x1 x2 v3 (n + 1) v4 ↔ ((¬ (t_sessions ≤ v4) → ((v4 = x1 → ((ok_X1_mayBegin_L44 t_sessions t_person t_first t_last x1 x2 v3 n) (v4 + (1 : Int32)))) ∧ (¬ (v4 = x1) → (vp_in v4 8) ∧ (vp_in x1 8) ∧ (((t_person v4.toNatClampNeg) = (t_person x1.toNatClampNeg) → (vp_in v4 8) ∧ ((v3 < (t_first v4.toNatClampNeg) → ((ok_X1_mayBegin_L44 t_sessions t_person t_first t_last x1 x2 v3 n) (v4 + (1 : Int32)))) ∧ (¬ (v3 < (t_first v4.toNatClampNeg)) → (vp_in v4 8) ∧ ((t_last v4.toNatClampNeg) < x2 → ((ok_X1_mayBegin_L44 t_sessions t_person t_first t_last x1 x2 v3 n) (v4 + (1 : Int32))))))) ∧ (¬ ((t_person v4.toNatClampNeg) = (t_person x1.toNatClampNeg)) → ((ok_X1_mayBegin_L44 t_sessions t_person t_first t_last x1 x2 v3 n) (v4 + (1 : Int32))))))))) := Iff.rfl
noncomputable def F_X1_mayBegin (t_sessions : Int32) (t_person : Nat → Int32) (t_first : Nat → Int32) (t_last : Nat → Int32) (x1 : Int32) (x2 : Int32) : Int32 := (if (F_X1_isSession t_sessions x1) = (0 : Int32) then (0 : Int32) else (if (F_X11_isHour x2) = (0 : Int32) then (0 : Int32) else (if ((x2 + (t_last x1.toNatClampNeg)) - (t_first x1.toNatClampNeg)) < (10 : Int32) then (F_X1_mayBegin_L44 t_sessions t_person t_first t_last x1 x2 (F_X1_mayBegin_b105) ((x2 + (t_last x1.toNatClampNeg)) - (t_first x1.toNatClampNeg)) FU (0 : Int32)) else (0 : Int32))))
def ok_X1_mayBegin (t_sessions : Int32) (t_person : Nat → Int32) (t_first : Nat → Int32) (t_last : Nat → Int32) (x1 : Int32) (x2 : Int32) : Prop := (¬ ((F_X1_isSession t_sessions x1) = (0 : Int32)) → (¬ ((F_X11_isHour x2) = (0 : Int32)) → (vp_in x1 8) ∧ (vp_in x1 8) ∧ (((x2 + (t_last x1.toNatClampNeg)) - (t_first x1.toNatClampNeg)) < (10 : Int32) → (ok_X1_mayBegin_L44 t_sessions t_person t_first t_last x1 x2 ((x2 + (t_last x1.toNatClampNeg)) - (t_first x1.toNatClampNeg)) FU (0 : Int32)))))
set_option maxHeartbeats 4000000 in
set_option maxRecDepth 100000 in
theorem w_X1_mayBegin {p : Program} {l : Launch} {e : Env} {s : State} {m : MethodId} {args : Array Value} {below : List Frame} {meth : Method} {c : Code} {D : va_G} {cy : Nat → ClassId} {QQ : State → Prop} {FV : Int32} (a_t : Nat) (a_t_person : Nat) (a_t_first : Nat) (a_t_last : Nat) (z_t_people : Value) (z_t_places : Value) (z_t_forgetTenths : Value) (z_t_ownKeys : Value) (z_t_minutes : Value) (z_t_risk : Value) (z_t_openFirst : Value) (z_t_openLast : Value) (z_t_homeMinutes : Value) (z_t_beginning : Value) (z_t_ending : Value) (z_t_comer : Value) (z_t_nextComer : Value) (t_sessions : Int32) (t_person : Nat → Int32) (t_first : Nat → Int32) (t_last : Nat → Int32) (x1 : Int32) (x2 : Int32) (hx : p.tables.exec = Jvm.exec) (hb : c.code = cX1_mayBegin) (hml : c.maxLocals = 5) (hown : s.vm.findClass RX1 = some m.cls) (hts : ∀ w ∈ Cond.code yX1_mayBegin cX1_mayBegin 5 (some .boolean) :: LW, w.before args s = true) (hG : GW D cy s) (hret : ∀ (r : Int32) (ls : Array Slot) (pc : Nat), FV = r → narrow .boolean (.int r) = .int r → decode cX1_mayBegin pc = .ok (.ireturn, 1) → W p l e (rmk 1 21) s m args below meth c s.heap [] 0 0 QQ (F0 m pc ls [.int r])) (ls : Array Slot) (hl : lv_has ls 5 [(0, .ref a_t), (1, .int x1), (2, .int x2)]) (hP : va_P D vwCl (wd_X1_mayBegin cy a_t a_t_person a_t_first a_t_last z_t_people z_t_places z_t_forgetTenths z_t_ownKeys z_t_minutes z_t_risk z_t_openFirst z_t_openLast z_t_homeMinutes z_t_beginning z_t_ending z_t_comer z_t_nextComer t_sessions t_person t_first t_last) s.heap) (hok : (ok_X1_mayBegin t_sessions t_person t_first t_last x1 x2)) (hR : FV = (F_X1_mayBegin t_sessions t_person t_first t_last x1 x2)) : W p l e (rmk 1 21) s m args below meth c s.heap [] 0 0 QQ (F0 m 0 ls []) := by
  have hw : ∀ w ∈ LW, w.before args s = true := fun w h => hts w (List.mem_cons_of_mem _ h)
  have hK := hG.1
  unfold F_X1_mayBegin at hR
  unfold ok_X1_mayBegin at hok
  refine lv_aload_n hx hb dX1_mayBegin_0 rfl (lv_at hl 0 rfl) ?_
  refine lv_iload_n hx hb dX1_mayBegin_1 rfl (lv_at hl 1 rfl) ?_
  refine rdIV (As := [.int x1]) (rest := []) hx hb hml hown hts hG hP k_X1_80 (c_X1_isSession (l := l) (D := D) (cy := cy) a_t z_t_people z_t_places z_t_forgetTenths z_t_ownKeys (.ref a_t_person) (.ref a_t_first) (.ref a_t_last) z_t_minutes z_t_risk z_t_openFirst z_t_openLast z_t_homeMinutes z_t_beginning z_t_ending z_t_comer z_t_nextComer t_sessions x1) ⟨Nat.le_of_ble_eq_true rfl, Nat.le_of_ble_eq_true rfl⟩ [0] rfl 0 rfl rfl rfl rfl hl.1 rfl (Nat.le_of_ble_eq_true rfl) ⟨Nat.zero_le _, Nat.zero_le _⟩ dX1_mayBegin_2 ?_
  refine lv_if_eq (tgt := 15) hx hb dX1_mayBegin_5 (by decide) (fun c_5 => ?_) (fun c_5 => ?_)
  · replace hR := bp hR c_5
    refine lv_iconst (v := 0) hx hb dX1_mayBegin_15 (by decide) ?_
    exact hret (0 : Int32) _ _ hR rfl dX1_mayBegin_16
  · replace hR := bn hR c_5
    replace hok := hok c_5
    refine lv_iload_n hx hb dX1_mayBegin_8 rfl (lv_at hl 2 rfl) ?_
    refine rdIN (As := [.int x2]) (rest := []) hx hb hml hown hts hG hP k_X1_83 (c_X11_isHour (l := l) (D := D) (cy := cy) x2) ⟨Nat.le_of_ble_eq_true rfl, Nat.le_of_ble_eq_true rfl⟩ [] rfl rfl hl.1 rfl (Nat.le_of_ble_eq_true rfl) ⟨Nat.zero_le _, Nat.zero_le _⟩ dX1_mayBegin_9 ?_
    refine lv_if_ne (tgt := 17) hx hb dX1_mayBegin_12 (by decide) (fun c_12 => ?_) (fun c_12 => ?_)
    · replace hR := bn hR c_12
      replace hok := hok c_12
      refine lv_iload_n hx hb dX1_mayBegin_17 rfl (lv_at hl 2 rfl) ?_
      refine lv_aload_n hx hb dX1_mayBegin_18 rfl (lv_at hl 0 rfl) ?_
      refine g_X1_34 hx hb hw hown hK hP 0 rfl rfl dX1_mayBegin_19 ?_
      refine lv_iload_n hx hb dX1_mayBegin_22 rfl (lv_at hl 1 rfl) ?_
      obtain ⟨h_23_0, hok⟩ := hok
      refine va_iald hx hb hK hP 3 1 rfl rfl h_23_0 dX1_mayBegin_23 ?_
      refine lv_iadd hx hb dX1_mayBegin_24 ?_
      refine lv_aload_n hx hb dX1_mayBegin_25 rfl (lv_at hl 0 rfl) ?_
      refine g_X1_31 hx hb hw hown hK hP 0 rfl rfl dX1_mayBegin_26 ?_
      refine lv_iload_n hx hb dX1_mayBegin_29 rfl (lv_at hl 1 rfl) ?_
      obtain ⟨h_30_0, hok⟩ := hok
      refine va_iald hx hb hK hP 2 1 rfl rfl h_30_0 dX1_mayBegin_30 ?_
      refine lv_isub hx hb dX1_mayBegin_31 ?_
      refine lv_istore_n (lv' := [(3, .int ((x2 + (t_last x1.toNatClampNeg)) - (t_first x1.toNatClampNeg))), (0, .ref a_t), (1, .int x1), (2, .int x2)]) hx hb dX1_mayBegin_32 rfl hl (Nat.le_of_ble_eq_true rfl) rfl (fun ls hl => ?_)
      refine lv_iload_n hx hb dX1_mayBegin_33 rfl (lv_at hl 0 rfl) ?_
      refine lv_bipush (v := 10) hx hb dX1_mayBegin_34 (by decide) ?_
      refine lv_icmp_lt (tgt := 41) hx hb dX1_mayBegin_36 (by decide) (fun c_36 => ?_) (fun c_36 => ?_)
      · replace hR := bp hR c_36
        replace hok := hok c_36
        refine lv_iconst (v := 0) hx hb dX1_mayBegin_41 (by decide) ?_
        refine lv_istore (lv' := [(4, .int (0 : Int32)), (3, .int ((x2 + (t_last x1.toNatClampNeg)) - (t_first x1.toNatClampNeg))), (0, .ref a_t), (1, .int x1), (2, .int x2)]) hx hb dX1_mayBegin_42 hl (Nat.le_of_ble_eq_true rfl) rfl (fun ls hl => ?_)
        have L_44 : ∀ (n_44 : Nat) (v4_44 : Int32) (ls : Array Slot), lv_has ls 5 [(0, .ref a_t), (1, .int x1), (2, .int x2), (3, .int ((x2 + (t_last x1.toNatClampNeg)) - (t_first x1.toNatClampNeg))), (4, .int v4_44)] → (ok_X1_mayBegin_L44 t_sessions t_person t_first t_last x1 x2 ((x2 + (t_last x1.toNatClampNeg)) - (t_first x1.toNatClampNeg)) n_44 v4_44) → FV = (F_X1_mayBegin_L44 t_sessions t_person t_first t_last x1 x2 (F_X1_mayBegin_b105) ((x2 + (t_last x1.toNatClampNeg)) - (t_first x1.toNatClampNeg)) n_44 v4_44) → (∀  (ls : Array Slot), lv_has ls 5 [] → FV = F_X1_mayBegin_b105 → W p l e (rmk 1 21) s m args below meth c s.heap [] 0 0 QQ (F0 m 105 ls [])) → W p l e (rmk 1 21) s m args below meth c s.heap [] 0 0 QQ (F0 m 44 ls []) := by
          intro n_44
          induction n_44 with
          | zero => intro v4_44 ls hl hok; exact False.elim hok
          | succ n_44 ih44 =>
            intro v4_44 ls hl hok hR hX
            replace hR := hR.trans F_X1_mayBegin_L44_s
            replace hok := ok_X1_mayBegin_L44_s.mp hok
            refine lv_iload hx hb dX1_mayBegin_44 (lv_at hl 4 rfl) ?_
            refine lv_aload_n hx hb dX1_mayBegin_46 rfl (lv_at hl 0 rfl) ?_
            refine g_X1_15 hx hb hw hown hK hP 0 rfl rfl dX1_mayBegin_47 ?_
            refine lv_icmp_ge (tgt := 105) hx hb dX1_mayBegin_50 (by decide) (fun c_50 => ?_) (fun c_50 => ?_)
            · replace hR := bp hR c_50
              exact hX  _ (lv_sub hl [] rfl) hR
            · replace hR := bn hR c_50
              replace hok := hok c_50
              refine lv_iload hx hb dX1_mayBegin_53 (lv_at hl 4 rfl) ?_
              refine lv_iload_n hx hb dX1_mayBegin_55 rfl (lv_at hl 1 rfl) ?_
              refine lv_icmp_eq (tgt := 99) hx hb dX1_mayBegin_56 (by decide) (fun c_56 => ?_) (fun c_56 => ?_)
              · replace hR := bp hR c_56
                replace hok := hok.1 c_56
                refine lv_iinc (v := (v4_44 + (1 : Int32))) (lv' := [(4, .int (v4_44 + (1 : Int32))), (0, .ref a_t), (1, .int x1), (2, .int x2), (3, .int ((x2 + (t_last x1.toNatClampNeg)) - (t_first x1.toNatClampNeg)))]) hx hb dX1_mayBegin_99 hl (k := 4) rfl rfl (Nat.le_of_ble_eq_true rfl) rfl (fun ls hl => ?_)
                refine lv_goto (tgt := 44) hx hb dX1_mayBegin_102 (by decide) ?_
                exact ih44 (v4_44 + (1 : Int32)) _ (lv_sub hl [1, 2, 3, 4, 0] rfl) hok hR hX
              · replace hR := bn hR c_56
                replace hok := hok.2 c_56
                refine lv_aload_n hx hb dX1_mayBegin_59 rfl (lv_at hl 0 rfl) ?_
                refine g_X1_27 hx hb hw hown hK hP 0 rfl rfl dX1_mayBegin_60 ?_
                refine lv_iload hx hb dX1_mayBegin_63 (lv_at hl 4 rfl) ?_
                obtain ⟨h_65_0, hok⟩ := hok
                refine va_iald hx hb hK hP 1 1 rfl rfl h_65_0 dX1_mayBegin_65 ?_
                refine lv_aload_n hx hb dX1_mayBegin_66 rfl (lv_at hl 0 rfl) ?_
                refine g_X1_27 hx hb hw hown hK hP 0 rfl rfl dX1_mayBegin_67 ?_
                refine lv_iload_n hx hb dX1_mayBegin_70 rfl (lv_at hl 1 rfl) ?_
                obtain ⟨h_71_0, hok⟩ := hok
                refine va_iald hx hb hK hP 1 1 rfl rfl h_71_0 dX1_mayBegin_71 ?_
                refine lv_icmp_ne (tgt := 99) hx hb dX1_mayBegin_72 (by decide) (fun c_72 => ?_) (fun c_72 => ?_)
                · replace hR := bn hR c_72
                  replace hok := hok.2 c_72
                  refine lv_iinc (v := (v4_44 + (1 : Int32))) (lv' := [(4, .int (v4_44 + (1 : Int32))), (0, .ref a_t), (1, .int x1), (2, .int x2), (3, .int ((x2 + (t_last x1.toNatClampNeg)) - (t_first x1.toNatClampNeg)))]) hx hb dX1_mayBegin_99 hl (k := 4) rfl rfl (Nat.le_of_ble_eq_true rfl) rfl (fun ls hl => ?_)
                  refine lv_goto (tgt := 44) hx hb dX1_mayBegin_102 (by decide) ?_
                  exact ih44 (v4_44 + (1 : Int32)) _ (lv_sub hl [1, 2, 3, 4, 0] rfl) hok hR hX
                · replace hR := bp hR c_72
                  replace hok := hok.1 c_72
                  refine lv_aload_n hx hb dX1_mayBegin_75 rfl (lv_at hl 0 rfl) ?_
                  refine g_X1_31 hx hb hw hown hK hP 0 rfl rfl dX1_mayBegin_76 ?_
                  refine lv_iload hx hb dX1_mayBegin_79 (lv_at hl 4 rfl) ?_
                  obtain ⟨h_81_0, hok⟩ := hok
                  refine va_iald hx hb hK hP 2 1 rfl rfl h_81_0 dX1_mayBegin_81 ?_
                  refine lv_iload_n hx hb dX1_mayBegin_82 rfl (lv_at hl 3 rfl) ?_
                  refine lv_icmp_gt (tgt := 99) hx hb dX1_mayBegin_83 (by decide) (fun c_83 => ?_) (fun c_83 => ?_)
                  · replace hR := bp hR c_83
                    replace hok := hok.1 c_83
                    refine lv_iinc (v := (v4_44 + (1 : Int32))) (lv' := [(4, .int (v4_44 + (1 : Int32))), (0, .ref a_t), (1, .int x1), (2, .int x2), (3, .int ((x2 + (t_last x1.toNatClampNeg)) - (t_first x1.toNatClampNeg)))]) hx hb dX1_mayBegin_99 hl (k := 4) rfl rfl (Nat.le_of_ble_eq_true rfl) rfl (fun ls hl => ?_)
                    refine lv_goto (tgt := 44) hx hb dX1_mayBegin_102 (by decide) ?_
                    exact ih44 (v4_44 + (1 : Int32)) _ (lv_sub hl [1, 2, 3, 4, 0] rfl) hok hR hX
                  · replace hR := bn hR c_83
                    replace hok := hok.2 c_83
                    refine lv_iload_n hx hb dX1_mayBegin_86 rfl (lv_at hl 2 rfl) ?_
                    refine lv_aload_n hx hb dX1_mayBegin_87 rfl (lv_at hl 0 rfl) ?_
                    refine g_X1_34 hx hb hw hown hK hP 0 rfl rfl dX1_mayBegin_88 ?_
                    refine lv_iload hx hb dX1_mayBegin_91 (lv_at hl 4 rfl) ?_
                    obtain ⟨h_93_0, hok⟩ := hok
                    refine va_iald hx hb hK hP 3 1 rfl rfl h_93_0 dX1_mayBegin_93 ?_
                    refine lv_icmp_gt (tgt := 99) hx hb dX1_mayBegin_94 (by decide) (fun c_94 => ?_) (fun c_94 => ?_)
                    · replace hR := bp hR c_94
                      replace hok := hok c_94
                      refine lv_iinc (v := (v4_44 + (1 : Int32))) (lv' := [(4, .int (v4_44 + (1 : Int32))), (0, .ref a_t), (1, .int x1), (2, .int x2), (3, .int ((x2 + (t_last x1.toNatClampNeg)) - (t_first x1.toNatClampNeg)))]) hx hb dX1_mayBegin_99 hl (k := 4) rfl rfl (Nat.le_of_ble_eq_true rfl) rfl (fun ls hl => ?_)
                      refine lv_goto (tgt := 44) hx hb dX1_mayBegin_102 (by decide) ?_
                      exact ih44 (v4_44 + (1 : Int32)) _ (lv_sub hl [1, 2, 3, 4, 0] rfl) hok hR hX
                    · replace hR := bn hR c_94
                      refine lv_iconst (v := 0) hx hb dX1_mayBegin_97 (by decide) ?_
                      exact hret (0 : Int32) _ _ hR rfl dX1_mayBegin_98
        refine L_44 FU (0 : Int32) _ (lv_sub hl [2, 3, 4, 1, 0] rfl) hok hR (fun  ls hl hR => ?_)
        unfold F_X1_mayBegin_b105 at hR
        refine lv_iconst (v := 1) hx hb dX1_mayBegin_105 (by decide) ?_
        exact hret (1 : Int32) _ _ hR rfl dX1_mayBegin_106
      · replace hR := bn hR c_36
        refine lv_iconst (v := 0) hx hb dX1_mayBegin_39 (by decide) ?_
        exact hret (0 : Int32) _ _ hR rfl dX1_mayBegin_40
    · replace hR := bp hR c_12
      refine lv_iconst (v := 0) hx hb dX1_mayBegin_15 (by decide) ?_
      exact hret (0 : Int32) _ _ hR rfl dX1_mayBegin_16
set_option maxHeartbeats 1000000 in
set_option maxRecDepth 100000 in
theorem c_X1_mayBegin {l : Launch} {D : va_G} {cy : Nat → ClassId} (a_t : Nat) (a_t_person : Nat) (a_t_first : Nat) (a_t_last : Nat) (z_t_people : Value) (z_t_places : Value) (z_t_forgetTenths : Value) (z_t_ownKeys : Value) (z_t_minutes : Value) (z_t_risk : Value) (z_t_openFirst : Value) (z_t_openLast : Value) (z_t_homeMinutes : Value) (z_t_beginning : Value) (z_t_ending : Value) (z_t_comer : Value) (z_t_nextComer : Value) (t_sessions : Int32) (t_person : Nat → Int32) (t_first : Nat → Int32) (t_last : Nat → Int32) (x1 : Int32) (x2 : Int32) (hok : (ok_X1_mayBegin t_sessions t_person t_first t_last x1 x2)) : RdI l yX1_mayBegin cX1_mayBegin 5 (some .boolean) 1 21 D cy [.ref a_t, .int x1, .int x2] (wd_X1_mayBegin cy a_t a_t_person a_t_first a_t_last z_t_people z_t_places z_t_forgetTenths z_t_ownKeys z_t_minutes z_t_risk z_t_openFirst z_t_openLast z_t_homeMinutes z_t_beginning z_t_ending z_t_comer z_t_nextComer t_sessions t_person t_first t_last) (F_X1_mayBegin t_sessions t_person t_first t_last x1 x2) := by
  refine Met.ofW (cc := cX1_mayBegin) (maxL := 5) (ret := (some .boolean)) (by decide) rfl ?_
  intro p e s m args below meth c s₁ B hml hv
  obtain ⟨rfl, hP, hG⟩ := hv
  have hr := B.returns
  have hlocks := B.notSynchronized
  have hl := lv_entry ([.ref a_t, .int x1, .int x2]) (n := 5) (Nat.le_of_ble_eq_true rfl)
  rw [lg_entry_eq]
  generalize (lg_sl ([.ref a_t, .int x1, .int x2]) ++ List.replicate (5 - (lg_sl ([.ref a_t, .int x1, .int x2])).length) Slot.unset).toArray = ls at hl ⊢
  exact w_X1_mayBegin a_t a_t_person a_t_first a_t_last z_t_people z_t_places z_t_forgetTenths z_t_ownKeys z_t_minutes z_t_risk z_t_openFirst z_t_openLast z_t_homeMinutes z_t_beginning z_t_ending z_t_comer z_t_nextComer t_sessions t_person t_first t_last x1 x2 B.exec B.bytes hml (findClass_of_methodNamed B.named) (atoms_spec (ws := Cond.code yX1_mayBegin cX1_mayBegin 5 (some .boolean) :: LW) B.pre) hG (fun r ls pc hF hn hdg => W.zret (v := r) B.exec B.bytes hr hn (fun t ht hW => ⟨r, rfl, hF.symm, ht⟩) (fun _ h => absurd h List.not_mem_nil) hdg) ls hl hP hok rfl
abbrev wd_X1_arrange (cy : Nat → ClassId) (a_t : Nat) (a_t_person : Nat) (a_t_first : Nat) (a_t_last : Nat) (a_t_beginning : Nat) (a_t_ending : Nat) (a_t_comer : Nat) (a_t_nextComer : Nat) (z_t_people : Value) (z_t_places : Value) (z_t_forgetTenths : Value) (z_t_ownKeys : Value) (z_t_minutes : Value) (z_t_risk : Value) (z_t_openFirst : Value) (z_t_openLast : Value) (z_t_homeMinutes : Value) (t_sessions : Int32) (t_person : Nat → Int32) (t_first : Nat → Int32) (t_last : Nat → Int32) (t_beginning : Nat → Int32) (t_ending : Nat → Int32) (t_comer : Nat → Int32) (t_nextComer : Nat → Int32) : va_W := [(a_t, .inr (1, [z_t_people, .int t_sessions, z_t_places, z_t_forgetTenths, z_t_ownKeys, .ref a_t_person, .ref a_t_first, .ref a_t_last, z_t_minutes, z_t_risk, z_t_openFirst, z_t_openLast, z_t_homeMinutes, .ref a_t_beginning, .ref a_t_ending, .ref a_t_comer, .ref a_t_nextComer])), (a_t_person, .inl (cy 1, 8, .inl t_person)), (a_t_first, .inl (cy 1, 8, .inl t_first)), (a_t_last, .inl (cy 1, 8, .inl t_last)), (a_t_beginning, .inl (cy 1, 10, .inl t_beginning)), (a_t_ending, .inl (cy 1, 10, .inl t_ending)), (a_t_comer, .inl (cy 1, 10, .inl t_comer)), (a_t_nextComer, .inl (cy 1, 10, .inl t_nextComer))]
noncomputable def F_X1_arrange_b163 (t_beginning : Nat → Int32) (t_ending : Nat → Int32) (t_comer : Nat → Int32) (t_nextComer : Nat → Int32) : (Nat → Int32) × (Nat → Int32) × (Nat → Int32) × (Nat → Int32) := (t_beginning, t_ending, t_comer, t_nextComer)
noncomputable def F_X1_arrange_L123 (t_comer : Nat → Int32) (n : Nat) : (Nat → Int32) → Int32 → Int32 → (Nat → Int32) := Nat.rec (motive := fun _ => (Nat → Int32) → Int32 → Int32 → (Nat → Int32)) (fun _ _ _ => (fun _ => 0)) (fun _ ih t_nextComer v1 v2 => (if v2 < (0 : Int32) then t_nextComer else (if (t_comer (v2 - v2 / (10 : Int32) * (10 : Int32)).toNatClampNeg) = (-9 : Int32) then (ih (upd t_nextComer (v2 - v2 / (10 : Int32) * (10 : Int32)).toNatClampNeg v1) v1 (v2 + (-1 : Int32))) else (ih (upd t_nextComer (v2 - v2 / (10 : Int32) * (10 : Int32)).toNatClampNeg v1) (t_comer (v2 - v2 / (10 : Int32) * (10 : Int32)).toNatClampNeg) (v2 + (-1 : Int32)))))) n
theorem F_X1_arrange_L123_s {t_comer : Nat → Int32} {n : Nat} {t_nextComer : Nat → Int32} {v1 : Int32} {v2 : Int32} : F_X1_arrange_L123 t_comer (n + 1) t_nextComer v1 v2 = (if v2 < (0 : Int32) then t_nextComer else (if (t_comer (v2 - v2 / (10 : Int32) * (10 : Int32)).toNatClampNeg) = (-9 : Int32) then ((F_X1_arrange_L123 t_comer n) (upd t_nextComer (v2 - v2 / (10 : Int32) * (10 : Int32)).toNatClampNeg v1) v1 (v2 + (-1 : Int32))) else ((F_X1_arrange_L123 t_comer n) (upd t_nextComer (v2 - v2 / (10 : Int32) * (10 : Int32)).toNatClampNeg v1) (t_comer (v2 - v2 / (10 : Int32) * (10 : Int32)).toNatClampNeg) (v2 + (-1 : Int32))))) := rfl
def ok_X1_arrange_L123 (t_comer : Nat → Int32) (n : Nat) : (Nat → Int32) → Int32 → Int32 → Prop := Nat.rec (motive := fun _ => (Nat → Int32) → Int32 → Int32 → Prop) (fun _ _ _ => False) (fun _ oih t_nextComer v1 v2 => (¬ (v2 < (0 : Int32)) → (vp_in (v2 - v2 / (10 : Int32) * (10 : Int32)) 10) ∧ (vp_in (v2 - v2 / (10 : Int32) * (10 : Int32)) 10) ∧ (((t_comer (v2 - v2 / (10 : Int32) * (10 : Int32)).toNatClampNeg) = (-9 : Int32) → (oih (upd t_nextComer (v2 - v2 / (10 : Int32) * (10 : Int32)).toNatClampNeg v1) v1 (v2 + (-1 : Int32)))) ∧ (¬ ((t_comer (v2 - v2 / (10 : Int32) * (10 : Int32)).toNatClampNeg) = (-9 : Int32)) → (vp_in (v2 - v2 / (10 : Int32) * (10 : Int32)) 10) ∧ (oih (upd t_nextComer (v2 - v2 / (10 : Int32) * (10 : Int32)).toNatClampNeg v1) (t_comer (v2 - v2 / (10 : Int32) * (10 : Int32)).toNatClampNeg) (v2 + (-1 : Int32))))))) n
theorem ok_X1_arrange_L123_s {t_comer : Nat → Int32} {n : Nat} {t_nextComer : Nat → Int32} {v1 : Int32} {v2 : Int32} : ok_X1_arrange_L123 t_comer (n + 1) t_nextComer v1 v2 ↔ ((¬ (v2 < (0 : Int32)) → (vp_in (v2 - v2 / (10 : Int32) * (10 : Int32)) 10) ∧ (vp_in (v2 - v2 / (10 : Int32) * (10 : Int32)) 10) ∧ (((t_comer (v2 - v2 / (10 : Int32) * (10 : Int32)).toNatClampNeg) = (-9 : Int32) → ((ok_X1_arrange_L123 t_comer n) (upd t_nextComer (v2 - v2 / (10 : Int32) * (10 : Int32)).toNatClampNeg v1) v1 (v2 + (-1 : Int32)))) ∧ (¬ ((t_comer (v2 - v2 / (10 : Int32) * (10 : Int32)).toNatClampNeg) = (-9 : Int32)) → (vp_in (v2 - v2 / (10 : Int32) * (10 : Int32)) 10) ∧ ((ok_X1_arrange_L123 t_comer n) (upd t_nextComer (v2 - v2 / (10 : Int32) * (10 : Int32)).toNatClampNeg v1) (t_comer (v2 - v2 / (10 : Int32) * (10 : Int32)).toNatClampNeg) (v2 + (-1 : Int32))))))) := Iff.rfl
noncomputable def F_X1_arrange_b117 (t_beginning : Nat → Int32) (t_ending : Nat → Int32) (t_comer : Nat → Int32) (t_nextComer : Nat → Int32) : (Nat → Int32) × (Nat → Int32) × (Nat → Int32) × (Nat → Int32) := ((fun (q : (Nat → Int32)) => (F_X1_arrange_b163 t_beginning t_ending t_comer q)) (F_X1_arrange_L123 t_comer FU t_nextComer (-9 : Int32) (19 : Int32)))
def ok_X1_arrange_b117 (t_comer : Nat → Int32) (t_nextComer : Nat → Int32) : Prop := (ok_X1_arrange_L123 t_comer FU t_nextComer (-9 : Int32) (19 : Int32))
noncomputable def F_X1_arrange_L32 (t_person : Nat → Int32) (t_first : Nat → Int32) (t_last : Nat → Int32) (n : Nat) : (Nat → Int32) → (Nat → Int32) → (Nat → Int32) → Int32 → (Nat → Int32) × (Nat → Int32) × (Nat → Int32) := Nat.rec (motive := fun _ => (Nat → Int32) → (Nat → Int32) → (Nat → Int32) → Int32 → (Nat → Int32) × (Nat → Int32) × (Nat → Int32)) (fun _ _ _ _ => ((fun _ => 0), (fun _ => 0), (fun _ => 0))) (fun _ ih t_beginning t_ending t_comer v1 => (if v1 < (0 : Int32) then (t_beginning, t_ending, t_comer) else (if (F_X11_isHour (t_first v1.toNatClampNeg)) = (0 : Int32) then (ih t_beginning t_ending t_comer (v1 + (-1 : Int32))) else (if (F_X11_isHour (t_last v1.toNatClampNeg)) = (0 : Int32) then (ih t_beginning t_ending t_comer (v1 + (-1 : Int32))) else (ih (upd t_beginning (t_first v1.toNatClampNeg).toNatClampNeg ((t_beginning (t_first v1.toNatClampNeg).toNatClampNeg) ||| ((1 : Int32) <<< (v1 &&& (31 : Int32))))) (upd t_ending (t_last v1.toNatClampNeg).toNatClampNeg ((t_ending (t_last v1.toNatClampNeg).toNatClampNeg) ||| ((1 : Int32) <<< (v1 &&& (31 : Int32))))) (upd t_comer (t_first v1.toNatClampNeg).toNatClampNeg (t_person v1.toNatClampNeg)) (v1 + (-1 : Int32))))))) n
theorem F_X1_arrange_L32_s {t_person : Nat → Int32} {t_first : Nat → Int32} {t_last : Nat → Int32} {n : Nat} {t_beginning : Nat → Int32} {t_ending : Nat → Int32} {t_comer : Nat → Int32} {v1 : Int32} : F_X1_arrange_L32 t_person t_first t_last (n + 1) t_beginning t_ending t_comer v1 = (if v1 < (0 : Int32) then (t_beginning, t_ending, t_comer) else (if (F_X11_isHour (t_first v1.toNatClampNeg)) = (0 : Int32) then ((F_X1_arrange_L32 t_person t_first t_last n) t_beginning t_ending t_comer (v1 + (-1 : Int32))) else (if (F_X11_isHour (t_last v1.toNatClampNeg)) = (0 : Int32) then ((F_X1_arrange_L32 t_person t_first t_last n) t_beginning t_ending t_comer (v1 + (-1 : Int32))) else ((F_X1_arrange_L32 t_person t_first t_last n) (upd t_beginning (t_first v1.toNatClampNeg).toNatClampNeg ((t_beginning (t_first v1.toNatClampNeg).toNatClampNeg) ||| ((1 : Int32) <<< (v1 &&& (31 : Int32))))) (upd t_ending (t_last v1.toNatClampNeg).toNatClampNeg ((t_ending (t_last v1.toNatClampNeg).toNatClampNeg) ||| ((1 : Int32) <<< (v1 &&& (31 : Int32))))) (upd t_comer (t_first v1.toNatClampNeg).toNatClampNeg (t_person v1.toNatClampNeg)) (v1 + (-1 : Int32)))))) := rfl
def ok_X1_arrange_L32 (t_person : Nat → Int32) (t_first : Nat → Int32) (t_last : Nat → Int32) (n : Nat) : (Nat → Int32) → (Nat → Int32) → (Nat → Int32) → Int32 → Prop := Nat.rec (motive := fun _ => (Nat → Int32) → (Nat → Int32) → (Nat → Int32) → Int32 → Prop) (fun _ _ _ _ => False) (fun _ oih t_beginning t_ending t_comer v1 => (¬ (v1 < (0 : Int32)) → (vp_in v1 8) ∧ (((F_X11_isHour (t_first v1.toNatClampNeg)) = (0 : Int32) → (oih t_beginning t_ending t_comer (v1 + (-1 : Int32)))) ∧ (¬ ((F_X11_isHour (t_first v1.toNatClampNeg)) = (0 : Int32)) → (vp_in v1 8) ∧ (((F_X11_isHour (t_last v1.toNatClampNeg)) = (0 : Int32) → (oih t_beginning t_ending t_comer (v1 + (-1 : Int32)))) ∧ (¬ ((F_X11_isHour (t_last v1.toNatClampNeg)) = (0 : Int32)) → (vp_in v1 8) ∧ (vp_in (t_first v1.toNatClampNeg) 10) ∧ (vp_in (t_first v1.toNatClampNeg) 10) ∧ (vp_in v1 8) ∧ (vp_in (t_last v1.toNatClampNeg) 10) ∧ (vp_in (t_last v1.toNatClampNeg) 10) ∧ (vp_in v1 8) ∧ (vp_in v1 8) ∧ (vp_in (t_first v1.toNatClampNeg) 10) ∧ (oih (upd t_beginning (t_first v1.toNatClampNeg).toNatClampNeg ((t_beginning (t_first v1.toNatClampNeg).toNatClampNeg) ||| ((1 : Int32) <<< (v1 &&& (31 : Int32))))) (upd t_ending (t_last v1.toNatClampNeg).toNatClampNeg ((t_ending (t_last v1.toNatClampNeg).toNatClampNeg) ||| ((1 : Int32) <<< (v1 &&& (31 : Int32))))) (upd t_comer (t_first v1.toNatClampNeg).toNatClampNeg (t_person v1.toNatClampNeg)) (v1 + (-1 : Int32))))))))) n
theorem ok_X1_arrange_L32_s {t_person : Nat → Int32} {t_first : Nat → Int32} {t_last : Nat → Int32} {n : Nat} {t_beginning : Nat → Int32} {t_ending : Nat → Int32} {t_comer : Nat → Int32} {v1 : Int32} : ok_X1_arrange_L32 t_person t_first t_last (n + 1) t_beginning t_ending t_comer v1 ↔ ((¬ (v1 < (0 : Int32)) → (vp_in v1 8) ∧ (((F_X11_isHour (t_first v1.toNatClampNeg)) = (0 : Int32) → ((ok_X1_arrange_L32 t_person t_first t_last n) t_beginning t_ending t_comer (v1 + (-1 : Int32)))) ∧ (¬ ((F_X11_isHour (t_first v1.toNatClampNeg)) = (0 : Int32)) → (vp_in v1 8) ∧ (((F_X11_isHour (t_last v1.toNatClampNeg)) = (0 : Int32) → ((ok_X1_arrange_L32 t_person t_first t_last n) t_beginning t_ending t_comer (v1 + (-1 : Int32)))) ∧ (¬ ((F_X11_isHour (t_last v1.toNatClampNeg)) = (0 : Int32)) → (vp_in v1 8) ∧ (vp_in (t_first v1.toNatClampNeg) 10) ∧ (vp_in (t_first v1.toNatClampNeg) 10) ∧ (vp_in v1 8) ∧ (vp_in (t_last v1.toNatClampNeg) 10) ∧ (vp_in (t_last v1.toNatClampNeg) 10) ∧ (vp_in v1 8) ∧ (vp_in v1 8) ∧ (vp_in (t_first v1.toNatClampNeg) 10) ∧ ((ok_X1_arrange_L32 t_person t_first t_last n) (upd t_beginning (t_first v1.toNatClampNeg).toNatClampNeg ((t_beginning (t_first v1.toNatClampNeg).toNatClampNeg) ||| ((1 : Int32) <<< (v1 &&& (31 : Int32))))) (upd t_ending (t_last v1.toNatClampNeg).toNatClampNeg ((t_ending (t_last v1.toNatClampNeg).toNatClampNeg) ||| ((1 : Int32) <<< (v1 &&& (31 : Int32))))) (upd t_comer (t_first v1.toNatClampNeg).toNatClampNeg (t_person v1.toNatClampNeg)) (v1 + (-1 : Int32))))))))) := Iff.rfl
noncomputable def F_X1_arrange_b25 (t_sessions : Int32) (t_person : Nat → Int32) (t_first : Nat → Int32) (t_last : Nat → Int32) (t_beginning : Nat → Int32) (t_ending : Nat → Int32) (t_comer : Nat → Int32) (t_nextComer : Nat → Int32) : (Nat → Int32) × (Nat → Int32) × (Nat → Int32) × (Nat → Int32) := ((fun (q : (Nat → Int32) × (Nat → Int32) × (Nat → Int32)) => (F_X1_arrange_b117 q.1 q.2.1 q.2.2 t_nextComer)) (F_X1_arrange_L32 t_person t_first t_last FU t_beginning t_ending t_comer (t_sessions - (1 : Int32))))
def ok_X1_arrange_b25 (t_sessions : Int32) (t_person : Nat → Int32) (t_first : Nat → Int32) (t_last : Nat → Int32) (t_beginning : Nat → Int32) (t_ending : Nat → Int32) (t_comer : Nat → Int32) (t_nextComer : Nat → Int32) : Prop := (ok_X1_arrange_L32 t_person t_first t_last FU t_beginning t_ending t_comer (t_sessions - (1 : Int32))) ∧ ((fun (q : (Nat → Int32) × (Nat → Int32) × (Nat → Int32)) => (ok_X1_arrange_b117 q.2.2 t_nextComer)) (F_X1_arrange_L32 t_person t_first t_last FU t_beginning t_ending t_comer (t_sessions - (1 : Int32))))
noncomputable def F_X1_arrange_b16 (t_sessions : Int32) (t_person : Nat → Int32) (t_first : Nat → Int32) (t_last : Nat → Int32) (t_beginning : Nat → Int32) (t_ending : Nat → Int32) (t_comer : Nat → Int32) (t_nextComer : Nat → Int32) : (Nat → Int32) × (Nat → Int32) × (Nat → Int32) × (Nat → Int32) := ((fun (q : (Nat → Int32)) => (F_X1_arrange_b25 t_sessions t_person t_first t_last t_beginning t_ending q t_nextComer)) (F_J7_fill_53178 10 t_comer (-9 : Int32)))
def ok_X1_arrange_b16 (t_sessions : Int32) (t_person : Nat → Int32) (t_first : Nat → Int32) (t_last : Nat → Int32) (t_beginning : Nat → Int32) (t_ending : Nat → Int32) (t_comer : Nat → Int32) (t_nextComer : Nat → Int32) : Prop := (ok_J7_fill_53178 10 t_comer (-9 : Int32)) ∧ ((fun (q : (Nat → Int32)) => (ok_X1_arrange_b25 t_sessions t_person t_first t_last t_beginning t_ending q t_nextComer)) (F_J7_fill_53178 10 t_comer (-9 : Int32)))
noncomputable def F_X1_arrange_b8 (t_sessions : Int32) (t_person : Nat → Int32) (t_first : Nat → Int32) (t_last : Nat → Int32) (t_beginning : Nat → Int32) (t_ending : Nat → Int32) (t_comer : Nat → Int32) (t_nextComer : Nat → Int32) : (Nat → Int32) × (Nat → Int32) × (Nat → Int32) × (Nat → Int32) := ((fun (q : (Nat → Int32)) => (F_X1_arrange_b16 t_sessions t_person t_first t_last t_beginning q t_comer t_nextComer)) (F_J7_fill_53178 10 t_ending (0 : Int32)))
def ok_X1_arrange_b8 (t_sessions : Int32) (t_person : Nat → Int32) (t_first : Nat → Int32) (t_last : Nat → Int32) (t_beginning : Nat → Int32) (t_ending : Nat → Int32) (t_comer : Nat → Int32) (t_nextComer : Nat → Int32) : Prop := (ok_J7_fill_53178 10 t_ending (0 : Int32)) ∧ ((fun (q : (Nat → Int32)) => (ok_X1_arrange_b16 t_sessions t_person t_first t_last t_beginning q t_comer t_nextComer)) (F_J7_fill_53178 10 t_ending (0 : Int32)))
noncomputable def F_X1_arrange (t_sessions : Int32) (t_person : Nat → Int32) (t_first : Nat → Int32) (t_last : Nat → Int32) (t_beginning : Nat → Int32) (t_ending : Nat → Int32) (t_comer : Nat → Int32) (t_nextComer : Nat → Int32) : (Nat → Int32) × (Nat → Int32) × (Nat → Int32) × (Nat → Int32) := ((fun (q : (Nat → Int32)) => (F_X1_arrange_b8 t_sessions t_person t_first t_last q t_ending t_comer t_nextComer)) (F_J7_fill_53178 10 t_beginning (0 : Int32)))
def ok_X1_arrange (t_sessions : Int32) (t_person : Nat → Int32) (t_first : Nat → Int32) (t_last : Nat → Int32) (t_beginning : Nat → Int32) (t_ending : Nat → Int32) (t_comer : Nat → Int32) (t_nextComer : Nat → Int32) : Prop := (ok_J7_fill_53178 10 t_beginning (0 : Int32)) ∧ ((fun (q : (Nat → Int32)) => (ok_X1_arrange_b8 t_sessions t_person t_first t_last q t_ending t_comer t_nextComer)) (F_J7_fill_53178 10 t_beginning (0 : Int32)))
set_option maxHeartbeats 4000000 in
set_option maxRecDepth 100000 in
theorem w_X1_arrange {p : Program} {l : Launch} {e : Env} {s : State} {m : MethodId} {args : Array Value} {below : List Frame} {meth : Method} {c : Code} {D : va_G} {cy : Nat → ClassId} {A : Nat → Prop} {QQ : State → Prop} {FV : (Nat → Int32) × (Nat → Int32) × (Nat → Int32) × (Nat → Int32)} (a_t : Nat) (a_t_person : Nat) (a_t_first : Nat) (a_t_last : Nat) (a_t_beginning : Nat) (a_t_ending : Nat) (a_t_comer : Nat) (a_t_nextComer : Nat) (z_t_people : Value) (z_t_places : Value) (z_t_forgetTenths : Value) (z_t_ownKeys : Value) (z_t_minutes : Value) (z_t_risk : Value) (z_t_openFirst : Value) (z_t_openLast : Value) (z_t_homeMinutes : Value) (t_sessions : Int32) (t_person : Nat → Int32) (t_first : Nat → Int32) (t_last : Nat → Int32) (t_beginning : Nat → Int32) (t_ending : Nat → Int32) (t_comer : Nat → Int32) (t_nextComer : Nat → Int32) (hx : p.tables.exec = Jvm.exec) (hb : c.code = cX1_arrange) (hml : c.maxLocals = 4) (hown : s.vm.findClass RX1 = some m.cls) (hts : ∀ w ∈ Cond.code yX1_arrange cX1_arrange 4 none :: LW, w.before args s = true) (hG : GW D cy s) (hA : ∀ q, s.heap.size ≤ q → A q) (hret : ∀ (o0 : Nat → Int32) (o1 : Nat → Int32) (o2 : Nat → Int32) (o3 : Nat → Int32) (H : Heap) (locs : List Loc) (ls : Array Slot) (pc : Nat), va_P D vwCl (wd_X1_arrange cy a_t a_t_person a_t_first a_t_last a_t_beginning a_t_ending a_t_comer a_t_nextComer z_t_people z_t_places z_t_forgetTenths z_t_ownKeys z_t_minutes z_t_risk z_t_openFirst z_t_openLast z_t_homeMinutes t_sessions t_person t_first t_last o0 o1 o2 o3) H → va_D A (wd_X1_arrange cy a_t a_t_person a_t_first a_t_last a_t_beginning a_t_ending a_t_comer a_t_nextComer z_t_people z_t_places z_t_forgetTenths z_t_ownKeys z_t_minutes z_t_risk z_t_openFirst z_t_openLast z_t_homeMinutes t_sessions t_person t_first t_last o0 o1 o2 o3) → va_S A s.heap H locs → FV = (o0, o1, o2, o3) → decode cX1_arrange pc = .ok (.return_, 1) → W p l e (rmk 1 23) s m args below meth c H locs 0 0 QQ (F0 m pc ls [])) (ls : Array Slot) (hl : lv_has ls 4 [(0, .ref a_t)]) (hP : va_P D vwCl (wd_X1_arrange cy a_t a_t_person a_t_first a_t_last a_t_beginning a_t_ending a_t_comer a_t_nextComer z_t_people z_t_places z_t_forgetTenths z_t_ownKeys z_t_minutes z_t_risk z_t_openFirst z_t_openLast z_t_homeMinutes t_sessions t_person t_first t_last t_beginning t_ending t_comer t_nextComer) s.heap) (hD : va_D A (wd_X1_arrange cy a_t a_t_person a_t_first a_t_last a_t_beginning a_t_ending a_t_comer a_t_nextComer z_t_people z_t_places z_t_forgetTenths z_t_ownKeys z_t_minutes z_t_risk z_t_openFirst z_t_openLast z_t_homeMinutes t_sessions t_person t_first t_last t_beginning t_ending t_comer t_nextComer)) (hok : (ok_X1_arrange t_sessions t_person t_first t_last t_beginning t_ending t_comer t_nextComer)) (hR : FV = (F_X1_arrange t_sessions t_person t_first t_last t_beginning t_ending t_comer t_nextComer)) : W p l e (rmk 1 23) s m args below meth c s.heap [] 0 0 QQ (F0 m 0 ls []) := by
  have hw : ∀ w ∈ LW, w.before args s = true := fun w h => hts w (List.mem_cons_of_mem _ h)
  have hK := hG.1
  have hS : va_S A s.heap s.heap [] := va_S.rf
  unfold F_X1_arrange at hR
  unfold ok_X1_arrange at hok
  refine lv_aload_n hx hb dX1_arrange_0 rfl (lv_at hl 0 rfl) ?_
  refine g_X1_52 hx hb hw hown hK hP 0 rfl rfl dX1_arrange_1 ?_
  refine lv_iconst (v := 0) hx hb dX1_arrange_4 (by decide) ?_
  obtain ⟨hok_5, hok⟩ := hok
  refine wkVS (As := [.ref a_t_beginning, .int (0 : Int32)]) (rest := []) hx hb hml hown hts hG hP hD hS hA k_X1_64 (c_J7_fill_53178 (l := l) (D := D) (cy := cy) a_t_beginning 10 t_beginning (0 : Int32) s.heap.size hok_5) ⟨Nat.le_of_ble_eq_true rfl, Nat.le_of_ble_eq_true rfl⟩ [4] [0, 1, 2, 3, 5, 6, 7] [0, 1, 2, 3, 7, 4, 5, 6] (N := 8) rfl (by decide +kernel) rfl rfl hl.1 rfl (Nat.le_of_ble_eq_true rfl) ⟨Nat.zero_le _, Nat.zero_le _⟩ dX1_arrange_5 (fun u => (wd_X1_arrange cy a_t a_t_person a_t_first a_t_last a_t_beginning a_t_ending a_t_comer a_t_nextComer z_t_people z_t_places z_t_forgetTenths z_t_ownKeys z_t_minutes z_t_risk z_t_openFirst z_t_openLast z_t_homeMinutes t_sessions t_person t_first t_last u t_ending t_comer t_nextComer)) (fun _ => rfl) (fun u_5 H locs e_5 hP hD hS => ?_)
  obtain ⟨o5_0, rfl⟩ : ∃ z, z = u_5 := ⟨_, rfl⟩
  replace hP : va_P D vwCl (wd_X1_arrange cy a_t a_t_person a_t_first a_t_last a_t_beginning a_t_ending a_t_comer a_t_nextComer z_t_people z_t_places z_t_forgetTenths z_t_ownKeys z_t_minutes z_t_risk z_t_openFirst z_t_openLast z_t_homeMinutes t_sessions t_person t_first t_last o5_0 t_ending t_comer t_nextComer) H := hP
  replace hD : va_D A (wd_X1_arrange cy a_t a_t_person a_t_first a_t_last a_t_beginning a_t_ending a_t_comer a_t_nextComer z_t_people z_t_places z_t_forgetTenths z_t_ownKeys z_t_minutes z_t_risk z_t_openFirst z_t_openLast z_t_homeMinutes t_sessions t_person t_first t_last o5_0 t_ending t_comer t_nextComer) := hD
  have hR2 := hRq (fun (q : (Nat → Int32)) => (F_X1_arrange_b8 t_sessions t_person t_first t_last q t_ending t_comer t_nextComer)) e_5 hR
  replace hR : FV = (F_X1_arrange_b8 t_sessions t_person t_first t_last o5_0 t_ending t_comer t_nextComer) := hR2
  have hok2 := hokq (fun (q : (Nat → Int32)) => (ok_X1_arrange_b8 t_sessions t_person t_first t_last q t_ending t_comer t_nextComer)) e_5 hok
  replace hok : (ok_X1_arrange_b8 t_sessions t_person t_first t_last o5_0 t_ending t_comer t_nextComer) := hok2
  unfold F_X1_arrange_b8 at hR
  unfold ok_X1_arrange_b8 at hok
  refine lv_aload_n hx hb dX1_arrange_8 rfl (lv_at hl 0 rfl) ?_
  refine g_X1_55 hx hb hw hown hK hP 0 rfl rfl dX1_arrange_9 ?_
  refine lv_iconst (v := 0) hx hb dX1_arrange_12 (by decide) ?_
  obtain ⟨hok_13, hok⟩ := hok
  refine wkVS (As := [.ref a_t_ending, .int (0 : Int32)]) (rest := []) hx hb hml hown hts hG hP hD hS hA k_X1_64 (c_J7_fill_53178 (l := l) (D := D) (cy := cy) a_t_ending 10 t_ending (0 : Int32) H.size hok_13) ⟨Nat.le_of_ble_eq_true rfl, Nat.le_of_ble_eq_true rfl⟩ [5] [0, 1, 2, 3, 4, 6, 7] [0, 1, 2, 3, 4, 7, 5, 6] (N := 8) rfl (by decide +kernel) rfl rfl hl.1 rfl (Nat.le_of_ble_eq_true rfl) ⟨Nat.zero_le _, Nat.zero_le _⟩ dX1_arrange_13 (fun u => (wd_X1_arrange cy a_t a_t_person a_t_first a_t_last a_t_beginning a_t_ending a_t_comer a_t_nextComer z_t_people z_t_places z_t_forgetTenths z_t_ownKeys z_t_minutes z_t_risk z_t_openFirst z_t_openLast z_t_homeMinutes t_sessions t_person t_first t_last o5_0 u t_comer t_nextComer)) (fun _ => rfl) (fun u_13 H locs e_13 hP hD hS => ?_)
  obtain ⟨o13_0, rfl⟩ : ∃ z, z = u_13 := ⟨_, rfl⟩
  replace hP : va_P D vwCl (wd_X1_arrange cy a_t a_t_person a_t_first a_t_last a_t_beginning a_t_ending a_t_comer a_t_nextComer z_t_people z_t_places z_t_forgetTenths z_t_ownKeys z_t_minutes z_t_risk z_t_openFirst z_t_openLast z_t_homeMinutes t_sessions t_person t_first t_last o5_0 o13_0 t_comer t_nextComer) H := hP
  replace hD : va_D A (wd_X1_arrange cy a_t a_t_person a_t_first a_t_last a_t_beginning a_t_ending a_t_comer a_t_nextComer z_t_people z_t_places z_t_forgetTenths z_t_ownKeys z_t_minutes z_t_risk z_t_openFirst z_t_openLast z_t_homeMinutes t_sessions t_person t_first t_last o5_0 o13_0 t_comer t_nextComer) := hD
  have hR2 := hRq (fun (q : (Nat → Int32)) => (F_X1_arrange_b16 t_sessions t_person t_first t_last o5_0 q t_comer t_nextComer)) e_13 hR
  replace hR : FV = (F_X1_arrange_b16 t_sessions t_person t_first t_last o5_0 o13_0 t_comer t_nextComer) := hR2
  have hok2 := hokq (fun (q : (Nat → Int32)) => (ok_X1_arrange_b16 t_sessions t_person t_first t_last o5_0 q t_comer t_nextComer)) e_13 hok
  replace hok : (ok_X1_arrange_b16 t_sessions t_person t_first t_last o5_0 o13_0 t_comer t_nextComer) := hok2
  unfold F_X1_arrange_b16 at hR
  unfold ok_X1_arrange_b16 at hok
  refine lv_aload_n hx hb dX1_arrange_16 rfl (lv_at hl 0 rfl) ?_
  refine g_X1_58 hx hb hw hown hK hP 0 rfl rfl dX1_arrange_17 ?_
  refine lv_bipush (v := -9) hx hb dX1_arrange_20 (by decide) ?_
  obtain ⟨hok_22, hok⟩ := hok
  refine wkVS (As := [.ref a_t_comer, .int (-9 : Int32)]) (rest := []) hx hb hml hown hts hG hP hD hS hA k_X1_64 (c_J7_fill_53178 (l := l) (D := D) (cy := cy) a_t_comer 10 t_comer (-9 : Int32) H.size hok_22) ⟨Nat.le_of_ble_eq_true rfl, Nat.le_of_ble_eq_true rfl⟩ [6] [0, 1, 2, 3, 4, 5, 7] [0, 1, 2, 3, 4, 5, 7, 6] (N := 8) rfl (by decide +kernel) rfl rfl hl.1 rfl (Nat.le_of_ble_eq_true rfl) ⟨Nat.zero_le _, Nat.zero_le _⟩ dX1_arrange_22 (fun u => (wd_X1_arrange cy a_t a_t_person a_t_first a_t_last a_t_beginning a_t_ending a_t_comer a_t_nextComer z_t_people z_t_places z_t_forgetTenths z_t_ownKeys z_t_minutes z_t_risk z_t_openFirst z_t_openLast z_t_homeMinutes t_sessions t_person t_first t_last o5_0 o13_0 u t_nextComer)) (fun _ => rfl) (fun u_22 H locs e_22 hP hD hS => ?_)
  obtain ⟨o22_0, rfl⟩ : ∃ z, z = u_22 := ⟨_, rfl⟩
  replace hP : va_P D vwCl (wd_X1_arrange cy a_t a_t_person a_t_first a_t_last a_t_beginning a_t_ending a_t_comer a_t_nextComer z_t_people z_t_places z_t_forgetTenths z_t_ownKeys z_t_minutes z_t_risk z_t_openFirst z_t_openLast z_t_homeMinutes t_sessions t_person t_first t_last o5_0 o13_0 o22_0 t_nextComer) H := hP
  replace hD : va_D A (wd_X1_arrange cy a_t a_t_person a_t_first a_t_last a_t_beginning a_t_ending a_t_comer a_t_nextComer z_t_people z_t_places z_t_forgetTenths z_t_ownKeys z_t_minutes z_t_risk z_t_openFirst z_t_openLast z_t_homeMinutes t_sessions t_person t_first t_last o5_0 o13_0 o22_0 t_nextComer) := hD
  have hR2 := hRq (fun (q : (Nat → Int32)) => (F_X1_arrange_b25 t_sessions t_person t_first t_last o5_0 o13_0 q t_nextComer)) e_22 hR
  replace hR : FV = (F_X1_arrange_b25 t_sessions t_person t_first t_last o5_0 o13_0 o22_0 t_nextComer) := hR2
  have hok2 := hokq (fun (q : (Nat → Int32)) => (ok_X1_arrange_b25 t_sessions t_person t_first t_last o5_0 o13_0 q t_nextComer)) e_22 hok
  replace hok : (ok_X1_arrange_b25 t_sessions t_person t_first t_last o5_0 o13_0 o22_0 t_nextComer) := hok2
  unfold F_X1_arrange_b25 at hR
  unfold ok_X1_arrange_b25 at hok
  refine lv_aload_n hx hb dX1_arrange_25 rfl (lv_at hl 0 rfl) ?_
  refine g_X1_15 hx hb hw hown hK hP 0 rfl rfl dX1_arrange_26 ?_
  refine lv_iconst (v := 1) hx hb dX1_arrange_29 (by decide) ?_
  refine lv_isub hx hb dX1_arrange_30 ?_
  refine lv_istore_n (lv' := [(1, .int (t_sessions - (1 : Int32))), (0, .ref a_t)]) hx hb dX1_arrange_31 rfl hl (Nat.le_of_ble_eq_true rfl) rfl (fun ls hl => ?_)
  have L_32 : ∀ (n_32 : Nat) (V : (Nat → Int32) × (Nat → Int32) × (Nat → Int32)) (t_beginning_32 : Nat → Int32) (t_ending_32 : Nat → Int32) (t_comer_32 : Nat → Int32) (v1_32 : Int32) (H : Heap) (locs : List Loc) (ls : Array Slot), lv_has ls 4 [(0, .ref a_t), (1, .int v1_32)] → va_P D vwCl (wd_X1_arrange cy a_t a_t_person a_t_first a_t_last a_t_beginning a_t_ending a_t_comer a_t_nextComer z_t_people z_t_places z_t_forgetTenths z_t_ownKeys z_t_minutes z_t_risk z_t_openFirst z_t_openLast z_t_homeMinutes t_sessions t_person t_first t_last t_beginning_32 t_ending_32 t_comer_32 t_nextComer) H → va_D A (wd_X1_arrange cy a_t a_t_person a_t_first a_t_last a_t_beginning a_t_ending a_t_comer a_t_nextComer z_t_people z_t_places z_t_forgetTenths z_t_ownKeys z_t_minutes z_t_risk z_t_openFirst z_t_openLast z_t_homeMinutes t_sessions t_person t_first t_last t_beginning_32 t_ending_32 t_comer_32 t_nextComer) → va_S A s.heap H locs → (ok_X1_arrange_L32 t_person t_first t_last n_32 t_beginning_32 t_ending_32 t_comer_32 v1_32) → V = (F_X1_arrange_L32 t_person t_first t_last n_32 t_beginning_32 t_ending_32 t_comer_32 v1_32) → (∀ (e32_0 : Nat → Int32) (e32_1 : Nat → Int32) (e32_2 : Nat → Int32) (H : Heap) (locs : List Loc) (ls : Array Slot), lv_has ls 4 [(0, .ref a_t)] → va_P D vwCl (wd_X1_arrange cy a_t a_t_person a_t_first a_t_last a_t_beginning a_t_ending a_t_comer a_t_nextComer z_t_people z_t_places z_t_forgetTenths z_t_ownKeys z_t_minutes z_t_risk z_t_openFirst z_t_openLast z_t_homeMinutes t_sessions t_person t_first t_last e32_0 e32_1 e32_2 t_nextComer) H → va_D A (wd_X1_arrange cy a_t a_t_person a_t_first a_t_last a_t_beginning a_t_ending a_t_comer a_t_nextComer z_t_people z_t_places z_t_forgetTenths z_t_ownKeys z_t_minutes z_t_risk z_t_openFirst z_t_openLast z_t_homeMinutes t_sessions t_person t_first t_last e32_0 e32_1 e32_2 t_nextComer) → va_S A s.heap H locs → V = (e32_0, e32_1, e32_2) → W p l e (rmk 1 23) s m args below meth c H locs 0 0 QQ (F0 m 117 ls [])) → W p l e (rmk 1 23) s m args below meth c H locs 0 0 QQ (F0 m 32 ls []) := by
    intro n_32
    induction n_32 with
    | zero => intro V t_beginning_32 t_ending_32 t_comer_32 v1_32 H locs ls hl hP hD hS hok; exact False.elim hok
    | succ n_32 ih32 =>
      intro V t_beginning_32 t_ending_32 t_comer_32 v1_32 H locs ls hl hP hD hS hok hR hX
      replace hR := hR.trans F_X1_arrange_L32_s
      replace hok := ok_X1_arrange_L32_s.mp hok
      refine lv_iload_n hx hb dX1_arrange_32 rfl (lv_at hl 1 rfl) ?_
      refine lv_if_lt (tgt := 117) hx hb dX1_arrange_33 (by decide) (fun c_33 => ?_) (fun c_33 => ?_)
      · replace hR := bp hR c_33
        exact hX t_beginning_32 t_ending_32 t_comer_32 _ _ _ (lv_sub hl [0] rfl) hP hD hS hR
      · replace hR := bn hR c_33
        replace hok := hok c_33
        refine lv_aload_n hx hb dX1_arrange_36 rfl (lv_at hl 0 rfl) ?_
        refine g_X1_31 hx hb hw hown hK hP 0 rfl rfl dX1_arrange_37 ?_
        refine lv_iload_n hx hb dX1_arrange_40 rfl (lv_at hl 1 rfl) ?_
        obtain ⟨h_41_0, hok⟩ := hok
        refine va_iald hx hb hK hP 2 1 rfl rfl h_41_0 dX1_arrange_41 ?_
        refine rdIN (As := [.int (t_first v1_32.toNatClampNeg)]) (rest := []) hx hb hml hown hts hG hP k_X1_83 (c_X11_isHour (l := l) (D := D) (cy := cy) (t_first v1_32.toNatClampNeg)) ⟨Nat.le_of_ble_eq_true rfl, Nat.le_of_ble_eq_true rfl⟩ [] rfl rfl hl.1 rfl (Nat.le_of_ble_eq_true rfl) ⟨Nat.zero_le _, Nat.zero_le _⟩ dX1_arrange_42 ?_
        refine lv_if_eq (tgt := 111) hx hb dX1_arrange_45 (by decide) (fun c_45 => ?_) (fun c_45 => ?_)
        · replace hR := bp hR c_45
          replace hok := hok.1 c_45
          refine lv_iinc (v := (v1_32 + (-1 : Int32))) (lv' := [(1, .int (v1_32 + (-1 : Int32))), (0, .ref a_t)]) hx hb dX1_arrange_111 hl (k := 1) rfl rfl (Nat.le_of_ble_eq_true rfl) rfl (fun ls hl => ?_)
          refine lv_goto (tgt := 32) hx hb dX1_arrange_114 (by decide) ?_
          exact ih32 V t_beginning_32 t_ending_32 t_comer_32 (v1_32 + (-1 : Int32)) _ _ _ (lv_sub hl [1, 0] rfl) hP hD hS hok hR hX
        · replace hR := bn hR c_45
          replace hok := hok.2 c_45
          refine lv_aload_n hx hb dX1_arrange_48 rfl (lv_at hl 0 rfl) ?_
          refine g_X1_34 hx hb hw hown hK hP 0 rfl rfl dX1_arrange_49 ?_
          refine lv_iload_n hx hb dX1_arrange_52 rfl (lv_at hl 1 rfl) ?_
          obtain ⟨h_53_0, hok⟩ := hok
          refine va_iald hx hb hK hP 3 1 rfl rfl h_53_0 dX1_arrange_53 ?_
          refine rdIN (As := [.int (t_last v1_32.toNatClampNeg)]) (rest := []) hx hb hml hown hts hG hP k_X1_83 (c_X11_isHour (l := l) (D := D) (cy := cy) (t_last v1_32.toNatClampNeg)) ⟨Nat.le_of_ble_eq_true rfl, Nat.le_of_ble_eq_true rfl⟩ [] rfl rfl hl.1 rfl (Nat.le_of_ble_eq_true rfl) ⟨Nat.zero_le _, Nat.zero_le _⟩ dX1_arrange_54 ?_
          refine lv_if_eq (tgt := 111) hx hb dX1_arrange_57 (by decide) (fun c_57 => ?_) (fun c_57 => ?_)
          · replace hR := bp hR c_57
            replace hok := hok.1 c_57
            refine lv_iinc (v := (v1_32 + (-1 : Int32))) (lv' := [(1, .int (v1_32 + (-1 : Int32))), (0, .ref a_t)]) hx hb dX1_arrange_111 hl (k := 1) rfl rfl (Nat.le_of_ble_eq_true rfl) rfl (fun ls hl => ?_)
            refine lv_goto (tgt := 32) hx hb dX1_arrange_114 (by decide) ?_
            exact ih32 V t_beginning_32 t_ending_32 t_comer_32 (v1_32 + (-1 : Int32)) _ _ _ (lv_sub hl [1, 0] rfl) hP hD hS hok hR hX
          · replace hR := bn hR c_57
            replace hok := hok.2 c_57
            refine lv_aload_n hx hb dX1_arrange_60 rfl (lv_at hl 0 rfl) ?_
            refine g_X1_52 hx hb hw hown hK hP 0 rfl rfl dX1_arrange_61 ?_
            refine lv_aload_n hx hb dX1_arrange_64 rfl (lv_at hl 0 rfl) ?_
            refine g_X1_31 hx hb hw hown hK hP 0 rfl rfl dX1_arrange_65 ?_
            refine lv_iload_n hx hb dX1_arrange_68 rfl (lv_at hl 1 rfl) ?_
            obtain ⟨h_69_0, hok⟩ := hok
            refine va_iald hx hb hK hP 2 1 rfl rfl h_69_0 dX1_arrange_69 ?_
            refine lv_dup2_11 hx hb dX1_arrange_70 rfl rfl ?_
            obtain ⟨h_71_0, hok⟩ := hok
            refine va_iald hx hb hK hP 4 1 rfl rfl h_71_0 dX1_arrange_71 ?_
            refine lv_iconst (v := 1) hx hb dX1_arrange_72 (by decide) ?_
            refine lv_iload_n hx hb dX1_arrange_73 rfl (lv_at hl 1 rfl) ?_
            refine lv_ishl hx hb dX1_arrange_74 ?_
            refine lv_ior hx hb dX1_arrange_75 ?_
            obtain ⟨h_76_0, hok⟩ := hok
            refine va_iast hx hb hK hP hD hS 4 1 rfl rfl h_76_0 dX1_arrange_76 (fun H locs hP hD hS => ?_)
            replace hP : va_P D vwCl (wd_X1_arrange cy a_t a_t_person a_t_first a_t_last a_t_beginning a_t_ending a_t_comer a_t_nextComer z_t_people z_t_places z_t_forgetTenths z_t_ownKeys z_t_minutes z_t_risk z_t_openFirst z_t_openLast z_t_homeMinutes t_sessions t_person t_first t_last (upd t_beginning_32 (t_first v1_32.toNatClampNeg).toNatClampNeg ((t_beginning_32 (t_first v1_32.toNatClampNeg).toNatClampNeg) ||| ((1 : Int32) <<< (v1_32 &&& (31 : Int32))))) t_ending_32 t_comer_32 t_nextComer) H := hP
            replace hD : va_D A (wd_X1_arrange cy a_t a_t_person a_t_first a_t_last a_t_beginning a_t_ending a_t_comer a_t_nextComer z_t_people z_t_places z_t_forgetTenths z_t_ownKeys z_t_minutes z_t_risk z_t_openFirst z_t_openLast z_t_homeMinutes t_sessions t_person t_first t_last (upd t_beginning_32 (t_first v1_32.toNatClampNeg).toNatClampNeg ((t_beginning_32 (t_first v1_32.toNatClampNeg).toNatClampNeg) ||| ((1 : Int32) <<< (v1_32 &&& (31 : Int32))))) t_ending_32 t_comer_32 t_nextComer) := hD
            refine lv_aload_n hx hb dX1_arrange_77 rfl (lv_at hl 0 rfl) ?_
            refine g_X1_55 hx hb hw hown hK hP 0 rfl rfl dX1_arrange_78 ?_
            refine lv_aload_n hx hb dX1_arrange_81 rfl (lv_at hl 0 rfl) ?_
            refine g_X1_34 hx hb hw hown hK hP 0 rfl rfl dX1_arrange_82 ?_
            refine lv_iload_n hx hb dX1_arrange_85 rfl (lv_at hl 1 rfl) ?_
            obtain ⟨h_86_0, hok⟩ := hok
            refine va_iald hx hb hK hP 3 1 rfl rfl h_86_0 dX1_arrange_86 ?_
            refine lv_dup2_11 hx hb dX1_arrange_87 rfl rfl ?_
            obtain ⟨h_88_0, hok⟩ := hok
            refine va_iald hx hb hK hP 5 1 rfl rfl h_88_0 dX1_arrange_88 ?_
            refine lv_iconst (v := 1) hx hb dX1_arrange_89 (by decide) ?_
            refine lv_iload_n hx hb dX1_arrange_90 rfl (lv_at hl 1 rfl) ?_
            refine lv_ishl hx hb dX1_arrange_91 ?_
            refine lv_ior hx hb dX1_arrange_92 ?_
            obtain ⟨h_93_0, hok⟩ := hok
            refine va_iast hx hb hK hP hD hS 5 1 rfl rfl h_93_0 dX1_arrange_93 (fun H locs hP hD hS => ?_)
            replace hP : va_P D vwCl (wd_X1_arrange cy a_t a_t_person a_t_first a_t_last a_t_beginning a_t_ending a_t_comer a_t_nextComer z_t_people z_t_places z_t_forgetTenths z_t_ownKeys z_t_minutes z_t_risk z_t_openFirst z_t_openLast z_t_homeMinutes t_sessions t_person t_first t_last (upd t_beginning_32 (t_first v1_32.toNatClampNeg).toNatClampNeg ((t_beginning_32 (t_first v1_32.toNatClampNeg).toNatClampNeg) ||| ((1 : Int32) <<< (v1_32 &&& (31 : Int32))))) (upd t_ending_32 (t_last v1_32.toNatClampNeg).toNatClampNeg ((t_ending_32 (t_last v1_32.toNatClampNeg).toNatClampNeg) ||| ((1 : Int32) <<< (v1_32 &&& (31 : Int32))))) t_comer_32 t_nextComer) H := hP
            replace hD : va_D A (wd_X1_arrange cy a_t a_t_person a_t_first a_t_last a_t_beginning a_t_ending a_t_comer a_t_nextComer z_t_people z_t_places z_t_forgetTenths z_t_ownKeys z_t_minutes z_t_risk z_t_openFirst z_t_openLast z_t_homeMinutes t_sessions t_person t_first t_last (upd t_beginning_32 (t_first v1_32.toNatClampNeg).toNatClampNeg ((t_beginning_32 (t_first v1_32.toNatClampNeg).toNatClampNeg) ||| ((1 : Int32) <<< (v1_32 &&& (31 : Int32))))) (upd t_ending_32 (t_last v1_32.toNatClampNeg).toNatClampNeg ((t_ending_32 (t_last v1_32.toNatClampNeg).toNatClampNeg) ||| ((1 : Int32) <<< (v1_32 &&& (31 : Int32))))) t_comer_32 t_nextComer) := hD
            refine lv_aload_n hx hb dX1_arrange_94 rfl (lv_at hl 0 rfl) ?_
            refine g_X1_58 hx hb hw hown hK hP 0 rfl rfl dX1_arrange_95 ?_
            refine lv_aload_n hx hb dX1_arrange_98 rfl (lv_at hl 0 rfl) ?_
            refine g_X1_31 hx hb hw hown hK hP 0 rfl rfl dX1_arrange_99 ?_
            refine lv_iload_n hx hb dX1_arrange_102 rfl (lv_at hl 1 rfl) ?_
            obtain ⟨h_103_0, hok⟩ := hok
            refine va_iald hx hb hK hP 2 1 rfl rfl h_103_0 dX1_arrange_103 ?_
            refine lv_aload_n hx hb dX1_arrange_104 rfl (lv_at hl 0 rfl) ?_
            refine g_X1_27 hx hb hw hown hK hP 0 rfl rfl dX1_arrange_105 ?_
            refine lv_iload_n hx hb dX1_arrange_108 rfl (lv_at hl 1 rfl) ?_
            obtain ⟨h_109_0, hok⟩ := hok
            refine va_iald hx hb hK hP 1 1 rfl rfl h_109_0 dX1_arrange_109 ?_
            obtain ⟨h_110_0, hok⟩ := hok
            refine va_iast hx hb hK hP hD hS 6 1 rfl rfl h_110_0 dX1_arrange_110 (fun H locs hP hD hS => ?_)
            replace hP : va_P D vwCl (wd_X1_arrange cy a_t a_t_person a_t_first a_t_last a_t_beginning a_t_ending a_t_comer a_t_nextComer z_t_people z_t_places z_t_forgetTenths z_t_ownKeys z_t_minutes z_t_risk z_t_openFirst z_t_openLast z_t_homeMinutes t_sessions t_person t_first t_last (upd t_beginning_32 (t_first v1_32.toNatClampNeg).toNatClampNeg ((t_beginning_32 (t_first v1_32.toNatClampNeg).toNatClampNeg) ||| ((1 : Int32) <<< (v1_32 &&& (31 : Int32))))) (upd t_ending_32 (t_last v1_32.toNatClampNeg).toNatClampNeg ((t_ending_32 (t_last v1_32.toNatClampNeg).toNatClampNeg) ||| ((1 : Int32) <<< (v1_32 &&& (31 : Int32))))) (upd t_comer_32 (t_first v1_32.toNatClampNeg).toNatClampNeg (t_person v1_32.toNatClampNeg)) t_nextComer) H := hP
            replace hD : va_D A (wd_X1_arrange cy a_t a_t_person a_t_first a_t_last a_t_beginning a_t_ending a_t_comer a_t_nextComer z_t_people z_t_places z_t_forgetTenths z_t_ownKeys z_t_minutes z_t_risk z_t_openFirst z_t_openLast z_t_homeMinutes t_sessions t_person t_first t_last (upd t_beginning_32 (t_first v1_32.toNatClampNeg).toNatClampNeg ((t_beginning_32 (t_first v1_32.toNatClampNeg).toNatClampNeg) ||| ((1 : Int32) <<< (v1_32 &&& (31 : Int32))))) (upd t_ending_32 (t_last v1_32.toNatClampNeg).toNatClampNeg ((t_ending_32 (t_last v1_32.toNatClampNeg).toNatClampNeg) ||| ((1 : Int32) <<< (v1_32 &&& (31 : Int32))))) (upd t_comer_32 (t_first v1_32.toNatClampNeg).toNatClampNeg (t_person v1_32.toNatClampNeg)) t_nextComer) := hD
            refine lv_iinc (v := (v1_32 + (-1 : Int32))) (lv' := [(1, .int (v1_32 + (-1 : Int32))), (0, .ref a_t)]) hx hb dX1_arrange_111 hl (k := 1) rfl rfl (Nat.le_of_ble_eq_true rfl) rfl (fun ls hl => ?_)
            refine lv_goto (tgt := 32) hx hb dX1_arrange_114 (by decide) ?_
            exact ih32 V (upd t_beginning_32 (t_first v1_32.toNatClampNeg).toNatClampNeg ((t_beginning_32 (t_first v1_32.toNatClampNeg).toNatClampNeg) ||| ((1 : Int32) <<< (v1_32 &&& (31 : Int32))))) (upd t_ending_32 (t_last v1_32.toNatClampNeg).toNatClampNeg ((t_ending_32 (t_last v1_32.toNatClampNeg).toNatClampNeg) ||| ((1 : Int32) <<< (v1_32 &&& (31 : Int32))))) (upd t_comer_32 (t_first v1_32.toNatClampNeg).toNatClampNeg (t_person v1_32.toNatClampNeg)) (v1_32 + (-1 : Int32)) _ _ _ (lv_sub hl [1, 0] rfl) hP hD hS hok hR hX
  obtain ⟨hokL, hok⟩ := hok
  refine L_32 FU _ o5_0 o13_0 o22_0 (t_sessions - (1 : Int32)) _ _ _ (lv_sub hl [1, 0] rfl) hP hD hS hokL rfl (fun e32_0 e32_1 e32_2 H locs ls hl hP hD hS hE => ?_)
  have hR2 := hRq (fun (q : (Nat → Int32) × (Nat → Int32) × (Nat → Int32)) => (F_X1_arrange_b117 q.1 q.2.1 q.2.2 t_nextComer)) hE.symm hR
  replace hR : FV = (F_X1_arrange_b117 e32_0 e32_1 e32_2 t_nextComer) := hR2
  have hok2 := hokq (fun (q : (Nat → Int32) × (Nat → Int32) × (Nat → Int32)) => (ok_X1_arrange_b117 q.2.2 t_nextComer)) hE.symm hok
  replace hok : (ok_X1_arrange_b117 e32_2 t_nextComer) := hok2
  unfold F_X1_arrange_b117 at hR
  unfold ok_X1_arrange_b117 at hok
  refine lv_bipush (v := -9) hx hb dX1_arrange_117 (by decide) ?_
  refine lv_istore_n (lv' := [(1, .int (-9 : Int32)), (0, .ref a_t)]) hx hb dX1_arrange_119 rfl hl (Nat.le_of_ble_eq_true rfl) rfl (fun ls hl => ?_)
  refine lv_bipush (v := 19) hx hb dX1_arrange_120 (by decide) ?_
  refine lv_istore_n (lv' := [(2, .int (19 : Int32)), (1, .int (-9 : Int32)), (0, .ref a_t)]) hx hb dX1_arrange_122 rfl hl (Nat.le_of_ble_eq_true rfl) rfl (fun ls hl => ?_)
  have L_123 : ∀ (n_123 : Nat) (V : (Nat → Int32)) (t_nextComer_123 : Nat → Int32) (v1_123 : Int32) (v2_123 : Int32) (H : Heap) (locs : List Loc) (ls : Array Slot), lv_has ls 4 [(0, .ref a_t), (1, .int v1_123), (2, .int v2_123)] → va_P D vwCl (wd_X1_arrange cy a_t a_t_person a_t_first a_t_last a_t_beginning a_t_ending a_t_comer a_t_nextComer z_t_people z_t_places z_t_forgetTenths z_t_ownKeys z_t_minutes z_t_risk z_t_openFirst z_t_openLast z_t_homeMinutes t_sessions t_person t_first t_last e32_0 e32_1 e32_2 t_nextComer_123) H → va_D A (wd_X1_arrange cy a_t a_t_person a_t_first a_t_last a_t_beginning a_t_ending a_t_comer a_t_nextComer z_t_people z_t_places z_t_forgetTenths z_t_ownKeys z_t_minutes z_t_risk z_t_openFirst z_t_openLast z_t_homeMinutes t_sessions t_person t_first t_last e32_0 e32_1 e32_2 t_nextComer_123) → va_S A s.heap H locs → (ok_X1_arrange_L123 e32_2 n_123 t_nextComer_123 v1_123 v2_123) → V = (F_X1_arrange_L123 e32_2 n_123 t_nextComer_123 v1_123 v2_123) → (∀ (e123_0 : Nat → Int32) (H : Heap) (locs : List Loc) (ls : Array Slot), lv_has ls 4 [] → va_P D vwCl (wd_X1_arrange cy a_t a_t_person a_t_first a_t_last a_t_beginning a_t_ending a_t_comer a_t_nextComer z_t_people z_t_places z_t_forgetTenths z_t_ownKeys z_t_minutes z_t_risk z_t_openFirst z_t_openLast z_t_homeMinutes t_sessions t_person t_first t_last e32_0 e32_1 e32_2 e123_0) H → va_D A (wd_X1_arrange cy a_t a_t_person a_t_first a_t_last a_t_beginning a_t_ending a_t_comer a_t_nextComer z_t_people z_t_places z_t_forgetTenths z_t_ownKeys z_t_minutes z_t_risk z_t_openFirst z_t_openLast z_t_homeMinutes t_sessions t_person t_first t_last e32_0 e32_1 e32_2 e123_0) → va_S A s.heap H locs → V = e123_0 → W p l e (rmk 1 23) s m args below meth c H locs 0 0 QQ (F0 m 163 ls [])) → W p l e (rmk 1 23) s m args below meth c H locs 0 0 QQ (F0 m 123 ls []) := by
    intro n_123
    induction n_123 with
    | zero => intro V t_nextComer_123 v1_123 v2_123 H locs ls hl hP hD hS hok; exact False.elim hok
    | succ n_123 ih123 =>
      intro V t_nextComer_123 v1_123 v2_123 H locs ls hl hP hD hS hok hR hX
      replace hR := hR.trans F_X1_arrange_L123_s
      replace hok := ok_X1_arrange_L123_s.mp hok
      refine lv_iload_n hx hb dX1_arrange_123 rfl (lv_at hl 2 rfl) ?_
      refine lv_if_lt (tgt := 163) hx hb dX1_arrange_124 (by decide) (fun c_124 => ?_) (fun c_124 => ?_)
      · replace hR := bp hR c_124
        exact hX t_nextComer_123 _ _ _ (lv_sub hl [] rfl) hP hD hS hR
      · replace hR := bn hR c_124
        replace hok := hok c_124
        refine lv_iload_n hx hb dX1_arrange_127 rfl (lv_at hl 2 rfl) ?_
        refine lv_bipush (v := 10) hx hb dX1_arrange_128 (by decide) ?_
        refine lv_irem hx hb dX1_arrange_130 (by decide) ?_
        refine lv_istore_n (lv' := [(3, .int (v2_123 - v2_123 / (10 : Int32) * (10 : Int32))), (0, .ref a_t), (1, .int v1_123), (2, .int v2_123)]) hx hb dX1_arrange_131 rfl hl (Nat.le_of_ble_eq_true rfl) rfl (fun ls hl => ?_)
        refine lv_aload_n hx hb dX1_arrange_132 rfl (lv_at hl 1 rfl) ?_
        refine g_X1_61 hx hb hw hown hK hP 0 rfl rfl dX1_arrange_133 ?_
        refine lv_iload_n hx hb dX1_arrange_136 rfl (lv_at hl 0 rfl) ?_
        refine lv_iload_n hx hb dX1_arrange_137 rfl (lv_at hl 2 rfl) ?_
        obtain ⟨h_138_0, hok⟩ := hok
        refine va_iast hx hb hK hP hD hS 7 1 rfl rfl h_138_0 dX1_arrange_138 (fun H locs hP hD hS => ?_)
        replace hP : va_P D vwCl (wd_X1_arrange cy a_t a_t_person a_t_first a_t_last a_t_beginning a_t_ending a_t_comer a_t_nextComer z_t_people z_t_places z_t_forgetTenths z_t_ownKeys z_t_minutes z_t_risk z_t_openFirst z_t_openLast z_t_homeMinutes t_sessions t_person t_first t_last e32_0 e32_1 e32_2 (upd t_nextComer_123 (v2_123 - v2_123 / (10 : Int32) * (10 : Int32)).toNatClampNeg v1_123)) H := hP
        replace hD : va_D A (wd_X1_arrange cy a_t a_t_person a_t_first a_t_last a_t_beginning a_t_ending a_t_comer a_t_nextComer z_t_people z_t_places z_t_forgetTenths z_t_ownKeys z_t_minutes z_t_risk z_t_openFirst z_t_openLast z_t_homeMinutes t_sessions t_person t_first t_last e32_0 e32_1 e32_2 (upd t_nextComer_123 (v2_123 - v2_123 / (10 : Int32) * (10 : Int32)).toNatClampNeg v1_123)) := hD
        refine lv_aload_n hx hb dX1_arrange_139 rfl (lv_at hl 1 rfl) ?_
        refine g_X1_58 hx hb hw hown hK hP 0 rfl rfl dX1_arrange_140 ?_
        refine lv_iload_n hx hb dX1_arrange_143 rfl (lv_at hl 0 rfl) ?_
        obtain ⟨h_144_0, hok⟩ := hok
        refine va_iald hx hb hK hP 6 1 rfl rfl h_144_0 dX1_arrange_144 ?_
        refine lv_bipush (v := -9) hx hb dX1_arrange_145 (by decide) ?_
        refine lv_icmp_eq (tgt := 157) hx hb dX1_arrange_147 (by decide) (fun c_147 => ?_) (fun c_147 => ?_)
        · replace hR := bp hR c_147
          replace hok := hok.1 c_147
          refine lv_iinc (v := (v2_123 + (-1 : Int32))) (lv' := [(2, .int (v2_123 + (-1 : Int32))), (3, .int (v2_123 - v2_123 / (10 : Int32) * (10 : Int32))), (0, .ref a_t), (1, .int v1_123)]) hx hb dX1_arrange_157 hl (k := 3) rfl rfl (Nat.le_of_ble_eq_true rfl) rfl (fun ls hl => ?_)
          refine lv_goto (tgt := 123) hx hb dX1_arrange_160 (by decide) ?_
          exact ih123 V (upd t_nextComer_123 (v2_123 - v2_123 / (10 : Int32) * (10 : Int32)).toNatClampNeg v1_123) v1_123 (v2_123 + (-1 : Int32)) _ _ _ (lv_sub hl [2, 3, 0] rfl) hP hD hS hok hR hX
        · replace hR := bn hR c_147
          replace hok := hok.2 c_147
          refine lv_aload_n hx hb dX1_arrange_150 rfl (lv_at hl 1 rfl) ?_
          refine g_X1_58 hx hb hw hown hK hP 0 rfl rfl dX1_arrange_151 ?_
          refine lv_iload_n hx hb dX1_arrange_154 rfl (lv_at hl 0 rfl) ?_
          obtain ⟨h_155_0, hok⟩ := hok
          refine va_iald hx hb hK hP 6 1 rfl rfl h_155_0 dX1_arrange_155 ?_
          refine lv_istore_n (lv' := [(1, .int (e32_2 (v2_123 - v2_123 / (10 : Int32) * (10 : Int32)).toNatClampNeg)), (3, .int (v2_123 - v2_123 / (10 : Int32) * (10 : Int32))), (0, .ref a_t), (2, .int v2_123)]) hx hb dX1_arrange_156 rfl hl (Nat.le_of_ble_eq_true rfl) rfl (fun ls hl => ?_)
          refine lv_iinc (v := (v2_123 + (-1 : Int32))) (lv' := [(2, .int (v2_123 + (-1 : Int32))), (1, .int (e32_2 (v2_123 - v2_123 / (10 : Int32) * (10 : Int32)).toNatClampNeg)), (3, .int (v2_123 - v2_123 / (10 : Int32) * (10 : Int32))), (0, .ref a_t)]) hx hb dX1_arrange_157 hl (k := 3) rfl rfl (Nat.le_of_ble_eq_true rfl) rfl (fun ls hl => ?_)
          refine lv_goto (tgt := 123) hx hb dX1_arrange_160 (by decide) ?_
          exact ih123 V (upd t_nextComer_123 (v2_123 - v2_123 / (10 : Int32) * (10 : Int32)).toNatClampNeg v1_123) (e32_2 (v2_123 - v2_123 / (10 : Int32) * (10 : Int32)).toNatClampNeg) (v2_123 + (-1 : Int32)) _ _ _ (lv_sub hl [3, 1, 0] rfl) hP hD hS hok hR hX
  have hokL := hok
  refine L_123 FU _ t_nextComer (-9 : Int32) (19 : Int32) _ _ _ (lv_sub hl [2, 1, 0] rfl) hP hD hS hokL rfl (fun e123_0 H locs ls hl hP hD hS hE => ?_)
  have hR2 := hRq (fun (q : (Nat → Int32)) => (F_X1_arrange_b163 e32_0 e32_1 e32_2 q)) hE.symm hR
  replace hR : FV = (F_X1_arrange_b163 e32_0 e32_1 e32_2 e123_0) := hR2
  unfold F_X1_arrange_b163 at hR
  exact hret e32_0 e32_1 e32_2 e123_0 _ _ _ _ hP hD hS hR dX1_arrange_163
set_option maxHeartbeats 1000000 in
set_option maxRecDepth 100000 in
theorem c_X1_arrange {l : Launch} {D : va_G} {cy : Nat → ClassId} (a_t : Nat) (a_t_person : Nat) (a_t_first : Nat) (a_t_last : Nat) (a_t_beginning : Nat) (a_t_ending : Nat) (a_t_comer : Nat) (a_t_nextComer : Nat) (z_t_people : Value) (z_t_places : Value) (z_t_forgetTenths : Value) (z_t_ownKeys : Value) (z_t_minutes : Value) (z_t_risk : Value) (z_t_openFirst : Value) (z_t_openLast : Value) (z_t_homeMinutes : Value) (t_sessions : Int32) (t_person : Nat → Int32) (t_first : Nat → Int32) (t_last : Nat → Int32) (t_beginning : Nat → Int32) (t_ending : Nat → Int32) (t_comer : Nat → Int32) (t_nextComer : Nat → Int32) (sz : Nat) (hok : (ok_X1_arrange t_sessions t_person t_first t_last t_beginning t_ending t_comer t_nextComer)) : WrV (S := (Nat → Int32) × (Nat → Int32) × (Nat → Int32) × (Nat → Int32)) l yX1_arrange cX1_arrange 4 none 1 23 D cy [.ref a_t] (wd_X1_arrange cy a_t a_t_person a_t_first a_t_last a_t_beginning a_t_ending a_t_comer a_t_nextComer z_t_people z_t_places z_t_forgetTenths z_t_ownKeys z_t_minutes z_t_risk z_t_openFirst z_t_openLast z_t_homeMinutes t_sessions t_person t_first t_last t_beginning t_ending t_comer t_nextComer) (fun u => (wd_X1_arrange cy a_t a_t_person a_t_first a_t_last a_t_beginning a_t_ending a_t_comer a_t_nextComer z_t_people z_t_places z_t_forgetTenths z_t_ownKeys z_t_minutes z_t_risk z_t_openFirst z_t_openLast z_t_homeMinutes t_sessions t_person t_first t_last u.1 u.2.1 u.2.2.1 u.2.2.2)) (F_X1_arrange t_sessions t_person t_first t_last t_beginning t_ending t_comer t_nextComer) sz := by
  refine Met.ofW (cc := cX1_arrange) (maxL := 4) (ret := none) (by decide) rfl ?_
  intro p e s m args below meth c s₁ B hml hv
  obtain ⟨rfl, hsz, hP, hG, hD0⟩ := hv
  subst hsz
  have hD := hD0.self (sz := s.heap.size)
  have hr := B.returns
  have hlocks := B.notSynchronized
  have hl := lv_entry ([.ref a_t]) (n := 4) (Nat.le_of_ble_eq_true rfl)
  rw [lg_entry_eq]
  generalize (lg_sl ([.ref a_t]) ++ List.replicate (4 - (lg_sl ([.ref a_t])).length) Slot.unset).toArray = ls at hl ⊢
  exact w_X1_arrange a_t a_t_person a_t_first a_t_last a_t_beginning a_t_ending a_t_comer a_t_nextComer z_t_people z_t_places z_t_forgetTenths z_t_ownKeys z_t_minutes z_t_risk z_t_openFirst z_t_openLast z_t_homeMinutes t_sessions t_person t_first t_last t_beginning t_ending t_comer t_nextComer B.exec B.bytes hml (findClass_of_methodNamed B.named) (atoms_spec (ws := Cond.code yX1_arrange cX1_arrange 4 none :: LW) B.pre) hG (fun q h => Or.inr h) (fun o0 o1 o2 o3 H locs ls pc hP hD hS hF hdg => W.vret B.exec B.bytes hr (fun t ht hW => ⟨⟨(o0, o1, o2, o3), rfl, hF.symm, by rw [ht]; exact hP, hD⟩, hS.F ht⟩) hS.2.2 hdg) ls hl hP hD hok rfl
abbrev wd_X1_beginAt (cy : Nat → ClassId) (a_t : Nat) (a_t_person : Nat) (a_t_first : Nat) (a_t_last : Nat) (a_t_beginning : Nat) (a_t_ending : Nat) (a_t_comer : Nat) (a_t_nextComer : Nat) (z_t_people : Value) (z_t_places : Value) (z_t_forgetTenths : Value) (z_t_ownKeys : Value) (z_t_minutes : Value) (z_t_risk : Value) (z_t_openFirst : Value) (z_t_openLast : Value) (z_t_homeMinutes : Value) (t_sessions : Int32) (t_person : Nat → Int32) (t_first : Nat → Int32) (t_last : Nat → Int32) (t_beginning : Nat → Int32) (t_ending : Nat → Int32) (t_comer : Nat → Int32) (t_nextComer : Nat → Int32) : va_W := [(a_t, .inr (1, [z_t_people, .int t_sessions, z_t_places, z_t_forgetTenths, z_t_ownKeys, .ref a_t_person, .ref a_t_first, .ref a_t_last, z_t_minutes, z_t_risk, z_t_openFirst, z_t_openLast, z_t_homeMinutes, .ref a_t_beginning, .ref a_t_ending, .ref a_t_comer, .ref a_t_nextComer])), (a_t_person, .inl (cy 1, 8, .inl t_person)), (a_t_first, .inl (cy 1, 8, .inl t_first)), (a_t_last, .inl (cy 1, 8, .inl t_last)), (a_t_beginning, .inl (cy 1, 10, .inl t_beginning)), (a_t_ending, .inl (cy 1, 10, .inl t_ending)), (a_t_comer, .inl (cy 1, 10, .inl t_comer)), (a_t_nextComer, .inl (cy 1, 10, .inl t_nextComer))]
noncomputable def F_X1_beginAt_b36 (t_first : Nat → Int32) (t_last : Nat → Int32) (t_beginning : Nat → Int32) (t_ending : Nat → Int32) (t_comer : Nat → Int32) (t_nextComer : Nat → Int32) : (Nat → Int32) × (Nat → Int32) × (Nat → Int32) × (Nat → Int32) × (Nat → Int32) × (Nat → Int32) := (t_first, t_last, t_beginning, t_ending, t_comer, t_nextComer)
noncomputable def F_X1_beginAt (t_sessions : Int32) (t_person : Nat → Int32) (t_first : Nat → Int32) (t_last : Nat → Int32) (t_beginning : Nat → Int32) (t_ending : Nat → Int32) (t_comer : Nat → Int32) (t_nextComer : Nat → Int32) (x1 : Int32) (x2 : Int32) : (Nat → Int32) × (Nat → Int32) × (Nat → Int32) × (Nat → Int32) × (Nat → Int32) × (Nat → Int32) := (if (F_X1_isSession t_sessions x1) = (0 : Int32) then (t_first, t_last, t_beginning, t_ending, t_comer, t_nextComer) else ((fun (q : (Nat → Int32) × (Nat → Int32) × (Nat → Int32) × (Nat → Int32)) => (F_X1_beginAt_b36 (upd t_first x1.toNatClampNeg x2) (upd t_last x1.toNatClampNeg ((t_last x1.toNatClampNeg) + (x2 - (t_first x1.toNatClampNeg)))) q.1 q.2.1 q.2.2.1 q.2.2.2)) (F_X1_arrange t_sessions t_person (upd t_first x1.toNatClampNeg x2) (upd t_last x1.toNatClampNeg ((t_last x1.toNatClampNeg) + (x2 - (t_first x1.toNatClampNeg)))) t_beginning t_ending t_comer t_nextComer)))
def ok_X1_beginAt (t_sessions : Int32) (t_person : Nat → Int32) (t_first : Nat → Int32) (t_last : Nat → Int32) (t_beginning : Nat → Int32) (t_ending : Nat → Int32) (t_comer : Nat → Int32) (t_nextComer : Nat → Int32) (x1 : Int32) (x2 : Int32) : Prop := (¬ ((F_X1_isSession t_sessions x1) = (0 : Int32)) → (vp_in x1 8) ∧ (vp_in x1 8) ∧ (vp_in x1 8) ∧ (vp_in x1 8) ∧ (ok_X1_arrange t_sessions t_person (upd t_first x1.toNatClampNeg x2) (upd t_last x1.toNatClampNeg ((t_last x1.toNatClampNeg) + (x2 - (t_first x1.toNatClampNeg)))) t_beginning t_ending t_comer t_nextComer))
set_option maxHeartbeats 4000000 in
set_option maxRecDepth 100000 in
theorem w_X1_beginAt {p : Program} {l : Launch} {e : Env} {s : State} {m : MethodId} {args : Array Value} {below : List Frame} {meth : Method} {c : Code} {D : va_G} {cy : Nat → ClassId} {A : Nat → Prop} {QQ : State → Prop} {FV : (Nat → Int32) × (Nat → Int32) × (Nat → Int32) × (Nat → Int32) × (Nat → Int32) × (Nat → Int32)} (a_t : Nat) (a_t_person : Nat) (a_t_first : Nat) (a_t_last : Nat) (a_t_beginning : Nat) (a_t_ending : Nat) (a_t_comer : Nat) (a_t_nextComer : Nat) (z_t_people : Value) (z_t_places : Value) (z_t_forgetTenths : Value) (z_t_ownKeys : Value) (z_t_minutes : Value) (z_t_risk : Value) (z_t_openFirst : Value) (z_t_openLast : Value) (z_t_homeMinutes : Value) (t_sessions : Int32) (t_person : Nat → Int32) (t_first : Nat → Int32) (t_last : Nat → Int32) (t_beginning : Nat → Int32) (t_ending : Nat → Int32) (t_comer : Nat → Int32) (t_nextComer : Nat → Int32) (x1 : Int32) (x2 : Int32) (hx : p.tables.exec = Jvm.exec) (hb : c.code = cX1_beginAt) (hml : c.maxLocals = 3) (hown : s.vm.findClass RX1 = some m.cls) (hts : ∀ w ∈ Cond.code yX1_beginAt cX1_beginAt 3 none :: LW, w.before args s = true) (hG : GW D cy s) (hA : ∀ q, s.heap.size ≤ q → A q) (hret : ∀ (o0 : Nat → Int32) (o1 : Nat → Int32) (o2 : Nat → Int32) (o3 : Nat → Int32) (o4 : Nat → Int32) (o5 : Nat → Int32) (H : Heap) (locs : List Loc) (ls : Array Slot) (pc : Nat), va_P D vwCl (wd_X1_beginAt cy a_t a_t_person a_t_first a_t_last a_t_beginning a_t_ending a_t_comer a_t_nextComer z_t_people z_t_places z_t_forgetTenths z_t_ownKeys z_t_minutes z_t_risk z_t_openFirst z_t_openLast z_t_homeMinutes t_sessions t_person o0 o1 o2 o3 o4 o5) H → va_D A (wd_X1_beginAt cy a_t a_t_person a_t_first a_t_last a_t_beginning a_t_ending a_t_comer a_t_nextComer z_t_people z_t_places z_t_forgetTenths z_t_ownKeys z_t_minutes z_t_risk z_t_openFirst z_t_openLast z_t_homeMinutes t_sessions t_person o0 o1 o2 o3 o4 o5) → va_S A s.heap H locs → FV = (o0, o1, o2, o3, o4, o5) → decode cX1_beginAt pc = .ok (.return_, 1) → W p l e (rmk 2 46) s m args below meth c H locs 0 0 QQ (F0 m pc ls [])) (ls : Array Slot) (hl : lv_has ls 3 [(0, .ref a_t), (1, .int x1), (2, .int x2)]) (hP : va_P D vwCl (wd_X1_beginAt cy a_t a_t_person a_t_first a_t_last a_t_beginning a_t_ending a_t_comer a_t_nextComer z_t_people z_t_places z_t_forgetTenths z_t_ownKeys z_t_minutes z_t_risk z_t_openFirst z_t_openLast z_t_homeMinutes t_sessions t_person t_first t_last t_beginning t_ending t_comer t_nextComer) s.heap) (hD : va_D A (wd_X1_beginAt cy a_t a_t_person a_t_first a_t_last a_t_beginning a_t_ending a_t_comer a_t_nextComer z_t_people z_t_places z_t_forgetTenths z_t_ownKeys z_t_minutes z_t_risk z_t_openFirst z_t_openLast z_t_homeMinutes t_sessions t_person t_first t_last t_beginning t_ending t_comer t_nextComer)) (hok : (ok_X1_beginAt t_sessions t_person t_first t_last t_beginning t_ending t_comer t_nextComer x1 x2)) (hR : FV = (F_X1_beginAt t_sessions t_person t_first t_last t_beginning t_ending t_comer t_nextComer x1 x2)) : W p l e (rmk 2 46) s m args below meth c s.heap [] 0 0 QQ (F0 m 0 ls []) := by
  have hw : ∀ w ∈ LW, w.before args s = true := fun w h => hts w (List.mem_cons_of_mem _ h)
  have hK := hG.1
  have hS : va_S A s.heap s.heap [] := va_S.rf
  unfold F_X1_beginAt at hR
  unfold ok_X1_beginAt at hok
  refine lv_aload_n hx hb dX1_beginAt_0 rfl (lv_at hl 0 rfl) ?_
  refine lv_iload_n hx hb dX1_beginAt_1 rfl (lv_at hl 1 rfl) ?_
  refine rdIV (As := [.int x1]) (rest := []) hx hb hml hown hts hG hP k_X1_80 (c_X1_isSession (l := l) (D := D) (cy := cy) a_t z_t_people z_t_places z_t_forgetTenths z_t_ownKeys (.ref a_t_person) (.ref a_t_first) (.ref a_t_last) z_t_minutes z_t_risk z_t_openFirst z_t_openLast z_t_homeMinutes (.ref a_t_beginning) (.ref a_t_ending) (.ref a_t_comer) (.ref a_t_nextComer) t_sessions x1) ⟨Nat.le_of_ble_eq_true rfl, Nat.le_of_ble_eq_true rfl⟩ [0] rfl 0 rfl rfl rfl rfl hl.1 rfl (Nat.le_of_ble_eq_true rfl) ⟨Nat.zero_le _, Nat.zero_le _⟩ dX1_beginAt_2 ?_
  refine lv_if_eq (tgt := 36) hx hb dX1_beginAt_5 (by decide) (fun c_5 => ?_) (fun c_5 => ?_)
  · replace hR := bp hR c_5
    exact hret t_first t_last t_beginning t_ending t_comer t_nextComer _ _ _ _ hP hD hS hR dX1_beginAt_36
  · replace hR := bn hR c_5
    replace hok := hok c_5
    refine lv_aload_n hx hb dX1_beginAt_8 rfl (lv_at hl 0 rfl) ?_
    refine g_X1_34 hx hb hw hown hK hP 0 rfl rfl dX1_beginAt_9 ?_
    refine lv_iload_n hx hb dX1_beginAt_12 rfl (lv_at hl 1 rfl) ?_
    refine lv_dup2_11 hx hb dX1_beginAt_13 rfl rfl ?_
    obtain ⟨h_14_0, hok⟩ := hok
    refine va_iald hx hb hK hP 3 1 rfl rfl h_14_0 dX1_beginAt_14 ?_
    refine lv_iload_n hx hb dX1_beginAt_15 rfl (lv_at hl 2 rfl) ?_
    refine lv_aload_n hx hb dX1_beginAt_16 rfl (lv_at hl 0 rfl) ?_
    refine g_X1_31 hx hb hw hown hK hP 0 rfl rfl dX1_beginAt_17 ?_
    refine lv_iload_n hx hb dX1_beginAt_20 rfl (lv_at hl 1 rfl) ?_
    obtain ⟨h_21_0, hok⟩ := hok
    refine va_iald hx hb hK hP 2 1 rfl rfl h_21_0 dX1_beginAt_21 ?_
    refine lv_isub hx hb dX1_beginAt_22 ?_
    refine lv_iadd hx hb dX1_beginAt_23 ?_
    obtain ⟨h_24_0, hok⟩ := hok
    refine va_iast hx hb hK hP hD hS 3 1 rfl rfl h_24_0 dX1_beginAt_24 (fun H locs hP hD hS => ?_)
    replace hP : va_P D vwCl (wd_X1_beginAt cy a_t a_t_person a_t_first a_t_last a_t_beginning a_t_ending a_t_comer a_t_nextComer z_t_people z_t_places z_t_forgetTenths z_t_ownKeys z_t_minutes z_t_risk z_t_openFirst z_t_openLast z_t_homeMinutes t_sessions t_person t_first (upd t_last x1.toNatClampNeg ((t_last x1.toNatClampNeg) + (x2 - (t_first x1.toNatClampNeg)))) t_beginning t_ending t_comer t_nextComer) H := hP
    replace hD : va_D A (wd_X1_beginAt cy a_t a_t_person a_t_first a_t_last a_t_beginning a_t_ending a_t_comer a_t_nextComer z_t_people z_t_places z_t_forgetTenths z_t_ownKeys z_t_minutes z_t_risk z_t_openFirst z_t_openLast z_t_homeMinutes t_sessions t_person t_first (upd t_last x1.toNatClampNeg ((t_last x1.toNatClampNeg) + (x2 - (t_first x1.toNatClampNeg)))) t_beginning t_ending t_comer t_nextComer) := hD
    refine lv_aload_n hx hb dX1_beginAt_25 rfl (lv_at hl 0 rfl) ?_
    refine g_X1_31 hx hb hw hown hK hP 0 rfl rfl dX1_beginAt_26 ?_
    refine lv_iload_n hx hb dX1_beginAt_29 rfl (lv_at hl 1 rfl) ?_
    refine lv_iload_n hx hb dX1_beginAt_30 rfl (lv_at hl 2 rfl) ?_
    obtain ⟨h_31_0, hok⟩ := hok
    refine va_iast hx hb hK hP hD hS 2 1 rfl rfl h_31_0 dX1_beginAt_31 (fun H locs hP hD hS => ?_)
    replace hP : va_P D vwCl (wd_X1_beginAt cy a_t a_t_person a_t_first a_t_last a_t_beginning a_t_ending a_t_comer a_t_nextComer z_t_people z_t_places z_t_forgetTenths z_t_ownKeys z_t_minutes z_t_risk z_t_openFirst z_t_openLast z_t_homeMinutes t_sessions t_person (upd t_first x1.toNatClampNeg x2) (upd t_last x1.toNatClampNeg ((t_last x1.toNatClampNeg) + (x2 - (t_first x1.toNatClampNeg)))) t_beginning t_ending t_comer t_nextComer) H := hP
    replace hD : va_D A (wd_X1_beginAt cy a_t a_t_person a_t_first a_t_last a_t_beginning a_t_ending a_t_comer a_t_nextComer z_t_people z_t_places z_t_forgetTenths z_t_ownKeys z_t_minutes z_t_risk z_t_openFirst z_t_openLast z_t_homeMinutes t_sessions t_person (upd t_first x1.toNatClampNeg x2) (upd t_last x1.toNatClampNeg ((t_last x1.toNatClampNeg) + (x2 - (t_first x1.toNatClampNeg)))) t_beginning t_ending t_comer t_nextComer) := hD
    refine lv_aload_n hx hb dX1_beginAt_32 rfl (lv_at hl 0 rfl) ?_
    have hok_33 := hok
    refine wkVV (As := []) (rest := []) hx hb hml hown hts hG hP hD hS hA k_X1_70 (c_X1_arrange (l := l) (D := D) (cy := cy) a_t a_t_person a_t_first a_t_last a_t_beginning a_t_ending a_t_comer a_t_nextComer z_t_people z_t_places z_t_forgetTenths z_t_ownKeys z_t_minutes z_t_risk z_t_openFirst z_t_openLast z_t_homeMinutes t_sessions t_person (upd t_first x1.toNatClampNeg x2) (upd t_last x1.toNatClampNeg ((t_last x1.toNatClampNeg) + (x2 - (t_first x1.toNatClampNeg)))) t_beginning t_ending t_comer t_nextComer H.size hok_33) ⟨Nat.le_of_ble_eq_true rfl, Nat.le_of_ble_eq_true rfl⟩ [0, 1, 2, 3, 4, 5, 6, 7] [] [0, 1, 2, 3, 4, 5, 6, 7] (N := 8) rfl (by decide +kernel) rfl 0 rfl rfl rfl rfl hl.1 rfl (Nat.le_of_ble_eq_true rfl) ⟨Nat.zero_le _, Nat.zero_le _⟩ dX1_beginAt_33 (fun u => (wd_X1_beginAt cy a_t a_t_person a_t_first a_t_last a_t_beginning a_t_ending a_t_comer a_t_nextComer z_t_people z_t_places z_t_forgetTenths z_t_ownKeys z_t_minutes z_t_risk z_t_openFirst z_t_openLast z_t_homeMinutes t_sessions t_person (upd t_first x1.toNatClampNeg x2) (upd t_last x1.toNatClampNeg ((t_last x1.toNatClampNeg) + (x2 - (t_first x1.toNatClampNeg)))) u.1 u.2.1 u.2.2.1 u.2.2.2)) (fun _ => rfl) (fun u_33 H locs e_33 hP hD hS => ?_)
    obtain ⟨o33_0, o33_1, o33_2, o33_3⟩ := u_33
    replace hP : va_P D vwCl (wd_X1_beginAt cy a_t a_t_person a_t_first a_t_last a_t_beginning a_t_ending a_t_comer a_t_nextComer z_t_people z_t_places z_t_forgetTenths z_t_ownKeys z_t_minutes z_t_risk z_t_openFirst z_t_openLast z_t_homeMinutes t_sessions t_person (upd t_first x1.toNatClampNeg x2) (upd t_last x1.toNatClampNeg ((t_last x1.toNatClampNeg) + (x2 - (t_first x1.toNatClampNeg)))) o33_0 o33_1 o33_2 o33_3) H := hP
    replace hD : va_D A (wd_X1_beginAt cy a_t a_t_person a_t_first a_t_last a_t_beginning a_t_ending a_t_comer a_t_nextComer z_t_people z_t_places z_t_forgetTenths z_t_ownKeys z_t_minutes z_t_risk z_t_openFirst z_t_openLast z_t_homeMinutes t_sessions t_person (upd t_first x1.toNatClampNeg x2) (upd t_last x1.toNatClampNeg ((t_last x1.toNatClampNeg) + (x2 - (t_first x1.toNatClampNeg)))) o33_0 o33_1 o33_2 o33_3) := hD
    have hR2 := hRq (fun (q : (Nat → Int32) × (Nat → Int32) × (Nat → Int32) × (Nat → Int32)) => (F_X1_beginAt_b36 (upd t_first x1.toNatClampNeg x2) (upd t_last x1.toNatClampNeg ((t_last x1.toNatClampNeg) + (x2 - (t_first x1.toNatClampNeg)))) q.1 q.2.1 q.2.2.1 q.2.2.2)) e_33 hR
    replace hR : FV = (F_X1_beginAt_b36 (upd t_first x1.toNatClampNeg x2) (upd t_last x1.toNatClampNeg ((t_last x1.toNatClampNeg) + (x2 - (t_first x1.toNatClampNeg)))) o33_0 o33_1 o33_2 o33_3) := hR2
    unfold F_X1_beginAt_b36 at hR
    exact hret (upd t_first x1.toNatClampNeg x2) (upd t_last x1.toNatClampNeg ((t_last x1.toNatClampNeg) + (x2 - (t_first x1.toNatClampNeg)))) o33_0 o33_1 o33_2 o33_3 _ _ _ _ hP hD hS hR dX1_beginAt_36
set_option maxHeartbeats 1000000 in
set_option maxRecDepth 100000 in
theorem c_X1_beginAt {l : Launch} {D : va_G} {cy : Nat → ClassId} (a_t : Nat) (a_t_person : Nat) (a_t_first : Nat) (a_t_last : Nat) (a_t_beginning : Nat) (a_t_ending : Nat) (a_t_comer : Nat) (a_t_nextComer : Nat) (z_t_people : Value) (z_t_places : Value) (z_t_forgetTenths : Value) (z_t_ownKeys : Value) (z_t_minutes : Value) (z_t_risk : Value) (z_t_openFirst : Value) (z_t_openLast : Value) (z_t_homeMinutes : Value) (t_sessions : Int32) (t_person : Nat → Int32) (t_first : Nat → Int32) (t_last : Nat → Int32) (t_beginning : Nat → Int32) (t_ending : Nat → Int32) (t_comer : Nat → Int32) (t_nextComer : Nat → Int32) (x1 : Int32) (x2 : Int32) (sz : Nat) (hok : (ok_X1_beginAt t_sessions t_person t_first t_last t_beginning t_ending t_comer t_nextComer x1 x2)) : WrV (S := (Nat → Int32) × (Nat → Int32) × (Nat → Int32) × (Nat → Int32) × (Nat → Int32) × (Nat → Int32)) l yX1_beginAt cX1_beginAt 3 none 2 46 D cy [.ref a_t, .int x1, .int x2] (wd_X1_beginAt cy a_t a_t_person a_t_first a_t_last a_t_beginning a_t_ending a_t_comer a_t_nextComer z_t_people z_t_places z_t_forgetTenths z_t_ownKeys z_t_minutes z_t_risk z_t_openFirst z_t_openLast z_t_homeMinutes t_sessions t_person t_first t_last t_beginning t_ending t_comer t_nextComer) (fun u => (wd_X1_beginAt cy a_t a_t_person a_t_first a_t_last a_t_beginning a_t_ending a_t_comer a_t_nextComer z_t_people z_t_places z_t_forgetTenths z_t_ownKeys z_t_minutes z_t_risk z_t_openFirst z_t_openLast z_t_homeMinutes t_sessions t_person u.1 u.2.1 u.2.2.1 u.2.2.2.1 u.2.2.2.2.1 u.2.2.2.2.2)) (F_X1_beginAt t_sessions t_person t_first t_last t_beginning t_ending t_comer t_nextComer x1 x2) sz := by
  refine Met.ofW (cc := cX1_beginAt) (maxL := 3) (ret := none) (by decide) rfl ?_
  intro p e s m args below meth c s₁ B hml hv
  obtain ⟨rfl, hsz, hP, hG, hD0⟩ := hv
  subst hsz
  have hD := hD0.self (sz := s.heap.size)
  have hr := B.returns
  have hlocks := B.notSynchronized
  have hl := lv_entry ([.ref a_t, .int x1, .int x2]) (n := 3) (Nat.le_of_ble_eq_true rfl)
  rw [lg_entry_eq]
  generalize (lg_sl ([.ref a_t, .int x1, .int x2]) ++ List.replicate (3 - (lg_sl ([.ref a_t, .int x1, .int x2])).length) Slot.unset).toArray = ls at hl ⊢
  exact w_X1_beginAt a_t a_t_person a_t_first a_t_last a_t_beginning a_t_ending a_t_comer a_t_nextComer z_t_people z_t_places z_t_forgetTenths z_t_ownKeys z_t_minutes z_t_risk z_t_openFirst z_t_openLast z_t_homeMinutes t_sessions t_person t_first t_last t_beginning t_ending t_comer t_nextComer x1 x2 B.exec B.bytes hml (findClass_of_methodNamed B.named) (atoms_spec (ws := Cond.code yX1_beginAt cX1_beginAt 3 none :: LW) B.pre) hG (fun q h => Or.inr h) (fun o0 o1 o2 o3 o4 o5 H locs ls pc hP hD hS hF hdg => W.vret B.exec B.bytes hr (fun t ht hW => ⟨⟨(o0, o1, o2, o3, o4, o5), rfl, hF.symm, by rw [ht]; exact hP, hD⟩, hS.F ht⟩) hS.2.2 hdg) ls hl hP hD hok rfl
abbrev wd_X1_under (cy : Nat → ClassId) (a_t : Nat) (a_t_first : Nat) (a_t_last : Nat) (z_t_people : Value) (z_t_places : Value) (z_t_forgetTenths : Value) (z_t_ownKeys : Value) (z_t_person : Value) (z_t_minutes : Value) (z_t_risk : Value) (z_t_openFirst : Value) (z_t_openLast : Value) (z_t_homeMinutes : Value) (z_t_beginning : Value) (z_t_ending : Value) (z_t_comer : Value) (z_t_nextComer : Value) (t_sessions : Int32) (t_first : Nat → Int32) (t_last : Nat → Int32) : va_W := [(a_t, .inr (1, [z_t_people, .int t_sessions, z_t_places, z_t_forgetTenths, z_t_ownKeys, z_t_person, .ref a_t_first, .ref a_t_last, z_t_minutes, z_t_risk, z_t_openFirst, z_t_openLast, z_t_homeMinutes, z_t_beginning, z_t_ending, z_t_comer, z_t_nextComer])), (a_t_first, .inl (cy 1, 8, .inl t_first)), (a_t_last, .inl (cy 1, 8, .inl t_last))]
noncomputable def F_X1_under_b44 (v2 : Int32) : Int32 := v2
noncomputable def F_X1_under_L4 (t_sessions : Int32) (t_first : Nat → Int32) (t_last : Nat → Int32) (x1 : Int32) (n : Nat) : Int32 → Int32 → Int32 := Nat.rec (motive := fun _ => Int32 → Int32 → Int32) (fun _ _ => (0 : Int32)) (fun _ ih v2 v3 => (if t_sessions ≤ v3 then v2 else (if x1 ≤ (t_first v3.toNatClampNeg) then (ih v2 (v3 + (1 : Int32))) else (if (t_last v3.toNatClampNeg) < x1 then (ih v2 (v3 + (1 : Int32))) else (ih (v2 ||| ((1 : Int32) <<< (v3 &&& (31 : Int32)))) (v3 + (1 : Int32))))))) n
theorem F_X1_under_L4_s {t_sessions : Int32} {t_first : Nat → Int32} {t_last : Nat → Int32} {x1 : Int32} {n : Nat} {v2 : Int32} {v3 : Int32} : F_X1_under_L4 t_sessions t_first t_last x1 (n + 1) v2 v3 = (if t_sessions ≤ v3 then v2 else (if x1 ≤ (t_first v3.toNatClampNeg) then ((F_X1_under_L4 t_sessions t_first t_last x1 n) v2 (v3 + (1 : Int32))) else (if (t_last v3.toNatClampNeg) < x1 then ((F_X1_under_L4 t_sessions t_first t_last x1 n) v2 (v3 + (1 : Int32))) else ((F_X1_under_L4 t_sessions t_first t_last x1 n) (v2 ||| ((1 : Int32) <<< (v3 &&& (31 : Int32)))) (v3 + (1 : Int32)))))) := rfl
def ok_X1_under_L4 (t_sessions : Int32) (t_first : Nat → Int32) (t_last : Nat → Int32) (x1 : Int32) (n : Nat) : Int32 → Int32 → Prop := Nat.rec (motive := fun _ => Int32 → Int32 → Prop) (fun _ _ => False) (fun _ oih v2 v3 => (¬ (t_sessions ≤ v3) → (vp_in v3 8) ∧ ((x1 ≤ (t_first v3.toNatClampNeg) → (oih v2 (v3 + (1 : Int32)))) ∧ (¬ (x1 ≤ (t_first v3.toNatClampNeg)) → (vp_in v3 8) ∧ (((t_last v3.toNatClampNeg) < x1 → (oih v2 (v3 + (1 : Int32)))) ∧ (¬ ((t_last v3.toNatClampNeg) < x1) → (oih (v2 ||| ((1 : Int32) <<< (v3 &&& (31 : Int32)))) (v3 + (1 : Int32))))))))) n
theorem ok_X1_under_L4_s {t_sessions : Int32} {t_first : Nat → Int32} {t_last : Nat → Int32} {x1 : Int32} {n : Nat} {v2 : Int32} {v3 : Int32} : ok_X1_under_L4 t_sessions t_first t_last x1 (n + 1) v2 v3 ↔ ((¬ (t_sessions ≤ v3) → (vp_in v3 8) ∧ ((x1 ≤ (t_first v3.toNatClampNeg) → ((ok_X1_under_L4 t_sessions t_first t_last x1 n) v2 (v3 + (1 : Int32)))) ∧ (¬ (x1 ≤ (t_first v3.toNatClampNeg)) → (vp_in v3 8) ∧ (((t_last v3.toNatClampNeg) < x1 → ((ok_X1_under_L4 t_sessions t_first t_last x1 n) v2 (v3 + (1 : Int32)))) ∧ (¬ ((t_last v3.toNatClampNeg) < x1) → ((ok_X1_under_L4 t_sessions t_first t_last x1 n) (v2 ||| ((1 : Int32) <<< (v3 &&& (31 : Int32)))) (v3 + (1 : Int32))))))))) := Iff.rfl
noncomputable def F_X1_under (t_sessions : Int32) (t_first : Nat → Int32) (t_last : Nat → Int32) (x1 : Int32) : Int32 := ((fun (q : Int32) => (F_X1_under_b44 q)) (F_X1_under_L4 t_sessions t_first t_last x1 FU (0 : Int32) (0 : Int32)))
def ok_X1_under (t_sessions : Int32) (t_first : Nat → Int32) (t_last : Nat → Int32) (x1 : Int32) : Prop := (ok_X1_under_L4 t_sessions t_first t_last x1 FU (0 : Int32) (0 : Int32))
set_option maxHeartbeats 4000000 in
set_option maxRecDepth 100000 in
theorem w_X1_under {p : Program} {l : Launch} {e : Env} {s : State} {m : MethodId} {args : Array Value} {below : List Frame} {meth : Method} {c : Code} {D : va_G} {cy : Nat → ClassId} {QQ : State → Prop} {FV : Int32} (a_t : Nat) (a_t_first : Nat) (a_t_last : Nat) (z_t_people : Value) (z_t_places : Value) (z_t_forgetTenths : Value) (z_t_ownKeys : Value) (z_t_person : Value) (z_t_minutes : Value) (z_t_risk : Value) (z_t_openFirst : Value) (z_t_openLast : Value) (z_t_homeMinutes : Value) (z_t_beginning : Value) (z_t_ending : Value) (z_t_comer : Value) (z_t_nextComer : Value) (t_sessions : Int32) (t_first : Nat → Int32) (t_last : Nat → Int32) (x1 : Int32) (hx : p.tables.exec = Jvm.exec) (hb : c.code = cX1_under) (hml : c.maxLocals = 4) (hown : s.vm.findClass RX1 = some m.cls) (hts : ∀ w ∈ Cond.code yX1_under cX1_under 4 (some .int) :: LW, w.before args s = true) (hG : GW D cy s) (hret : ∀ (r : Int32) (ls : Array Slot) (pc : Nat), FV = r → decode cX1_under pc = .ok (.ireturn, 1) → W p l e (rmk 0 0) s m args below meth c s.heap [] 0 0 QQ (F0 m pc ls [.int r])) (ls : Array Slot) (hl : lv_has ls 4 [(0, .ref a_t), (1, .int x1)]) (hP : va_P D vwCl (wd_X1_under cy a_t a_t_first a_t_last z_t_people z_t_places z_t_forgetTenths z_t_ownKeys z_t_person z_t_minutes z_t_risk z_t_openFirst z_t_openLast z_t_homeMinutes z_t_beginning z_t_ending z_t_comer z_t_nextComer t_sessions t_first t_last) s.heap) (hok : (ok_X1_under t_sessions t_first t_last x1)) (hR : FV = (F_X1_under t_sessions t_first t_last x1)) : W p l e (rmk 0 0) s m args below meth c s.heap [] 0 0 QQ (F0 m 0 ls []) := by
  have hw : ∀ w ∈ LW, w.before args s = true := fun w h => hts w (List.mem_cons_of_mem _ h)
  have hK := hG.1
  unfold F_X1_under at hR
  unfold ok_X1_under at hok
  refine lv_iconst (v := 0) hx hb dX1_under_0 (by decide) ?_
  refine lv_istore_n (lv' := [(2, .int (0 : Int32)), (0, .ref a_t), (1, .int x1)]) hx hb dX1_under_1 rfl hl (Nat.le_of_ble_eq_true rfl) rfl (fun ls hl => ?_)
  refine lv_iconst (v := 0) hx hb dX1_under_2 (by decide) ?_
  refine lv_istore_n (lv' := [(3, .int (0 : Int32)), (2, .int (0 : Int32)), (0, .ref a_t), (1, .int x1)]) hx hb dX1_under_3 rfl hl (Nat.le_of_ble_eq_true rfl) rfl (fun ls hl => ?_)
  have L_4 : ∀ (n_4 : Nat) (V : Int32) (v2_4 : Int32) (v3_4 : Int32) (ls : Array Slot), lv_has ls 4 [(0, .ref a_t), (1, .int x1), (2, .int v2_4), (3, .int v3_4)] → (ok_X1_under_L4 t_sessions t_first t_last x1 n_4 v2_4 v3_4) → V = (F_X1_under_L4 t_sessions t_first t_last x1 n_4 v2_4 v3_4) → (∀ (e4_0 : Int32) (ls : Array Slot), lv_has ls 4 [(2, .int e4_0)] → V = e4_0 → W p l e (rmk 0 0) s m args below meth c s.heap [] 0 0 QQ (F0 m 44 ls [])) → W p l e (rmk 0 0) s m args below meth c s.heap [] 0 0 QQ (F0 m 4 ls []) := by
    intro n_4
    induction n_4 with
    | zero => intro V v2_4 v3_4 ls hl hok; exact False.elim hok
    | succ n_4 ih4 =>
      intro V v2_4 v3_4 ls hl hok hR hX
      replace hR := hR.trans F_X1_under_L4_s
      replace hok := ok_X1_under_L4_s.mp hok
      refine lv_iload_n hx hb dX1_under_4 rfl (lv_at hl 3 rfl) ?_
      refine lv_aload_n hx hb dX1_under_5 rfl (lv_at hl 0 rfl) ?_
      refine g_X1_15 hx hb hw hown hK hP 0 rfl rfl dX1_under_6 ?_
      refine lv_icmp_ge (tgt := 44) hx hb dX1_under_9 (by decide) (fun c_9 => ?_) (fun c_9 => ?_)
      · replace hR := bp hR c_9
        exact hX v2_4 _ (lv_sub hl [2] rfl) hR
      · replace hR := bn hR c_9
        replace hok := hok c_9
        refine lv_aload_n hx hb dX1_under_12 rfl (lv_at hl 0 rfl) ?_
        refine g_X1_31 hx hb hw hown hK hP 0 rfl rfl dX1_under_13 ?_
        refine lv_iload_n hx hb dX1_under_16 rfl (lv_at hl 3 rfl) ?_
        obtain ⟨h_17_0, hok⟩ := hok
        refine va_iald hx hb hK hP 1 1 rfl rfl h_17_0 dX1_under_17 ?_
        refine lv_iload_n hx hb dX1_under_18 rfl (lv_at hl 1 rfl) ?_
        refine lv_icmp_ge (tgt := 38) hx hb dX1_under_19 (by decide) (fun c_19 => ?_) (fun c_19 => ?_)
        · replace hR := bp hR c_19
          replace hok := hok.1 c_19
          refine lv_iinc (v := (v3_4 + (1 : Int32))) (lv' := [(3, .int (v3_4 + (1 : Int32))), (0, .ref a_t), (1, .int x1), (2, .int v2_4)]) hx hb dX1_under_38 hl (k := 3) rfl rfl (Nat.le_of_ble_eq_true rfl) rfl (fun ls hl => ?_)
          refine lv_goto (tgt := 4) hx hb dX1_under_41 (by decide) ?_
          exact ih4 V v2_4 (v3_4 + (1 : Int32)) _ (lv_sub hl [1, 2, 3, 0] rfl) hok hR hX
        · replace hR := bn hR c_19
          replace hok := hok.2 c_19
          refine lv_iload_n hx hb dX1_under_22 rfl (lv_at hl 1 rfl) ?_
          refine lv_aload_n hx hb dX1_under_23 rfl (lv_at hl 0 rfl) ?_
          refine g_X1_34 hx hb hw hown hK hP 0 rfl rfl dX1_under_24 ?_
          refine lv_iload_n hx hb dX1_under_27 rfl (lv_at hl 3 rfl) ?_
          obtain ⟨h_28_0, hok⟩ := hok
          refine va_iald hx hb hK hP 2 1 rfl rfl h_28_0 dX1_under_28 ?_
          refine lv_icmp_gt (tgt := 38) hx hb dX1_under_29 (by decide) (fun c_29 => ?_) (fun c_29 => ?_)
          · replace hR := bp hR c_29
            replace hok := hok.1 c_29
            refine lv_iinc (v := (v3_4 + (1 : Int32))) (lv' := [(3, .int (v3_4 + (1 : Int32))), (0, .ref a_t), (1, .int x1), (2, .int v2_4)]) hx hb dX1_under_38 hl (k := 3) rfl rfl (Nat.le_of_ble_eq_true rfl) rfl (fun ls hl => ?_)
            refine lv_goto (tgt := 4) hx hb dX1_under_41 (by decide) ?_
            exact ih4 V v2_4 (v3_4 + (1 : Int32)) _ (lv_sub hl [1, 2, 3, 0] rfl) hok hR hX
          · replace hR := bn hR c_29
            replace hok := hok.2 c_29
            refine lv_iload_n hx hb dX1_under_32 rfl (lv_at hl 2 rfl) ?_
            refine lv_iconst (v := 1) hx hb dX1_under_33 (by decide) ?_
            refine lv_iload_n hx hb dX1_under_34 rfl (lv_at hl 3 rfl) ?_
            refine lv_ishl hx hb dX1_under_35 ?_
            refine lv_ior hx hb dX1_under_36 ?_
            refine lv_istore_n (lv' := [(2, .int (v2_4 ||| ((1 : Int32) <<< (v3_4 &&& (31 : Int32))))), (0, .ref a_t), (1, .int x1), (3, .int v3_4)]) hx hb dX1_under_37 rfl hl (Nat.le_of_ble_eq_true rfl) rfl (fun ls hl => ?_)
            refine lv_iinc (v := (v3_4 + (1 : Int32))) (lv' := [(3, .int (v3_4 + (1 : Int32))), (2, .int (v2_4 ||| ((1 : Int32) <<< (v3_4 &&& (31 : Int32))))), (0, .ref a_t), (1, .int x1)]) hx hb dX1_under_38 hl (k := 3) rfl rfl (Nat.le_of_ble_eq_true rfl) rfl (fun ls hl => ?_)
            refine lv_goto (tgt := 4) hx hb dX1_under_41 (by decide) ?_
            exact ih4 V (v2_4 ||| ((1 : Int32) <<< (v3_4 &&& (31 : Int32)))) (v3_4 + (1 : Int32)) _ (lv_sub hl [2, 3, 1, 0] rfl) hok hR hX
  have hokL := hok
  refine L_4 FU _ (0 : Int32) (0 : Int32) _ (lv_sub hl [2, 3, 1, 0] rfl) hokL rfl (fun e4_0 ls hl hE => ?_)
  have hR2 := hRq (fun (q : Int32) => (F_X1_under_b44 q)) hE.symm hR
  replace hR : FV = (F_X1_under_b44 e4_0) := hR2
  unfold F_X1_under_b44 at hR
  refine lv_iload_n hx hb dX1_under_44 rfl (lv_at hl 0 rfl) ?_
  exact hret e4_0 _ _ hR dX1_under_45
set_option maxHeartbeats 1000000 in
set_option maxRecDepth 100000 in
theorem c_X1_under {l : Launch} {D : va_G} {cy : Nat → ClassId} (a_t : Nat) (a_t_first : Nat) (a_t_last : Nat) (z_t_people : Value) (z_t_places : Value) (z_t_forgetTenths : Value) (z_t_ownKeys : Value) (z_t_person : Value) (z_t_minutes : Value) (z_t_risk : Value) (z_t_openFirst : Value) (z_t_openLast : Value) (z_t_homeMinutes : Value) (z_t_beginning : Value) (z_t_ending : Value) (z_t_comer : Value) (z_t_nextComer : Value) (t_sessions : Int32) (t_first : Nat → Int32) (t_last : Nat → Int32) (x1 : Int32) (hok : (ok_X1_under t_sessions t_first t_last x1)) : RdI l yX1_under cX1_under 4 (some .int) 0 0 D cy [.ref a_t, .int x1] (wd_X1_under cy a_t a_t_first a_t_last z_t_people z_t_places z_t_forgetTenths z_t_ownKeys z_t_person z_t_minutes z_t_risk z_t_openFirst z_t_openLast z_t_homeMinutes z_t_beginning z_t_ending z_t_comer z_t_nextComer t_sessions t_first t_last) (F_X1_under t_sessions t_first t_last x1) := by
  refine Met.ofW (cc := cX1_under) (maxL := 4) (ret := (some .int)) (by decide) rfl ?_
  intro p e s m args below meth c s₁ B hml hv
  obtain ⟨rfl, hP, hG⟩ := hv
  have hr := B.returns
  have hlocks := B.notSynchronized
  have hl := lv_entry ([.ref a_t, .int x1]) (n := 4) (Nat.le_of_ble_eq_true rfl)
  rw [lg_entry_eq]
  generalize (lg_sl ([.ref a_t, .int x1]) ++ List.replicate (4 - (lg_sl ([.ref a_t, .int x1])).length) Slot.unset).toArray = ls at hl ⊢
  exact w_X1_under a_t a_t_first a_t_last z_t_people z_t_places z_t_forgetTenths z_t_ownKeys z_t_person z_t_minutes z_t_risk z_t_openFirst z_t_openLast z_t_homeMinutes z_t_beginning z_t_ending z_t_comer z_t_nextComer t_sessions t_first t_last x1 B.exec B.bytes hml (findClass_of_methodNamed B.named) (atoms_spec (ws := Cond.code yX1_under cX1_under 4 (some .int) :: LW) B.pre) hG (fun r ls pc hF hdg => W.iret (v := r) B.exec B.bytes hr (fun t ht hW => ⟨r, rfl, hF.symm, ht⟩) (fun _ h => absurd h List.not_mem_nil) hdg) ls hl hP hok rfl
abbrev wd_X11_whereAt (cy : Nat → ClassId) : va_W := []
noncomputable def F_X11_whereAt (x0 : Int32) : Int32 := (if (4 : Int32) ≤ x0 then (if (10 : Int32) ≤ x0 then (20 : Int32) else ((x0 - (4 : Int32)) + (10 : Int32))) else x0)
set_option maxHeartbeats 4000000 in
set_option maxRecDepth 100000 in
theorem w_X11_whereAt {p : Program} {l : Launch} {e : Env} {s : State} {m : MethodId} {args : Array Value} {below : List Frame} {meth : Method} {c : Code} {D : va_G} {cy : Nat → ClassId} {QQ : State → Prop} {FV : Int32} (x0 : Int32) (hx : p.tables.exec = Jvm.exec) (hb : c.code = cX11_whereAt) (hml : c.maxLocals = 1) (hown : s.vm.findClass RX11 = some m.cls) (hts : ∀ w ∈ Cond.code yX11_whereAt cX11_whereAt 1 (some .int) :: LW, w.before args s = true) (hG : GW D cy s) (hret : ∀ (r : Int32) (ls : Array Slot) (pc : Nat), FV = r → decode cX11_whereAt pc = .ok (.ireturn, 1) → W p l e (rmk 0 0) s m args below meth c s.heap [] 0 0 QQ (F0 m pc ls [.int r])) (ls : Array Slot) (hl : lv_has ls 1 [(0, .int x0)]) (hP : va_P D vwCl (wd_X11_whereAt cy) s.heap) (hR : FV = (F_X11_whereAt x0)) : W p l e (rmk 0 0) s m args below meth c s.heap [] 0 0 QQ (F0 m 0 ls []) := by
  have hw : ∀ w ∈ LW, w.before args s = true := fun w h => hts w (List.mem_cons_of_mem _ h)
  have hK := hG.1
  unfold F_X11_whereAt at hR
  refine lv_iload_n hx hb dX11_whereAt_0 rfl (lv_at hl 0 rfl) ?_
  refine lv_iconst (v := 4) hx hb dX11_whereAt_1 (by decide) ?_
  refine lv_icmp_ge (tgt := 7) hx hb dX11_whereAt_2 (by decide) (fun c_2 => ?_) (fun c_2 => ?_)
  · replace hR := bp hR c_2
    refine lv_iload_n hx hb dX11_whereAt_7 rfl (lv_at hl 0 rfl) ?_
    refine lv_bipush (v := 10) hx hb dX11_whereAt_8 (by decide) ?_
    have K_10 : W p l e (rmk 0 0) s m args below meth c s.heap [] 0 0 QQ (F0 m 24 ls [.int (if (10 : Int32) ≤ x0 then (20 : Int32) else ((x0 - (4 : Int32)) + (10 : Int32)))]) := by
      exact hret (if (10 : Int32) ≤ x0 then (20 : Int32) else ((x0 - (4 : Int32)) + (10 : Int32))) _ _ hR dX11_whereAt_24
    refine lv_icmp_ge (tgt := 22) hx hb dX11_whereAt_10 (by decide) (fun c_10 => ?_) (fun c_10 => ?_)
    · refine lv_bipush (v := 20) hx hb dX11_whereAt_22 (by decide) ?_
      exact W.eq (congrArg (fun z => F0 m 24 ls (Value.int z :: [])) (if_pos c_10).symm) K_10
    · refine lv_iload_n hx hb dX11_whereAt_13 rfl (lv_at hl 0 rfl) ?_
      refine lv_iconst (v := 4) hx hb dX11_whereAt_14 (by decide) ?_
      refine lv_isub hx hb dX11_whereAt_15 ?_
      refine lv_bipush (v := 10) hx hb dX11_whereAt_16 (by decide) ?_
      refine lv_iadd hx hb dX11_whereAt_18 ?_
      refine lv_goto (tgt := 24) hx hb dX11_whereAt_19 (by decide) ?_
      exact W.eq (congrArg (fun z => F0 m 24 ls (Value.int z :: [])) (if_neg c_10).symm) K_10
  · replace hR := bn hR c_2
    refine lv_iload_n hx hb dX11_whereAt_5 rfl (lv_at hl 0 rfl) ?_
    exact hret x0 _ _ hR dX11_whereAt_6
set_option maxHeartbeats 1000000 in
set_option maxRecDepth 100000 in
theorem c_X11_whereAt {l : Launch} {D : va_G} {cy : Nat → ClassId} (x0 : Int32) : RdI l yX11_whereAt cX11_whereAt 1 (some .int) 0 0 D cy [.int x0] (wd_X11_whereAt cy) (F_X11_whereAt x0) := by
  refine Met.ofW (cc := cX11_whereAt) (maxL := 1) (ret := (some .int)) (by decide) rfl ?_
  intro p e s m args below meth c s₁ B hml hv
  obtain ⟨rfl, hP, hG⟩ := hv
  have hr := B.returns
  have hlocks := B.notSynchronized
  have hl := lv_entry ([.int x0]) (n := 1) (Nat.le_of_ble_eq_true rfl)
  rw [lg_entry_eq]
  generalize (lg_sl ([.int x0]) ++ List.replicate (1 - (lg_sl ([.int x0])).length) Slot.unset).toArray = ls at hl ⊢
  exact w_X11_whereAt x0 B.exec B.bytes hml (findClass_of_methodNamed B.named) (atoms_spec (ws := Cond.code yX11_whereAt cX11_whereAt 1 (some .int) :: LW) B.pre) hG (fun r ls pc hF hdg => W.iret (v := r) B.exec B.bytes hr (fun t ht hW => ⟨r, rfl, hF.symm, ht⟩) (fun _ h => absurd h List.not_mem_nil) hdg) ls hl hP rfl
abbrev wd_X5_clear (cy : Nat → ClassId) (a_t : Nat) (a_t_acts : Nat) (t_exceptions : Int32) (t_acts : Nat → Int32) : va_W := [(a_t, .inr (5, [.ref a_t_acts, .int t_exceptions])), (a_t_acts, .inl (cy 1, 10, .inl t_acts))]
noncomputable def F_X5_clear_b9 (t_acts : Nat → Int32) : Int32 × (Nat → Int32) := ((0 : Int32), t_acts)
noncomputable def F_X5_clear (t_acts : Nat → Int32) : Int32 × (Nat → Int32) := ((fun (q : (Nat → Int32)) => (F_X5_clear_b9 q)) (F_J7_fill_53178 10 t_acts (-9 : Int32)))
def ok_X5_clear (t_acts : Nat → Int32) : Prop := (ok_J7_fill_53178 10 t_acts (-9 : Int32))
set_option maxHeartbeats 4000000 in
set_option maxRecDepth 100000 in
theorem w_X5_clear {p : Program} {l : Launch} {e : Env} {s : State} {m : MethodId} {args : Array Value} {below : List Frame} {meth : Method} {c : Code} {D : va_G} {cy : Nat → ClassId} {A : Nat → Prop} {QQ : State → Prop} {FV : Int32 × (Nat → Int32)} (a_t : Nat) (a_t_acts : Nat) (t_exceptions : Int32) (t_acts : Nat → Int32) (hx : p.tables.exec = Jvm.exec) (hb : c.code = cX5_clear) (hml : c.maxLocals = 1) (hown : s.vm.findClass RX5 = some m.cls) (hts : ∀ w ∈ Cond.code yX5_clear cX5_clear 1 none :: LW, w.before args s = true) (hG : GW D cy s) (hA : ∀ q, s.heap.size ≤ q → A q) (hret : ∀ (o0 : Int32) (o1 : Nat → Int32) (H : Heap) (locs : List Loc) (ls : Array Slot) (pc : Nat), va_P D vwCl (wd_X5_clear cy a_t a_t_acts o0 o1) H → va_D A (wd_X5_clear cy a_t a_t_acts o0 o1) → va_S A s.heap H locs → FV = (o0, o1) → decode cX5_clear pc = .ok (.return_, 1) → W p l e (rmk 1 23) s m args below meth c H locs 0 0 QQ (F0 m pc ls [])) (ls : Array Slot) (hl : lv_has ls 1 [(0, .ref a_t)]) (hP : va_P D vwCl (wd_X5_clear cy a_t a_t_acts t_exceptions t_acts) s.heap) (hD : va_D A (wd_X5_clear cy a_t a_t_acts t_exceptions t_acts)) (hok : (ok_X5_clear t_acts)) (hR : FV = (F_X5_clear t_acts)) : W p l e (rmk 1 23) s m args below meth c s.heap [] 0 0 QQ (F0 m 0 ls []) := by
  have hw : ∀ w ∈ LW, w.before args s = true := fun w h => hts w (List.mem_cons_of_mem _ h)
  have hK := hG.1
  have hS : va_S A s.heap s.heap [] := va_S.rf
  unfold F_X5_clear at hR
  unfold ok_X5_clear at hok
  refine lv_aload_n hx hb dX5_clear_0 rfl (lv_at hl 0 rfl) ?_
  refine g_X5_9 hx hb hw hown hK hP 0 rfl rfl dX5_clear_1 ?_
  refine lv_bipush (v := -9) hx hb dX5_clear_4 (by decide) ?_
  have hok_6 := hok
  refine wkVS (As := [.ref a_t_acts, .int (-9 : Int32)]) (rest := []) hx hb hml hown hts hG hP hD hS hA k_X5_19 (c_J7_fill_53178 (l := l) (D := D) (cy := cy) a_t_acts 10 t_acts (-9 : Int32) s.heap.size hok_6) ⟨Nat.le_of_ble_eq_true rfl, Nat.le_of_ble_eq_true rfl⟩ [1] [0] [0, 1] (N := 2) rfl (by decide +kernel) rfl rfl hl.1 rfl (Nat.le_of_ble_eq_true rfl) ⟨Nat.zero_le _, Nat.zero_le _⟩ dX5_clear_6 (fun u => (wd_X5_clear cy a_t a_t_acts t_exceptions u)) (fun _ => rfl) (fun u_6 H locs e_6 hP hD hS => ?_)
  obtain ⟨o6_0, rfl⟩ : ∃ z, z = u_6 := ⟨_, rfl⟩
  replace hP : va_P D vwCl (wd_X5_clear cy a_t a_t_acts t_exceptions o6_0) H := hP
  replace hD : va_D A (wd_X5_clear cy a_t a_t_acts t_exceptions o6_0) := hD
  have hR2 := hRq (fun (q : (Nat → Int32)) => (F_X5_clear_b9 q)) e_6 hR
  replace hR : FV = (F_X5_clear_b9 o6_0) := hR2
  unfold F_X5_clear_b9 at hR
  refine lv_aload_n hx hb dX5_clear_9 rfl (lv_at hl 0 rfl) ?_
  refine lv_iconst (v := 0) hx hb dX5_clear_10 (by decide) ?_
  refine p_X5_15 hx hb hw hown hK hP hD hS 0 rfl rfl rfl rfl dX5_clear_11 (fun H locs hP hD hS => ?_)
  replace hP : va_P D vwCl (wd_X5_clear cy a_t a_t_acts (0 : Int32) o6_0) H := hP
  replace hD : va_D A (wd_X5_clear cy a_t a_t_acts (0 : Int32) o6_0) := hD
  exact hret (0 : Int32) o6_0 _ _ _ _ hP hD hS hR dX5_clear_14
set_option maxHeartbeats 1000000 in
set_option maxRecDepth 100000 in
theorem c_X5_clear {l : Launch} {D : va_G} {cy : Nat → ClassId} (a_t : Nat) (a_t_acts : Nat) (t_exceptions : Int32) (t_acts : Nat → Int32) (sz : Nat) (hok : (ok_X5_clear t_acts)) : WrV (S := Int32 × (Nat → Int32)) l yX5_clear cX5_clear 1 none 1 23 D cy [.ref a_t] (wd_X5_clear cy a_t a_t_acts t_exceptions t_acts) (fun u => (wd_X5_clear cy a_t a_t_acts u.1 u.2)) (F_X5_clear t_acts) sz := by
  refine Met.ofW (cc := cX5_clear) (maxL := 1) (ret := none) (by decide) rfl ?_
  intro p e s m args below meth c s₁ B hml hv
  obtain ⟨rfl, hsz, hP, hG, hD0⟩ := hv
  subst hsz
  have hD := hD0.self (sz := s.heap.size)
  have hr := B.returns
  have hlocks := B.notSynchronized
  have hl := lv_entry ([.ref a_t]) (n := 1) (Nat.le_of_ble_eq_true rfl)
  rw [lg_entry_eq]
  generalize (lg_sl ([.ref a_t]) ++ List.replicate (1 - (lg_sl ([.ref a_t])).length) Slot.unset).toArray = ls at hl ⊢
  exact w_X5_clear a_t a_t_acts t_exceptions t_acts B.exec B.bytes hml (findClass_of_methodNamed B.named) (atoms_spec (ws := Cond.code yX5_clear cX5_clear 1 none :: LW) B.pre) hG (fun q h => Or.inr h) (fun o0 o1 H locs ls pc hP hD hS hF hdg => W.vret B.exec B.bytes hr (fun t ht hW => ⟨⟨(o0, o1), rfl, hF.symm, by rw [ht]; exact hP, hD⟩, hS.F ht⟩) hS.2.2 hdg) ls hl hP hD hok rfl
abbrev wd_X5_except (cy : Nat → ClassId) (a_t : Nat) (a_t_acts : Nat) (t_exceptions : Int32) (t_acts : Nat → Int32) : va_W := [(a_t, .inr (5, [.ref a_t_acts, .int t_exceptions])), (a_t_acts, .inl (cy 1, 10, .inl t_acts))]
noncomputable def F_X5_except (t_exceptions : Int32) (t_acts : Nat → Int32) (x1 : Int32) (x2 : Int32) : Int32 × (Nat → Int32) := (if (F_X11_isHour x1) = (0 : Int32) then (t_exceptions, t_acts) else ((t_exceptions + (1 : Int32)), (upd t_acts x1.toNatClampNeg x2)))
def ok_X5_except (x1 : Int32) : Prop := (¬ ((F_X11_isHour x1) = (0 : Int32)) → (vp_in x1 10))
set_option maxHeartbeats 4000000 in
set_option maxRecDepth 100000 in
theorem w_X5_except {p : Program} {l : Launch} {e : Env} {s : State} {m : MethodId} {args : Array Value} {below : List Frame} {meth : Method} {c : Code} {D : va_G} {cy : Nat → ClassId} {A : Nat → Prop} {QQ : State → Prop} {FV : Int32 × (Nat → Int32)} (a_t : Nat) (a_t_acts : Nat) (t_exceptions : Int32) (t_acts : Nat → Int32) (x1 : Int32) (x2 : Int32) (hx : p.tables.exec = Jvm.exec) (hb : c.code = cX5_except) (hml : c.maxLocals = 3) (hown : s.vm.findClass RX5 = some m.cls) (hts : ∀ w ∈ Cond.code yX5_except cX5_except 3 none :: LW, w.before args s = true) (hG : GW D cy s) (hA : ∀ q, s.heap.size ≤ q → A q) (hret : ∀ (o0 : Int32) (o1 : Nat → Int32) (H : Heap) (locs : List Loc) (ls : Array Slot) (pc : Nat), va_P D vwCl (wd_X5_except cy a_t a_t_acts o0 o1) H → va_D A (wd_X5_except cy a_t a_t_acts o0 o1) → va_S A s.heap H locs → FV = (o0, o1) → decode cX5_except pc = .ok (.return_, 1) → W p l e (rmk 1 20) s m args below meth c H locs 0 0 QQ (F0 m pc ls [])) (ls : Array Slot) (hl : lv_has ls 3 [(0, .ref a_t), (1, .int x1), (2, .int x2)]) (hP : va_P D vwCl (wd_X5_except cy a_t a_t_acts t_exceptions t_acts) s.heap) (hD : va_D A (wd_X5_except cy a_t a_t_acts t_exceptions t_acts)) (hok : (ok_X5_except x1)) (hR : FV = (F_X5_except t_exceptions t_acts x1 x2)) : W p l e (rmk 1 20) s m args below meth c s.heap [] 0 0 QQ (F0 m 0 ls []) := by
  have hw : ∀ w ∈ LW, w.before args s = true := fun w h => hts w (List.mem_cons_of_mem _ h)
  have hK := hG.1
  have hS : va_S A s.heap s.heap [] := va_S.rf
  unfold F_X5_except at hR
  unfold ok_X5_except at hok
  refine lv_iload_n hx hb dX5_except_0 rfl (lv_at hl 1 rfl) ?_
  refine rdIN (As := [.int x1]) (rest := []) hx hb hml hown hts hG hP k_X5_25 (c_X11_isHour (l := l) (D := D) (cy := cy) x1) ⟨Nat.le_of_ble_eq_true rfl, Nat.le_of_ble_eq_true rfl⟩ [] rfl rfl hl.1 rfl (Nat.le_of_ble_eq_true rfl) ⟨Nat.zero_le _, Nat.zero_le _⟩ dX5_except_1 ?_
  refine lv_if_eq (tgt := 24) hx hb dX5_except_4 (by decide) (fun c_4 => ?_) (fun c_4 => ?_)
  · replace hR := bp hR c_4
    exact hret t_exceptions t_acts _ _ _ _ hP hD hS hR dX5_except_24
  · replace hR := bn hR c_4
    replace hok := hok c_4
    refine lv_aload_n hx hb dX5_except_7 rfl (lv_at hl 0 rfl) ?_
    refine g_X5_9 hx hb hw hown hK hP 0 rfl rfl dX5_except_8 ?_
    refine lv_iload_n hx hb dX5_except_11 rfl (lv_at hl 1 rfl) ?_
    refine lv_iload_n hx hb dX5_except_12 rfl (lv_at hl 2 rfl) ?_
    have h_13_0 := hok
    refine va_iast hx hb hK hP hD hS 1 1 rfl rfl h_13_0 dX5_except_13 (fun H locs hP hD hS => ?_)
    replace hP : va_P D vwCl (wd_X5_except cy a_t a_t_acts t_exceptions (upd t_acts x1.toNatClampNeg x2)) H := hP
    replace hD : va_D A (wd_X5_except cy a_t a_t_acts t_exceptions (upd t_acts x1.toNatClampNeg x2)) := hD
    refine lv_aload_n hx hb dX5_except_14 rfl (lv_at hl 0 rfl) ?_
    refine lv_dup hx hb dX5_except_15 rfl ?_
    refine g_X5_15 hx hb hw hown hK hP 0 rfl rfl dX5_except_16 ?_
    refine lv_iconst (v := 1) hx hb dX5_except_19 (by decide) ?_
    refine lv_iadd hx hb dX5_except_20 ?_
    refine p_X5_15 hx hb hw hown hK hP hD hS 0 rfl rfl rfl rfl dX5_except_21 (fun H locs hP hD hS => ?_)
    replace hP : va_P D vwCl (wd_X5_except cy a_t a_t_acts (t_exceptions + (1 : Int32)) (upd t_acts x1.toNatClampNeg x2)) H := hP
    replace hD : va_D A (wd_X5_except cy a_t a_t_acts (t_exceptions + (1 : Int32)) (upd t_acts x1.toNatClampNeg x2)) := hD
    exact hret (t_exceptions + (1 : Int32)) (upd t_acts x1.toNatClampNeg x2) _ _ _ _ hP hD hS hR dX5_except_24
set_option maxHeartbeats 1000000 in
set_option maxRecDepth 100000 in
theorem c_X5_except {l : Launch} {D : va_G} {cy : Nat → ClassId} (a_t : Nat) (a_t_acts : Nat) (t_exceptions : Int32) (t_acts : Nat → Int32) (x1 : Int32) (x2 : Int32) (sz : Nat) (hok : (ok_X5_except x1)) : WrV (S := Int32 × (Nat → Int32)) l yX5_except cX5_except 3 none 1 20 D cy [.ref a_t, .int x1, .int x2] (wd_X5_except cy a_t a_t_acts t_exceptions t_acts) (fun u => (wd_X5_except cy a_t a_t_acts u.1 u.2)) (F_X5_except t_exceptions t_acts x1 x2) sz := by
  refine Met.ofW (cc := cX5_except) (maxL := 3) (ret := none) (by decide) rfl ?_
  intro p e s m args below meth c s₁ B hml hv
  obtain ⟨rfl, hsz, hP, hG, hD0⟩ := hv
  subst hsz
  have hD := hD0.self (sz := s.heap.size)
  have hr := B.returns
  have hlocks := B.notSynchronized
  have hl := lv_entry ([.ref a_t, .int x1, .int x2]) (n := 3) (Nat.le_of_ble_eq_true rfl)
  rw [lg_entry_eq]
  generalize (lg_sl ([.ref a_t, .int x1, .int x2]) ++ List.replicate (3 - (lg_sl ([.ref a_t, .int x1, .int x2])).length) Slot.unset).toArray = ls at hl ⊢
  exact w_X5_except a_t a_t_acts t_exceptions t_acts x1 x2 B.exec B.bytes hml (findClass_of_methodNamed B.named) (atoms_spec (ws := Cond.code yX5_except cX5_except 3 none :: LW) B.pre) hG (fun q h => Or.inr h) (fun o0 o1 H locs ls pc hP hD hS hF hdg => W.vret B.exec B.bytes hr (fun t ht hW => ⟨⟨(o0, o1), rfl, hF.symm, by rw [ht]; exact hP, hD⟩, hS.F ht⟩) hS.2.2 hdg) ls hl hP hD hok rfl
abbrev wd_X5_otherwise (cy : Nat → ClassId) (a_t : Nat) (a_t_acts : Nat) (z_t_exceptions : Value) (t_acts : Nat → Int32) : va_W := [(a_t, .inr (5, [.ref a_t_acts, z_t_exceptions])), (a_t_acts, .inl (cy 1, 10, .inl t_acts))]
noncomputable def F_X5_otherwise_b32 (t_acts : Nat → Int32) : (Nat → Int32) := t_acts
noncomputable def F_X5_otherwise_L2 (x1 : Int32) (n : Nat) : (Nat → Int32) → Int32 → (Nat → Int32) := Nat.rec (motive := fun _ => (Nat → Int32) → Int32 → (Nat → Int32)) (fun _ _ => (fun _ => 0)) (fun _ ih t_acts v2 => (if (10 : Int32) ≤ v2 then t_acts else (if (t_acts v2.toNatClampNeg) = (-9 : Int32) then (ih (upd t_acts v2.toNatClampNeg x1) (v2 + (1 : Int32))) else (ih t_acts (v2 + (1 : Int32)))))) n
theorem F_X5_otherwise_L2_s {x1 : Int32} {n : Nat} {t_acts : Nat → Int32} {v2 : Int32} : F_X5_otherwise_L2 x1 (n + 1) t_acts v2 = (if (10 : Int32) ≤ v2 then t_acts else (if (t_acts v2.toNatClampNeg) = (-9 : Int32) then ((F_X5_otherwise_L2 x1 n) (upd t_acts v2.toNatClampNeg x1) (v2 + (1 : Int32))) else ((F_X5_otherwise_L2 x1 n) t_acts (v2 + (1 : Int32))))) := rfl
def ok_X5_otherwise_L2 (x1 : Int32) (n : Nat) : (Nat → Int32) → Int32 → Prop := Nat.rec (motive := fun _ => (Nat → Int32) → Int32 → Prop) (fun _ _ => False) (fun _ oih t_acts v2 => (¬ ((10 : Int32) ≤ v2) → (vp_in v2 10) ∧ (((t_acts v2.toNatClampNeg) = (-9 : Int32) → (vp_in v2 10) ∧ (oih (upd t_acts v2.toNatClampNeg x1) (v2 + (1 : Int32)))) ∧ (¬ ((t_acts v2.toNatClampNeg) = (-9 : Int32)) → (oih t_acts (v2 + (1 : Int32))))))) n
theorem ok_X5_otherwise_L2_s {x1 : Int32} {n : Nat} {t_acts : Nat → Int32} {v2 : Int32} : ok_X5_otherwise_L2 x1 (n + 1) t_acts v2 ↔ ((¬ ((10 : Int32) ≤ v2) → (vp_in v2 10) ∧ (((t_acts v2.toNatClampNeg) = (-9 : Int32) → (vp_in v2 10) ∧ ((ok_X5_otherwise_L2 x1 n) (upd t_acts v2.toNatClampNeg x1) (v2 + (1 : Int32)))) ∧ (¬ ((t_acts v2.toNatClampNeg) = (-9 : Int32)) → ((ok_X5_otherwise_L2 x1 n) t_acts (v2 + (1 : Int32))))))) := Iff.rfl
noncomputable def F_X5_otherwise (t_acts : Nat → Int32) (x1 : Int32) : (Nat → Int32) := ((fun (q : (Nat → Int32)) => (F_X5_otherwise_b32 q)) (F_X5_otherwise_L2 x1 FU t_acts (0 : Int32)))
def ok_X5_otherwise (t_acts : Nat → Int32) (x1 : Int32) : Prop := (ok_X5_otherwise_L2 x1 FU t_acts (0 : Int32))
set_option maxHeartbeats 4000000 in
set_option maxRecDepth 100000 in
theorem w_X5_otherwise {p : Program} {l : Launch} {e : Env} {s : State} {m : MethodId} {args : Array Value} {below : List Frame} {meth : Method} {c : Code} {D : va_G} {cy : Nat → ClassId} {A : Nat → Prop} {QQ : State → Prop} {FV : (Nat → Int32)} (a_t : Nat) (a_t_acts : Nat) (z_t_exceptions : Value) (t_acts : Nat → Int32) (x1 : Int32) (hx : p.tables.exec = Jvm.exec) (hb : c.code = cX5_otherwise) (hml : c.maxLocals = 3) (hown : s.vm.findClass RX5 = some m.cls) (hts : ∀ w ∈ Cond.code yX5_otherwise cX5_otherwise 3 none :: LW, w.before args s = true) (hG : GW D cy s) (hA : ∀ q, s.heap.size ≤ q → A q) (hret : ∀ (o0 : Nat → Int32) (H : Heap) (locs : List Loc) (ls : Array Slot) (pc : Nat), va_P D vwCl (wd_X5_otherwise cy a_t a_t_acts z_t_exceptions o0) H → va_D A (wd_X5_otherwise cy a_t a_t_acts z_t_exceptions o0) → va_S A s.heap H locs → FV = o0 → decode cX5_otherwise pc = .ok (.return_, 1) → W p l e (rmk 0 0) s m args below meth c H locs 0 0 QQ (F0 m pc ls [])) (ls : Array Slot) (hl : lv_has ls 3 [(0, .ref a_t), (1, .int x1)]) (hP : va_P D vwCl (wd_X5_otherwise cy a_t a_t_acts z_t_exceptions t_acts) s.heap) (hD : va_D A (wd_X5_otherwise cy a_t a_t_acts z_t_exceptions t_acts)) (hok : (ok_X5_otherwise t_acts x1)) (hR : FV = (F_X5_otherwise t_acts x1)) : W p l e (rmk 0 0) s m args below meth c s.heap [] 0 0 QQ (F0 m 0 ls []) := by
  have hw : ∀ w ∈ LW, w.before args s = true := fun w h => hts w (List.mem_cons_of_mem _ h)
  have hK := hG.1
  have hS : va_S A s.heap s.heap [] := va_S.rf
  unfold F_X5_otherwise at hR
  unfold ok_X5_otherwise at hok
  refine lv_iconst (v := 0) hx hb dX5_otherwise_0 (by decide) ?_
  refine lv_istore_n (lv' := [(2, .int (0 : Int32)), (0, .ref a_t), (1, .int x1)]) hx hb dX5_otherwise_1 rfl hl (Nat.le_of_ble_eq_true rfl) rfl (fun ls hl => ?_)
  have L_2 : ∀ (n_2 : Nat) (V : (Nat → Int32)) (t_acts_2 : Nat → Int32) (v2_2 : Int32) (H : Heap) (locs : List Loc) (ls : Array Slot), lv_has ls 3 [(0, .ref a_t), (1, .int x1), (2, .int v2_2)] → va_P D vwCl (wd_X5_otherwise cy a_t a_t_acts z_t_exceptions t_acts_2) H → va_D A (wd_X5_otherwise cy a_t a_t_acts z_t_exceptions t_acts_2) → va_S A s.heap H locs → (ok_X5_otherwise_L2 x1 n_2 t_acts_2 v2_2) → V = (F_X5_otherwise_L2 x1 n_2 t_acts_2 v2_2) → (∀ (e2_0 : Nat → Int32) (H : Heap) (locs : List Loc) (ls : Array Slot), lv_has ls 3 [] → va_P D vwCl (wd_X5_otherwise cy a_t a_t_acts z_t_exceptions e2_0) H → va_D A (wd_X5_otherwise cy a_t a_t_acts z_t_exceptions e2_0) → va_S A s.heap H locs → V = e2_0 → W p l e (rmk 0 0) s m args below meth c H locs 0 0 QQ (F0 m 32 ls [])) → W p l e (rmk 0 0) s m args below meth c H locs 0 0 QQ (F0 m 2 ls []) := by
    intro n_2
    induction n_2 with
    | zero => intro V t_acts_2 v2_2 H locs ls hl hP hD hS hok; exact False.elim hok
    | succ n_2 ih2 =>
      intro V t_acts_2 v2_2 H locs ls hl hP hD hS hok hR hX
      replace hR := hR.trans F_X5_otherwise_L2_s
      replace hok := ok_X5_otherwise_L2_s.mp hok
      refine lv_iload_n hx hb dX5_otherwise_2 rfl (lv_at hl 2 rfl) ?_
      refine lv_bipush (v := 10) hx hb dX5_otherwise_3 (by decide) ?_
      refine lv_icmp_ge (tgt := 32) hx hb dX5_otherwise_5 (by decide) (fun c_5 => ?_) (fun c_5 => ?_)
      · replace hR := bp hR c_5
        exact hX t_acts_2 _ _ _ (lv_sub hl [] rfl) hP hD hS hR
      · replace hR := bn hR c_5
        replace hok := hok c_5
        refine lv_aload_n hx hb dX5_otherwise_8 rfl (lv_at hl 0 rfl) ?_
        refine g_X5_9 hx hb hw hown hK hP 0 rfl rfl dX5_otherwise_9 ?_
        refine lv_iload_n hx hb dX5_otherwise_12 rfl (lv_at hl 2 rfl) ?_
        obtain ⟨h_13_0, hok⟩ := hok
        refine va_iald hx hb hK hP 1 1 rfl rfl h_13_0 dX5_otherwise_13 ?_
        refine lv_bipush (v := -9) hx hb dX5_otherwise_14 (by decide) ?_
        refine lv_icmp_ne (tgt := 26) hx hb dX5_otherwise_16 (by decide) (fun c_16 => ?_) (fun c_16 => ?_)
        · replace hR := bn hR c_16
          replace hok := hok.2 c_16
          refine lv_iinc (v := (v2_2 + (1 : Int32))) (lv' := [(2, .int (v2_2 + (1 : Int32))), (0, .ref a_t), (1, .int x1)]) hx hb dX5_otherwise_26 hl (k := 2) rfl rfl (Nat.le_of_ble_eq_true rfl) rfl (fun ls hl => ?_)
          refine lv_goto (tgt := 2) hx hb dX5_otherwise_29 (by decide) ?_
          exact ih2 V t_acts_2 (v2_2 + (1 : Int32)) _ _ _ (lv_sub hl [1, 2, 0] rfl) hP hD hS hok hR hX
        · replace hR := bp hR c_16
          replace hok := hok.1 c_16
          refine lv_aload_n hx hb dX5_otherwise_19 rfl (lv_at hl 0 rfl) ?_
          refine g_X5_9 hx hb hw hown hK hP 0 rfl rfl dX5_otherwise_20 ?_
          refine lv_iload_n hx hb dX5_otherwise_23 rfl (lv_at hl 2 rfl) ?_
          refine lv_iload_n hx hb dX5_otherwise_24 rfl (lv_at hl 1 rfl) ?_
          obtain ⟨h_25_0, hok⟩ := hok
          refine va_iast hx hb hK hP hD hS 1 1 rfl rfl h_25_0 dX5_otherwise_25 (fun H locs hP hD hS => ?_)
          replace hP : va_P D vwCl (wd_X5_otherwise cy a_t a_t_acts z_t_exceptions (upd t_acts_2 v2_2.toNatClampNeg x1)) H := hP
          replace hD : va_D A (wd_X5_otherwise cy a_t a_t_acts z_t_exceptions (upd t_acts_2 v2_2.toNatClampNeg x1)) := hD
          refine lv_iinc (v := (v2_2 + (1 : Int32))) (lv' := [(2, .int (v2_2 + (1 : Int32))), (0, .ref a_t), (1, .int x1)]) hx hb dX5_otherwise_26 hl (k := 2) rfl rfl (Nat.le_of_ble_eq_true rfl) rfl (fun ls hl => ?_)
          refine lv_goto (tgt := 2) hx hb dX5_otherwise_29 (by decide) ?_
          exact ih2 V (upd t_acts_2 v2_2.toNatClampNeg x1) (v2_2 + (1 : Int32)) _ _ _ (lv_sub hl [1, 2, 0] rfl) hP hD hS hok hR hX
  have hokL := hok
  refine L_2 FU _ t_acts (0 : Int32) _ _ _ (lv_sub hl [1, 2, 0] rfl) hP hD hS hokL rfl (fun e2_0 H locs ls hl hP hD hS hE => ?_)
  have hR2 := hRq (fun (q : (Nat → Int32)) => (F_X5_otherwise_b32 q)) hE.symm hR
  replace hR : FV = (F_X5_otherwise_b32 e2_0) := hR2
  unfold F_X5_otherwise_b32 at hR
  exact hret e2_0 _ _ _ _ hP hD hS hR dX5_otherwise_32
set_option maxHeartbeats 1000000 in
set_option maxRecDepth 100000 in
theorem c_X5_otherwise {l : Launch} {D : va_G} {cy : Nat → ClassId} (a_t : Nat) (a_t_acts : Nat) (z_t_exceptions : Value) (t_acts : Nat → Int32) (x1 : Int32) (sz : Nat) (hok : (ok_X5_otherwise t_acts x1)) : WrV (S := (Nat → Int32)) l yX5_otherwise cX5_otherwise 3 none 0 0 D cy [.ref a_t, .int x1] (wd_X5_otherwise cy a_t a_t_acts z_t_exceptions t_acts) (fun u => (wd_X5_otherwise cy a_t a_t_acts z_t_exceptions u)) (F_X5_otherwise t_acts x1) sz := by
  refine Met.ofW (cc := cX5_otherwise) (maxL := 3) (ret := none) (by decide) rfl ?_
  intro p e s m args below meth c s₁ B hml hv
  obtain ⟨rfl, hsz, hP, hG, hD0⟩ := hv
  subst hsz
  have hD := hD0.self (sz := s.heap.size)
  have hr := B.returns
  have hlocks := B.notSynchronized
  have hl := lv_entry ([.ref a_t, .int x1]) (n := 3) (Nat.le_of_ble_eq_true rfl)
  rw [lg_entry_eq]
  generalize (lg_sl ([.ref a_t, .int x1]) ++ List.replicate (3 - (lg_sl ([.ref a_t, .int x1])).length) Slot.unset).toArray = ls at hl ⊢
  exact w_X5_otherwise a_t a_t_acts z_t_exceptions t_acts x1 B.exec B.bytes hml (findClass_of_methodNamed B.named) (atoms_spec (ws := Cond.code yX5_otherwise cX5_otherwise 3 none :: LW) B.pre) hG (fun q h => Or.inr h) (fun o0 H locs ls pc hP hD hS hF hdg => W.vret B.exec B.bytes hr (fun t ht hW => ⟨⟨o0, rfl, hF.symm, by rw [ht]; exact hP, hD⟩, hS.F ht⟩) hS.2.2 hdg) ls hl hP hD hok rfl
abbrev wd_X5_setShort (cy : Nat → ClassId) (a_t : Nat) (a_t_acts : Nat) (t_exceptions : Int32) (t_acts : Nat → Int32) : va_W := [(a_t, .inr (5, [.ref a_t_acts, .int t_exceptions])), (a_t_acts, .inl (cy 1, 10, .inl t_acts))]
noncomputable def F_X5_setShort_b38 (t_exceptions : Int32) (t_acts : Nat → Int32) : Int32 × (Nat → Int32) := (t_exceptions, t_acts)
noncomputable def F_X5_setShort_b30 (x1 : Int32) (t_exceptions : Int32) (t_acts : Nat → Int32) : Int32 × (Nat → Int32) := ((fun (q : (Nat → Int32)) => (F_X5_setShort_b38 t_exceptions q)) (F_X5_otherwise t_acts (x1 - x1 / (6 : Int32) * (6 : Int32))))
def ok_X5_setShort_b30 (x1 : Int32) (t_acts : Nat → Int32) : Prop := (ok_X5_otherwise t_acts (x1 - x1 / (6 : Int32) * (6 : Int32)))
noncomputable def F_X5_setShort_b4 (x1 : Int32) (t_exceptions : Int32) (t_acts : Nat → Int32) : Int32 × (Nat → Int32) := (if x1 < (6 : Int32) then (F_X5_setShort_b30 x1 t_exceptions t_acts) else ((fun (q : Int32 × (Nat → Int32)) => (F_X5_setShort_b30 x1 q.1 q.2)) (F_X5_except t_exceptions t_acts ((x1 - (6 : Int32)) / (36 : Int32)) (((x1 - (6 : Int32)) / (6 : Int32)) - ((x1 - (6 : Int32)) / (6 : Int32)) / (6 : Int32) * (6 : Int32)))))
def ok_X5_setShort_b4 (x1 : Int32) (t_exceptions : Int32) (t_acts : Nat → Int32) : Prop := ((x1 < (6 : Int32) → (ok_X5_setShort_b30 x1 t_acts)) ∧ (¬ (x1 < (6 : Int32)) → (ok_X5_except ((x1 - (6 : Int32)) / (36 : Int32))) ∧ ((fun (q : Int32 × (Nat → Int32)) => (ok_X5_setShort_b30 x1 q.2)) (F_X5_except t_exceptions t_acts ((x1 - (6 : Int32)) / (36 : Int32)) (((x1 - (6 : Int32)) / (6 : Int32)) - ((x1 - (6 : Int32)) / (6 : Int32)) / (6 : Int32) * (6 : Int32))))))
noncomputable def F_X5_setShort (t_acts : Nat → Int32) (x1 : Int32) : Int32 × (Nat → Int32) := ((fun (q : Int32 × (Nat → Int32)) => (F_X5_setShort_b4 x1 q.1 q.2)) (F_X5_clear t_acts))
def ok_X5_setShort (t_acts : Nat → Int32) (x1 : Int32) : Prop := (ok_X5_clear t_acts) ∧ ((fun (q : Int32 × (Nat → Int32)) => (ok_X5_setShort_b4 x1 q.1 q.2)) (F_X5_clear t_acts))
set_option maxHeartbeats 4000000 in
set_option maxRecDepth 100000 in
theorem w_X5_setShort {p : Program} {l : Launch} {e : Env} {s : State} {m : MethodId} {args : Array Value} {below : List Frame} {meth : Method} {c : Code} {D : va_G} {cy : Nat → ClassId} {A : Nat → Prop} {QQ : State → Prop} {FV : Int32 × (Nat → Int32)} (a_t : Nat) (a_t_acts : Nat) (t_exceptions : Int32) (t_acts : Nat → Int32) (x1 : Int32) (hx : p.tables.exec = Jvm.exec) (hb : c.code = cX5_setShort) (hml : c.maxLocals = 3) (hown : s.vm.findClass RX5 = some m.cls) (hts : ∀ w ∈ Cond.code yX5_setShort cX5_setShort 3 none :: LW, w.before args s = true) (hG : GW D cy s) (hA : ∀ q, s.heap.size ≤ q → A q) (hret : ∀ (o0 : Int32) (o1 : Nat → Int32) (H : Heap) (locs : List Loc) (ls : Array Slot) (pc : Nat), va_P D vwCl (wd_X5_setShort cy a_t a_t_acts o0 o1) H → va_D A (wd_X5_setShort cy a_t a_t_acts o0 o1) → va_S A s.heap H locs → FV = (o0, o1) → decode cX5_setShort pc = .ok (.return_, 1) → W p l e (rmk 2 43) s m args below meth c H locs 0 0 QQ (F0 m pc ls [])) (ls : Array Slot) (hl : lv_has ls 3 [(0, .ref a_t), (1, .int x1)]) (hP : va_P D vwCl (wd_X5_setShort cy a_t a_t_acts t_exceptions t_acts) s.heap) (hD : va_D A (wd_X5_setShort cy a_t a_t_acts t_exceptions t_acts)) (hok : (ok_X5_setShort t_acts x1)) (hR : FV = (F_X5_setShort t_acts x1)) : W p l e (rmk 2 43) s m args below meth c s.heap [] 0 0 QQ (F0 m 0 ls []) := by
  have hw : ∀ w ∈ LW, w.before args s = true := fun w h => hts w (List.mem_cons_of_mem _ h)
  have hK := hG.1
  have hS : va_S A s.heap s.heap [] := va_S.rf
  have J_30 : ∀ (t_exceptions : Int32) (t_acts : Nat → Int32) (H : Heap) (locs : List Loc) (ls : Array Slot), lv_has ls 3 [(0, .ref a_t), (1, .int x1)] → va_P D vwCl (wd_X5_setShort cy a_t a_t_acts t_exceptions t_acts) H → va_D A (wd_X5_setShort cy a_t a_t_acts t_exceptions t_acts) → va_S A s.heap H locs → (ok_X5_setShort_b30 x1 t_acts) → FV = (F_X5_setShort_b30 x1 t_exceptions t_acts) → W p l e (rmk 2 43) s m args below meth c H locs 0 0 QQ (F0 m 30 ls []) := by
    intro t_exceptions t_acts H locs ls hl hP hD hS hok hR
    unfold F_X5_setShort_b30 at hR
    unfold ok_X5_setShort_b30 at hok
    refine lv_aload_n hx hb dX5_setShort_30 rfl (lv_at hl 0 rfl) ?_
    refine lv_iload_n hx hb dX5_setShort_31 rfl (lv_at hl 1 rfl) ?_
    refine lv_bipush (v := 6) hx hb dX5_setShort_32 (by decide) ?_
    refine lv_irem hx hb dX5_setShort_34 (by decide) ?_
    have hok_35 := hok
    refine wkVV (As := [.int (x1 - x1 / (6 : Int32) * (6 : Int32))]) (rest := []) hx hb hml hown hts hG hP hD hS hA k_X5_39 (c_X5_otherwise (l := l) (D := D) (cy := cy) a_t a_t_acts (.int t_exceptions) t_acts (x1 - x1 / (6 : Int32) * (6 : Int32)) H.size hok_35) ⟨Nat.le_of_ble_eq_true rfl, Nat.le_of_ble_eq_true rfl⟩ [0, 1] [] [0, 1] (N := 2) rfl (by decide +kernel) rfl 0 rfl rfl rfl rfl hl.1 rfl (Nat.le_of_ble_eq_true rfl) ⟨Nat.zero_le _, Nat.zero_le _⟩ dX5_setShort_35 (fun u => (wd_X5_setShort cy a_t a_t_acts t_exceptions u)) (fun _ => rfl) (fun u_35 H locs e_35 hP hD hS => ?_)
    obtain ⟨o35_0, rfl⟩ : ∃ z, z = u_35 := ⟨_, rfl⟩
    replace hP : va_P D vwCl (wd_X5_setShort cy a_t a_t_acts t_exceptions o35_0) H := hP
    replace hD : va_D A (wd_X5_setShort cy a_t a_t_acts t_exceptions o35_0) := hD
    have hR2 := hRq (fun (q : (Nat → Int32)) => (F_X5_setShort_b38 t_exceptions q)) e_35 hR
    replace hR : FV = (F_X5_setShort_b38 t_exceptions o35_0) := hR2
    unfold F_X5_setShort_b38 at hR
    exact hret t_exceptions o35_0 _ _ _ _ hP hD hS hR dX5_setShort_38
  unfold F_X5_setShort at hR
  unfold ok_X5_setShort at hok
  refine lv_aload_n hx hb dX5_setShort_0 rfl (lv_at hl 0 rfl) ?_
  obtain ⟨hok_1, hok⟩ := hok
  refine wkVV (As := []) (rest := []) hx hb hml hown hts hG hP hD hS hA k_X5_32 (c_X5_clear (l := l) (D := D) (cy := cy) a_t a_t_acts t_exceptions t_acts s.heap.size hok_1) ⟨Nat.le_of_ble_eq_true rfl, Nat.le_of_ble_eq_true rfl⟩ [0, 1] [] [0, 1] (N := 2) rfl (by decide +kernel) rfl 0 rfl rfl rfl rfl hl.1 rfl (Nat.le_of_ble_eq_true rfl) ⟨Nat.zero_le _, Nat.zero_le _⟩ dX5_setShort_1 (fun u => (wd_X5_setShort cy a_t a_t_acts u.1 u.2)) (fun _ => rfl) (fun u_1 H locs e_1 hP hD hS => ?_)
  obtain ⟨o1_0, o1_1⟩ := u_1
  replace hP : va_P D vwCl (wd_X5_setShort cy a_t a_t_acts o1_0 o1_1) H := hP
  replace hD : va_D A (wd_X5_setShort cy a_t a_t_acts o1_0 o1_1) := hD
  have hR2 := hRq (fun (q : Int32 × (Nat → Int32)) => (F_X5_setShort_b4 x1 q.1 q.2)) e_1 hR
  replace hR : FV = (F_X5_setShort_b4 x1 o1_0 o1_1) := hR2
  have hok2 := hokq (fun (q : Int32 × (Nat → Int32)) => (ok_X5_setShort_b4 x1 q.1 q.2)) e_1 hok
  replace hok : (ok_X5_setShort_b4 x1 o1_0 o1_1) := hok2
  unfold F_X5_setShort_b4 at hR
  unfold ok_X5_setShort_b4 at hok
  refine lv_iload_n hx hb dX5_setShort_4 rfl (lv_at hl 1 rfl) ?_
  refine lv_bipush (v := 6) hx hb dX5_setShort_5 (by decide) ?_
  refine lv_icmp_lt (tgt := 30) hx hb dX5_setShort_7 (by decide) (fun c_7 => ?_) (fun c_7 => ?_)
  · replace hR := bp hR c_7
    replace hok := hok.1 c_7
    exact J_30 o1_0 o1_1 _ _ _ (lv_sub hl [0, 1] rfl) hP hD hS hok hR
  · replace hR := bn hR c_7
    replace hok := hok.2 c_7
    refine lv_iload_n hx hb dX5_setShort_10 rfl (lv_at hl 1 rfl) ?_
    refine lv_bipush (v := 6) hx hb dX5_setShort_11 (by decide) ?_
    refine lv_isub hx hb dX5_setShort_13 ?_
    refine lv_istore_n (lv' := [(2, .int (x1 - (6 : Int32))), (0, .ref a_t), (1, .int x1)]) hx hb dX5_setShort_14 rfl hl (Nat.le_of_ble_eq_true rfl) rfl (fun ls hl => ?_)
    refine lv_aload_n hx hb dX5_setShort_15 rfl (lv_at hl 1 rfl) ?_
    refine lv_iload_n hx hb dX5_setShort_16 rfl (lv_at hl 0 rfl) ?_
    refine lv_bipush (v := 36) hx hb dX5_setShort_17 (by decide) ?_
    refine lv_idiv hx hb dX5_setShort_19 (by decide) ?_
    refine lv_iload_n hx hb dX5_setShort_20 rfl (lv_at hl 0 rfl) ?_
    refine lv_bipush (v := 6) hx hb dX5_setShort_21 (by decide) ?_
    refine lv_idiv hx hb dX5_setShort_23 (by decide) ?_
    refine lv_bipush (v := 6) hx hb dX5_setShort_24 (by decide) ?_
    refine lv_irem hx hb dX5_setShort_26 (by decide) ?_
    obtain ⟨hok_27, hok⟩ := hok
    refine wkVV (As := [.int ((x1 - (6 : Int32)) / (36 : Int32)), .int (((x1 - (6 : Int32)) / (6 : Int32)) - ((x1 - (6 : Int32)) / (6 : Int32)) / (6 : Int32) * (6 : Int32))]) (rest := []) hx hb hml hown hts hG hP hD hS hA k_X5_35 (c_X5_except (l := l) (D := D) (cy := cy) a_t a_t_acts o1_0 o1_1 ((x1 - (6 : Int32)) / (36 : Int32)) (((x1 - (6 : Int32)) / (6 : Int32)) - ((x1 - (6 : Int32)) / (6 : Int32)) / (6 : Int32) * (6 : Int32)) H.size hok_27) ⟨Nat.le_of_ble_eq_true rfl, Nat.le_of_ble_eq_true rfl⟩ [0, 1] [] [0, 1] (N := 2) rfl (by decide +kernel) rfl 0 rfl rfl rfl rfl hl.1 rfl (Nat.le_of_ble_eq_true rfl) ⟨Nat.zero_le _, Nat.zero_le _⟩ dX5_setShort_27 (fun u => (wd_X5_setShort cy a_t a_t_acts u.1 u.2)) (fun _ => rfl) (fun u_27 H locs e_27 hP hD hS => ?_)
    obtain ⟨o27_0, o27_1⟩ := u_27
    replace hP : va_P D vwCl (wd_X5_setShort cy a_t a_t_acts o27_0 o27_1) H := hP
    replace hD : va_D A (wd_X5_setShort cy a_t a_t_acts o27_0 o27_1) := hD
    have hR2 := hRq (fun (q : Int32 × (Nat → Int32)) => (F_X5_setShort_b30 x1 q.1 q.2)) e_27 hR
    replace hR : FV = (F_X5_setShort_b30 x1 o27_0 o27_1) := hR2
    have hok2 := hokq (fun (q : Int32 × (Nat → Int32)) => (ok_X5_setShort_b30 x1 q.2)) e_27 hok
    replace hok : (ok_X5_setShort_b30 x1 o27_1) := hok2
    exact J_30 o27_0 o27_1 _ _ _ (lv_sub hl [1, 2] rfl) hP hD hS hok hR
set_option maxHeartbeats 1000000 in
set_option maxRecDepth 100000 in
theorem c_X5_setShort {l : Launch} {D : va_G} {cy : Nat → ClassId} (a_t : Nat) (a_t_acts : Nat) (t_exceptions : Int32) (t_acts : Nat → Int32) (x1 : Int32) (sz : Nat) (hok : (ok_X5_setShort t_acts x1)) : WrV (S := Int32 × (Nat → Int32)) l yX5_setShort cX5_setShort 3 none 2 43 D cy [.ref a_t, .int x1] (wd_X5_setShort cy a_t a_t_acts t_exceptions t_acts) (fun u => (wd_X5_setShort cy a_t a_t_acts u.1 u.2)) (F_X5_setShort t_acts x1) sz := by
  refine Met.ofW (cc := cX5_setShort) (maxL := 3) (ret := none) (by decide) rfl ?_
  intro p e s m args below meth c s₁ B hml hv
  obtain ⟨rfl, hsz, hP, hG, hD0⟩ := hv
  subst hsz
  have hD := hD0.self (sz := s.heap.size)
  have hr := B.returns
  have hlocks := B.notSynchronized
  have hl := lv_entry ([.ref a_t, .int x1]) (n := 3) (Nat.le_of_ble_eq_true rfl)
  rw [lg_entry_eq]
  generalize (lg_sl ([.ref a_t, .int x1]) ++ List.replicate (3 - (lg_sl ([.ref a_t, .int x1])).length) Slot.unset).toArray = ls at hl ⊢
  exact w_X5_setShort a_t a_t_acts t_exceptions t_acts x1 B.exec B.bytes hml (findClass_of_methodNamed B.named) (atoms_spec (ws := Cond.code yX5_setShort cX5_setShort 3 none :: LW) B.pre) hG (fun q h => Or.inr h) (fun o0 o1 H locs ls pc hP hD hS hF hdg => W.vret B.exec B.bytes hr (fun t ht hW => ⟨⟨(o0, o1), rfl, hF.symm, by rw [ht]; exact hP, hD⟩, hS.F ht⟩) hS.2.2 hdg) ls hl hP hD hok rfl
abbrev wd_X5_copyOf (cy : Nat → ClassId) (a_t : Nat) (a_t_acts : Nat) (a_p1 : Nat) (a_p1_acts : Nat) (t_exceptions : Int32) (t_acts : Nat → Int32) (p1_exceptions : Int32) (p1_acts : Nat → Int32) : va_W := [(a_t, .inr (5, [.ref a_t_acts, .int t_exceptions])), (a_t_acts, .inl (cy 1, 10, .inl t_acts)), (a_p1, .inr (5, [.ref a_p1_acts, .int p1_exceptions])), (a_p1_acts, .inl (cy 1, 10, .inl p1_acts))]
noncomputable def F_X5_copyOf (t_acts : Nat → Int32) (p1_exceptions : Int32) (p1_acts : Nat → Int32) : Int32 × (Nat → Int32) := (p1_exceptions, (va_cpy p1_acts t_acts (0 : Int32).toNatClampNeg (0 : Int32).toNatClampNeg (10 : Int32).toNatClampNeg))
set_option maxHeartbeats 4000000 in
set_option maxRecDepth 100000 in
theorem w_X5_copyOf {p : Program} {l : Launch} {e : Env} {s : State} {m : MethodId} {args : Array Value} {below : List Frame} {meth : Method} {c : Code} {D : va_G} {cy : Nat → ClassId} {A : Nat → Prop} {QQ : State → Prop} {FV : Int32 × (Nat → Int32)} (a_t : Nat) (a_t_acts : Nat) (a_p1 : Nat) (a_p1_acts : Nat) (t_exceptions : Int32) (t_acts : Nat → Int32) (p1_exceptions : Int32) (p1_acts : Nat → Int32) (hx : p.tables.exec = Jvm.exec) (hb : c.code = cX5_copyOf) (hml : c.maxLocals = 2) (hown : s.vm.findClass RX5 = some m.cls) (hts : ∀ w ∈ Cond.code yX5_copyOf cX5_copyOf 2 none :: LW, w.before args s = true) (hG : GW D cy s) (hA : ∀ q, s.heap.size ≤ q → A q) (hret : ∀ (o0 : Int32) (o1 : Nat → Int32) (H : Heap) (locs : List Loc) (ls : Array Slot) (pc : Nat), va_P D vwCl (wd_X5_copyOf cy a_t a_t_acts a_p1 a_p1_acts o0 o1 p1_exceptions p1_acts) H → va_D A (wd_X5_copyOf cy a_t a_t_acts a_p1 a_p1_acts o0 o1 p1_exceptions p1_acts) → va_S A s.heap H locs → FV = (o0, o1) → decode cX5_copyOf pc = .ok (.return_, 1) → W p l e (rmk 1 64) s m args below meth c H locs 0 0 QQ (F0 m pc ls [])) (ls : Array Slot) (hl : lv_has ls 2 [(0, .ref a_t), (1, .ref a_p1)]) (hP : va_P D vwCl (wd_X5_copyOf cy a_t a_t_acts a_p1 a_p1_acts t_exceptions t_acts p1_exceptions p1_acts) s.heap) (hD : va_D A (wd_X5_copyOf cy a_t a_t_acts a_p1 a_p1_acts t_exceptions t_acts p1_exceptions p1_acts)) (hR : FV = (F_X5_copyOf t_acts p1_exceptions p1_acts)) : W p l e (rmk 1 64) s m args below meth c s.heap [] 0 0 QQ (F0 m 0 ls []) := by
  have hw : ∀ w ∈ LW, w.before args s = true := fun w h => hts w (List.mem_cons_of_mem _ h)
  have hK := hG.1
  have hS : va_S A s.heap s.heap [] := va_S.rf
  unfold F_X5_copyOf at hR
  refine lv_aload_n hx hb dX5_copyOf_0 rfl (lv_at hl 1 rfl) ?_
  refine g_X5_9 hx hb hw hown hK hP 2 rfl rfl dX5_copyOf_1 ?_
  refine lv_iconst (v := 0) hx hb dX5_copyOf_4 (by decide) ?_
  refine lv_aload_n hx hb dX5_copyOf_5 rfl (lv_at hl 0 rfl) ?_
  refine g_X5_9 hx hb hw hown hK hP 0 rfl rfl dX5_copyOf_6 ?_
  refine lv_iconst (v := 0) hx hb dX5_copyOf_9 (by decide) ?_
  refine lv_bipush (v := 10) hx hb dX5_copyOf_10 (by decide) ?_
  refine va_copyi hx hb (hml.trans hl.1.symm) hown (hw _ mw_arraycopy_X5_43) (hw _ mw_acn) (hw _ mw_acs) (hw _ mw_aci) hK hP hD hS 3 1 1 1 rfl rfl rfl rfl rfl (by decide) (by decide) (by decide) (by decide) (by decide) (fun i _ => rfl) (Nat.le_of_ble_eq_true rfl) (by decide) dX5_copyOf_12 (fun H locs hP hD hS => ?_)
  replace hP : va_P D vwCl (wd_X5_copyOf cy a_t a_t_acts a_p1 a_p1_acts t_exceptions (va_cpy p1_acts t_acts (0 : Int32).toNatClampNeg (0 : Int32).toNatClampNeg (10 : Int32).toNatClampNeg) p1_exceptions p1_acts) H := hP
  replace hD : va_D A (wd_X5_copyOf cy a_t a_t_acts a_p1 a_p1_acts t_exceptions (va_cpy p1_acts t_acts (0 : Int32).toNatClampNeg (0 : Int32).toNatClampNeg (10 : Int32).toNatClampNeg) p1_exceptions p1_acts) := hD
  refine lv_aload_n hx hb dX5_copyOf_15 rfl (lv_at hl 0 rfl) ?_
  refine lv_aload_n hx hb dX5_copyOf_16 rfl (lv_at hl 1 rfl) ?_
  refine g_X5_15 hx hb hw hown hK hP 2 rfl rfl dX5_copyOf_17 ?_
  refine p_X5_15 hx hb hw hown hK hP hD hS 0 rfl rfl rfl rfl dX5_copyOf_20 (fun H locs hP hD hS => ?_)
  replace hP : va_P D vwCl (wd_X5_copyOf cy a_t a_t_acts a_p1 a_p1_acts p1_exceptions (va_cpy p1_acts t_acts (0 : Int32).toNatClampNeg (0 : Int32).toNatClampNeg (10 : Int32).toNatClampNeg) p1_exceptions p1_acts) H := hP
  replace hD : va_D A (wd_X5_copyOf cy a_t a_t_acts a_p1 a_p1_acts p1_exceptions (va_cpy p1_acts t_acts (0 : Int32).toNatClampNeg (0 : Int32).toNatClampNeg (10 : Int32).toNatClampNeg) p1_exceptions p1_acts) := hD
  exact hret p1_exceptions (va_cpy p1_acts t_acts (0 : Int32).toNatClampNeg (0 : Int32).toNatClampNeg (10 : Int32).toNatClampNeg) _ _ _ _ hP hD hS hR dX5_copyOf_23
set_option maxHeartbeats 1000000 in
set_option maxRecDepth 100000 in
theorem c_X5_copyOf {l : Launch} {D : va_G} {cy : Nat → ClassId} (a_t : Nat) (a_t_acts : Nat) (a_p1 : Nat) (a_p1_acts : Nat) (t_exceptions : Int32) (t_acts : Nat → Int32) (p1_exceptions : Int32) (p1_acts : Nat → Int32) (sz : Nat) : WrV (S := Int32 × (Nat → Int32)) l yX5_copyOf cX5_copyOf 2 none 1 64 D cy [.ref a_t, .ref a_p1] (wd_X5_copyOf cy a_t a_t_acts a_p1 a_p1_acts t_exceptions t_acts p1_exceptions p1_acts) (fun u => (wd_X5_copyOf cy a_t a_t_acts a_p1 a_p1_acts u.1 u.2 p1_exceptions p1_acts)) (F_X5_copyOf t_acts p1_exceptions p1_acts) sz := by
  refine Met.ofW (cc := cX5_copyOf) (maxL := 2) (ret := none) (by decide) rfl ?_
  intro p e s m args below meth c s₁ B hml hv
  obtain ⟨rfl, hsz, hP, hG, hD0⟩ := hv
  subst hsz
  have hD := hD0.self (sz := s.heap.size)
  have hr := B.returns
  have hlocks := B.notSynchronized
  have hl := lv_entry ([.ref a_t, .ref a_p1]) (n := 2) (Nat.le_of_ble_eq_true rfl)
  rw [lg_entry_eq]
  generalize (lg_sl ([.ref a_t, .ref a_p1]) ++ List.replicate (2 - (lg_sl ([.ref a_t, .ref a_p1])).length) Slot.unset).toArray = ls at hl ⊢
  exact w_X5_copyOf a_t a_t_acts a_p1 a_p1_acts t_exceptions t_acts p1_exceptions p1_acts B.exec B.bytes hml (findClass_of_methodNamed B.named) (atoms_spec (ws := Cond.code yX5_copyOf cX5_copyOf 2 none :: LW) B.pre) hG (fun q h => Or.inr h) (fun o0 o1 H locs ls pc hP hD hS hF hdg => W.vret B.exec B.bytes hr (fun t ht hW => ⟨⟨(o0, o1), rfl, hF.symm, by rw [ht]; exact hP, hD⟩, hS.F ht⟩) hS.2.2 hdg) ls hl hP hD rfl
abbrev wd_X11_isRule (cy : Nat → ClassId) : va_W := []
noncomputable def F_X11_isRule (x0 : Int32) : Int32 := (if x0 < (0 : Int32) then (0 : Int32) else (if (3 : Int32) ≤ x0 then (0 : Int32) else (1 : Int32)))
set_option maxHeartbeats 4000000 in
set_option maxRecDepth 100000 in
theorem w_X11_isRule {p : Program} {l : Launch} {e : Env} {s : State} {m : MethodId} {args : Array Value} {below : List Frame} {meth : Method} {c : Code} {D : va_G} {cy : Nat → ClassId} {QQ : State → Prop} {FV : Int32} (x0 : Int32) (hx : p.tables.exec = Jvm.exec) (hb : c.code = cX11_isRule) (hml : c.maxLocals = 1) (hown : s.vm.findClass RX11 = some m.cls) (hts : ∀ w ∈ Cond.code yX11_isRule cX11_isRule 1 (some .boolean) :: LW, w.before args s = true) (hG : GW D cy s) (hret : ∀ (r : Int32) (ls : Array Slot) (pc : Nat), FV = r → narrow .boolean (.int r) = .int r → decode cX11_isRule pc = .ok (.ireturn, 1) → W p l e (rmk 0 0) s m args below meth c s.heap [] 0 0 QQ (F0 m pc ls [.int r])) (ls : Array Slot) (hl : lv_has ls 1 [(0, .int x0)]) (hP : va_P D vwCl (wd_X11_isRule cy) s.heap) (hR : FV = (F_X11_isRule x0)) : W p l e (rmk 0 0) s m args below meth c s.heap [] 0 0 QQ (F0 m 0 ls []) := by
  have hw : ∀ w ∈ LW, w.before args s = true := fun w h => hts w (List.mem_cons_of_mem _ h)
  have hK := hG.1
  unfold F_X11_isRule at hR
  refine lv_iload_n hx hb dX11_isRule_0 rfl (lv_at hl 0 rfl) ?_
  have K_1 : W p l e (rmk 0 0) s m args below meth c s.heap [] 0 0 QQ (F0 m 14 ls [.int (if x0 < (0 : Int32) then (0 : Int32) else (if (3 : Int32) ≤ x0 then (0 : Int32) else (1 : Int32)))]) := by
    exact hret (if x0 < (0 : Int32) then (0 : Int32) else (if (3 : Int32) ≤ x0 then (0 : Int32) else (1 : Int32))) _ _ hR (isB.nar (isB_ite isB_0 (isB_ite isB_0 isB_1))) dX11_isRule_14
  refine lv_if_lt (tgt := 13) hx hb dX11_isRule_1 (by decide) (fun c_1 => ?_) (fun c_1 => ?_)
  · refine lv_iconst (v := 0) hx hb dX11_isRule_13 (by decide) ?_
    exact W.eq (congrArg (fun z => F0 m 14 ls (Value.int z :: [])) (if_pos c_1).symm) K_1
  · refine lv_iload_n hx hb dX11_isRule_4 rfl (lv_at hl 0 rfl) ?_
    refine lv_iconst (v := 3) hx hb dX11_isRule_5 (by decide) ?_
    refine lv_icmp_ge (tgt := 13) hx hb dX11_isRule_6 (by decide) (fun c_6 => ?_) (fun c_6 => ?_)
    · refine lv_iconst (v := 0) hx hb dX11_isRule_13 (by decide) ?_
      exact W.eq (congrArg (fun z => F0 m 14 ls (Value.int z :: [])) ((if_neg c_1).trans (if_pos c_6)).symm) K_1
    · refine lv_iconst (v := 1) hx hb dX11_isRule_9 (by decide) ?_
      refine lv_goto (tgt := 14) hx hb dX11_isRule_10 (by decide) ?_
      exact W.eq (congrArg (fun z => F0 m 14 ls (Value.int z :: [])) ((if_neg c_1).trans (if_neg c_6)).symm) K_1
set_option maxHeartbeats 1000000 in
set_option maxRecDepth 100000 in
theorem c_X11_isRule {l : Launch} {D : va_G} {cy : Nat → ClassId} (x0 : Int32) : RdI l yX11_isRule cX11_isRule 1 (some .boolean) 0 0 D cy [.int x0] (wd_X11_isRule cy) (F_X11_isRule x0) := by
  refine Met.ofW (cc := cX11_isRule) (maxL := 1) (ret := (some .boolean)) (by decide) rfl ?_
  intro p e s m args below meth c s₁ B hml hv
  obtain ⟨rfl, hP, hG⟩ := hv
  have hr := B.returns
  have hlocks := B.notSynchronized
  have hl := lv_entry ([.int x0]) (n := 1) (Nat.le_of_ble_eq_true rfl)
  rw [lg_entry_eq]
  generalize (lg_sl ([.int x0]) ++ List.replicate (1 - (lg_sl ([.int x0])).length) Slot.unset).toArray = ls at hl ⊢
  exact w_X11_isRule x0 B.exec B.bytes hml (findClass_of_methodNamed B.named) (atoms_spec (ws := Cond.code yX11_isRule cX11_isRule 1 (some .boolean) :: LW) B.pre) hG (fun r ls pc hF hn hdg => W.zret (v := r) B.exec B.bytes hr hn (fun t ht hW => ⟨r, rfl, hF.symm, ht⟩) (fun _ h => absurd h List.not_mem_nil) hdg) ls hl hP rfl
abbrev wd_X11_isSlot (cy : Nat → ClassId) : va_W := []
noncomputable def F_X11_isSlot (x0 : Int32) : Int32 := (if x0 < (0 : Int32) then (0 : Int32) else (if (2 : Int32) ≤ x0 then (0 : Int32) else (1 : Int32)))
set_option maxHeartbeats 4000000 in
set_option maxRecDepth 100000 in
theorem w_X11_isSlot {p : Program} {l : Launch} {e : Env} {s : State} {m : MethodId} {args : Array Value} {below : List Frame} {meth : Method} {c : Code} {D : va_G} {cy : Nat → ClassId} {QQ : State → Prop} {FV : Int32} (x0 : Int32) (hx : p.tables.exec = Jvm.exec) (hb : c.code = cX11_isSlot) (hml : c.maxLocals = 1) (hown : s.vm.findClass RX11 = some m.cls) (hts : ∀ w ∈ Cond.code yX11_isSlot cX11_isSlot 1 (some .boolean) :: LW, w.before args s = true) (hG : GW D cy s) (hret : ∀ (r : Int32) (ls : Array Slot) (pc : Nat), FV = r → narrow .boolean (.int r) = .int r → decode cX11_isSlot pc = .ok (.ireturn, 1) → W p l e (rmk 0 0) s m args below meth c s.heap [] 0 0 QQ (F0 m pc ls [.int r])) (ls : Array Slot) (hl : lv_has ls 1 [(0, .int x0)]) (hP : va_P D vwCl (wd_X11_isSlot cy) s.heap) (hR : FV = (F_X11_isSlot x0)) : W p l e (rmk 0 0) s m args below meth c s.heap [] 0 0 QQ (F0 m 0 ls []) := by
  have hw : ∀ w ∈ LW, w.before args s = true := fun w h => hts w (List.mem_cons_of_mem _ h)
  have hK := hG.1
  unfold F_X11_isSlot at hR
  refine lv_iload_n hx hb dX11_isSlot_0 rfl (lv_at hl 0 rfl) ?_
  have K_1 : W p l e (rmk 0 0) s m args below meth c s.heap [] 0 0 QQ (F0 m 14 ls [.int (if x0 < (0 : Int32) then (0 : Int32) else (if (2 : Int32) ≤ x0 then (0 : Int32) else (1 : Int32)))]) := by
    exact hret (if x0 < (0 : Int32) then (0 : Int32) else (if (2 : Int32) ≤ x0 then (0 : Int32) else (1 : Int32))) _ _ hR (isB.nar (isB_ite isB_0 (isB_ite isB_0 isB_1))) dX11_isSlot_14
  refine lv_if_lt (tgt := 13) hx hb dX11_isSlot_1 (by decide) (fun c_1 => ?_) (fun c_1 => ?_)
  · refine lv_iconst (v := 0) hx hb dX11_isSlot_13 (by decide) ?_
    exact W.eq (congrArg (fun z => F0 m 14 ls (Value.int z :: [])) (if_pos c_1).symm) K_1
  · refine lv_iload_n hx hb dX11_isSlot_4 rfl (lv_at hl 0 rfl) ?_
    refine lv_iconst (v := 2) hx hb dX11_isSlot_5 (by decide) ?_
    refine lv_icmp_ge (tgt := 13) hx hb dX11_isSlot_6 (by decide) (fun c_6 => ?_) (fun c_6 => ?_)
    · refine lv_iconst (v := 0) hx hb dX11_isSlot_13 (by decide) ?_
      exact W.eq (congrArg (fun z => F0 m 14 ls (Value.int z :: [])) ((if_neg c_1).trans (if_pos c_6)).symm) K_1
    · refine lv_iconst (v := 1) hx hb dX11_isSlot_9 (by decide) ?_
      refine lv_goto (tgt := 14) hx hb dX11_isSlot_10 (by decide) ?_
      exact W.eq (congrArg (fun z => F0 m 14 ls (Value.int z :: [])) ((if_neg c_1).trans (if_neg c_6)).symm) K_1
set_option maxHeartbeats 1000000 in
set_option maxRecDepth 100000 in
theorem c_X11_isSlot {l : Launch} {D : va_G} {cy : Nat → ClassId} (x0 : Int32) : RdI l yX11_isSlot cX11_isSlot 1 (some .boolean) 0 0 D cy [.int x0] (wd_X11_isSlot cy) (F_X11_isSlot x0) := by
  refine Met.ofW (cc := cX11_isSlot) (maxL := 1) (ret := (some .boolean)) (by decide) rfl ?_
  intro p e s m args below meth c s₁ B hml hv
  obtain ⟨rfl, hP, hG⟩ := hv
  have hr := B.returns
  have hlocks := B.notSynchronized
  have hl := lv_entry ([.int x0]) (n := 1) (Nat.le_of_ble_eq_true rfl)
  rw [lg_entry_eq]
  generalize (lg_sl ([.int x0]) ++ List.replicate (1 - (lg_sl ([.int x0])).length) Slot.unset).toArray = ls at hl ⊢
  exact w_X11_isSlot x0 B.exec B.bytes hml (findClass_of_methodNamed B.named) (atoms_spec (ws := Cond.code yX11_isSlot cX11_isSlot 1 (some .boolean) :: LW) B.pre) hG (fun r ls pc hF hn hdg => W.zret (v := r) B.exec B.bytes hr hn (fun t ht hW => ⟨r, rfl, hF.symm, ht⟩) (fun _ h => absurd h List.not_mem_nil) hdg) ls hl hP rfl
abbrev wd_X11_arePrices (cy : Nat → ClassId) : va_W := []
noncomputable def F_X11_arePrices (x0 : Int32) (x1 : Int32) : Int32 := (if x0 < (0 : Int32) then (0 : Int32) else (if (9 : Int32) < x0 then (0 : Int32) else (if x1 < (0 : Int32) then (0 : Int32) else (if (9 : Int32) < x1 then (0 : Int32) else (1 : Int32)))))
set_option maxHeartbeats 4000000 in
set_option maxRecDepth 100000 in
theorem w_X11_arePrices {p : Program} {l : Launch} {e : Env} {s : State} {m : MethodId} {args : Array Value} {below : List Frame} {meth : Method} {c : Code} {D : va_G} {cy : Nat → ClassId} {QQ : State → Prop} {FV : Int32} (x0 : Int32) (x1 : Int32) (hx : p.tables.exec = Jvm.exec) (hb : c.code = cX11_arePrices) (hml : c.maxLocals = 2) (hown : s.vm.findClass RX11 = some m.cls) (hts : ∀ w ∈ Cond.code yX11_arePrices cX11_arePrices 2 (some .boolean) :: LW, w.before args s = true) (hG : GW D cy s) (hret : ∀ (r : Int32) (ls : Array Slot) (pc : Nat), FV = r → narrow .boolean (.int r) = .int r → decode cX11_arePrices pc = .ok (.ireturn, 1) → W p l e (rmk 0 0) s m args below meth c s.heap [] 0 0 QQ (F0 m pc ls [.int r])) (ls : Array Slot) (hl : lv_has ls 2 [(0, .int x0), (1, .int x1)]) (hP : va_P D vwCl (wd_X11_arePrices cy) s.heap) (hR : FV = (F_X11_arePrices x0 x1)) : W p l e (rmk 0 0) s m args below meth c s.heap [] 0 0 QQ (F0 m 0 ls []) := by
  have hw : ∀ w ∈ LW, w.before args s = true := fun w h => hts w (List.mem_cons_of_mem _ h)
  have hK := hG.1
  unfold F_X11_arePrices at hR
  refine lv_iload_n hx hb dX11_arePrices_0 rfl (lv_at hl 0 rfl) ?_
  have K_1 : W p l e (rmk 0 0) s m args below meth c s.heap [] 0 0 QQ (F0 m 25 ls [.int (if x0 < (0 : Int32) then (0 : Int32) else (if (9 : Int32) < x0 then (0 : Int32) else (if x1 < (0 : Int32) then (0 : Int32) else (if (9 : Int32) < x1 then (0 : Int32) else (1 : Int32)))))]) := by
    exact hret (if x0 < (0 : Int32) then (0 : Int32) else (if (9 : Int32) < x0 then (0 : Int32) else (if x1 < (0 : Int32) then (0 : Int32) else (if (9 : Int32) < x1 then (0 : Int32) else (1 : Int32))))) _ _ hR (isB.nar (isB_ite isB_0 (isB_ite isB_0 (isB_ite isB_0 (isB_ite isB_0 isB_1))))) dX11_arePrices_25
  refine lv_if_lt (tgt := 24) hx hb dX11_arePrices_1 (by decide) (fun c_1 => ?_) (fun c_1 => ?_)
  · refine lv_iconst (v := 0) hx hb dX11_arePrices_24 (by decide) ?_
    exact W.eq (congrArg (fun z => F0 m 25 ls (Value.int z :: [])) (if_pos c_1).symm) K_1
  · refine lv_iload_n hx hb dX11_arePrices_4 rfl (lv_at hl 0 rfl) ?_
    refine lv_bipush (v := 9) hx hb dX11_arePrices_5 (by decide) ?_
    refine lv_icmp_gt (tgt := 24) hx hb dX11_arePrices_7 (by decide) (fun c_7 => ?_) (fun c_7 => ?_)
    · refine lv_iconst (v := 0) hx hb dX11_arePrices_24 (by decide) ?_
      exact W.eq (congrArg (fun z => F0 m 25 ls (Value.int z :: [])) ((if_neg c_1).trans (if_pos c_7)).symm) K_1
    · refine lv_iload_n hx hb dX11_arePrices_10 rfl (lv_at hl 1 rfl) ?_
      refine lv_if_lt (tgt := 24) hx hb dX11_arePrices_11 (by decide) (fun c_11 => ?_) (fun c_11 => ?_)
      · refine lv_iconst (v := 0) hx hb dX11_arePrices_24 (by decide) ?_
        exact W.eq (congrArg (fun z => F0 m 25 ls (Value.int z :: [])) ((if_neg c_1).trans ((if_neg c_7).trans (if_pos c_11))).symm) K_1
      · refine lv_iload_n hx hb dX11_arePrices_14 rfl (lv_at hl 1 rfl) ?_
        refine lv_bipush (v := 9) hx hb dX11_arePrices_15 (by decide) ?_
        refine lv_icmp_gt (tgt := 24) hx hb dX11_arePrices_17 (by decide) (fun c_17 => ?_) (fun c_17 => ?_)
        · refine lv_iconst (v := 0) hx hb dX11_arePrices_24 (by decide) ?_
          exact W.eq (congrArg (fun z => F0 m 25 ls (Value.int z :: [])) ((if_neg c_1).trans ((if_neg c_7).trans ((if_neg c_11).trans (if_pos c_17)))).symm) K_1
        · refine lv_iconst (v := 1) hx hb dX11_arePrices_20 (by decide) ?_
          refine lv_goto (tgt := 25) hx hb dX11_arePrices_21 (by decide) ?_
          exact W.eq (congrArg (fun z => F0 m 25 ls (Value.int z :: [])) ((if_neg c_1).trans ((if_neg c_7).trans ((if_neg c_11).trans (if_neg c_17)))).symm) K_1
set_option maxHeartbeats 1000000 in
set_option maxRecDepth 100000 in
theorem c_X11_arePrices {l : Launch} {D : va_G} {cy : Nat → ClassId} (x0 : Int32) (x1 : Int32) : RdI l yX11_arePrices cX11_arePrices 2 (some .boolean) 0 0 D cy [.int x0, .int x1] (wd_X11_arePrices cy) (F_X11_arePrices x0 x1) := by
  refine Met.ofW (cc := cX11_arePrices) (maxL := 2) (ret := (some .boolean)) (by decide) rfl ?_
  intro p e s m args below meth c s₁ B hml hv
  obtain ⟨rfl, hP, hG⟩ := hv
  have hr := B.returns
  have hlocks := B.notSynchronized
  have hl := lv_entry ([.int x0, .int x1]) (n := 2) (Nat.le_of_ble_eq_true rfl)
  rw [lg_entry_eq]
  generalize (lg_sl ([.int x0, .int x1]) ++ List.replicate (2 - (lg_sl ([.int x0, .int x1])).length) Slot.unset).toArray = ls at hl ⊢
  exact w_X11_arePrices x0 x1 B.exec B.bytes hml (findClass_of_methodNamed B.named) (atoms_spec (ws := Cond.code yX11_arePrices cX11_arePrices 2 (some .boolean) :: LW) B.pre) hG (fun r ls pc hF hn hdg => W.zret (v := r) B.exec B.bytes hr hn (fun t ht hW => ⟨r, rfl, hF.symm, ht⟩) (fun _ h => absurd h List.not_mem_nil) hdg) ls hl hP rfl
abbrev wd_X11_greatestDivisor (cy : Nat → ClassId) : va_W := []
noncomputable def F_X11_greatestDivisor_b45 (v4 : Int64) : Int64 := v4
noncomputable def F_X11_greatestDivisor_L9 (n : Nat) : Int64 → Int64 → Int32 → Int64 := Nat.rec (motive := fun _ => Int64 → Int64 → Int32 → Int64) (fun _ _ _ => (0 : Int64)) (fun _ ih v4 v6 v8 => (if (200 : Int32) ≤ v8 then v4 else (if (lg_cmp v6 (0 : Int64)) = (0 : Int32) then v4 else (ih v6 (v4 - v4 / v6 * v6) (v8 + (1 : Int32)))))) n
theorem F_X11_greatestDivisor_L9_s {n : Nat} {v4 : Int64} {v6 : Int64} {v8 : Int32} : F_X11_greatestDivisor_L9 (n + 1) v4 v6 v8 = (if (200 : Int32) ≤ v8 then v4 else (if (lg_cmp v6 (0 : Int64)) = (0 : Int32) then v4 else ((F_X11_greatestDivisor_L9 n) v6 (v4 - v4 / v6 * v6) (v8 + (1 : Int32))))) := rfl
def ok_X11_greatestDivisor_L9 (n : Nat) : Int64 → Int64 → Int32 → Prop := Nat.rec (motive := fun _ => Int64 → Int64 → Int32 → Prop) (fun _ _ _ => False) (fun _ oih v4 v6 v8 => (¬ ((200 : Int32) ≤ v8) → (¬ ((lg_cmp v6 (0 : Int64)) = (0 : Int32)) → (¬ v6 = 0) ∧ (oih v6 (v4 - v4 / v6 * v6) (v8 + (1 : Int32)))))) n
theorem ok_X11_greatestDivisor_L9_s {n : Nat} {v4 : Int64} {v6 : Int64} {v8 : Int32} : ok_X11_greatestDivisor_L9 (n + 1) v4 v6 v8 ↔ ((¬ ((200 : Int32) ≤ v8) → (¬ ((lg_cmp v6 (0 : Int64)) = (0 : Int32)) → (¬ v6 = 0) ∧ ((ok_X11_greatestDivisor_L9 n) v6 (v4 - v4 / v6 * v6) (v8 + (1 : Int32)))))) := Iff.rfl
noncomputable def F_X11_greatestDivisor (x0 : Int64) (x1 : Int64) : Int64 := ((fun (q : Int64) => (F_X11_greatestDivisor_b45 q)) (F_X11_greatestDivisor_L9 FU x0 x1 (0 : Int32)))
def ok_X11_greatestDivisor (x0 : Int64) (x1 : Int64) : Prop := (ok_X11_greatestDivisor_L9 FU x0 x1 (0 : Int32))
set_option maxHeartbeats 4000000 in
set_option maxRecDepth 100000 in
theorem w_X11_greatestDivisor {p : Program} {l : Launch} {e : Env} {s : State} {m : MethodId} {args : Array Value} {below : List Frame} {meth : Method} {c : Code} {D : va_G} {cy : Nat → ClassId} {QQ : State → Prop} {FV : Int64} (x0 : Int64) (x1 : Int64) (hx : p.tables.exec = Jvm.exec) (hb : c.code = cX11_greatestDivisor) (hml : c.maxLocals = 11) (hown : s.vm.findClass RX11 = some m.cls) (hts : ∀ w ∈ Cond.code yX11_greatestDivisor cX11_greatestDivisor 11 (some .long) :: LW, w.before args s = true) (hG : GW D cy s) (hret : ∀ (r : Int64) (ls : Array Slot) (pc : Nat), FV = r → decode cX11_greatestDivisor pc = .ok (.lreturn, 1) → W p l e (rmk 0 0) s m args below meth c s.heap [] 0 0 QQ (F0 m pc ls [.long r])) (ls : Array Slot) (hl : lv_has ls 11 [(0, .long x0), (2, .long x1)]) (hP : va_P D vwCl (wd_X11_greatestDivisor cy) s.heap) (hok : (ok_X11_greatestDivisor x0 x1)) (hR : FV = (F_X11_greatestDivisor x0 x1)) : W p l e (rmk 0 0) s m args below meth c s.heap [] 0 0 QQ (F0 m 0 ls []) := by
  have hw : ∀ w ∈ LW, w.before args s = true := fun w h => hts w (List.mem_cons_of_mem _ h)
  have hK := hG.1
  unfold F_X11_greatestDivisor at hR
  unfold ok_X11_greatestDivisor at hok
  refine lv_lload_n hx hb dX11_greatestDivisor_0 rfl (lv_at hl 0 rfl) ?_
  refine lv_lstore (lv' := [(4, .long x0), (0, .long x0), (2, .long x1)]) hx hb dX11_greatestDivisor_1 hl (Nat.le_of_ble_eq_true rfl) rfl (fun ls hl => ?_)
  refine lv_lload_n hx hb dX11_greatestDivisor_3 rfl (lv_at hl 2 rfl) ?_
  refine lv_lstore (lv' := [(6, .long x1), (4, .long x0), (0, .long x0), (2, .long x1)]) hx hb dX11_greatestDivisor_4 hl (Nat.le_of_ble_eq_true rfl) rfl (fun ls hl => ?_)
  refine lv_iconst (v := 0) hx hb dX11_greatestDivisor_6 (by decide) ?_
  refine lv_istore (lv' := [(8, .int (0 : Int32)), (6, .long x1), (4, .long x0), (0, .long x0), (2, .long x1)]) hx hb dX11_greatestDivisor_7 hl (Nat.le_of_ble_eq_true rfl) rfl (fun ls hl => ?_)
  have L_9 : ∀ (n_9 : Nat) (V : Int64) (v4_9 : Int64) (v6_9 : Int64) (v8_9 : Int32) (ls : Array Slot), lv_has ls 11 [(4, .long v4_9), (6, .long v6_9), (8, .int v8_9)] → (ok_X11_greatestDivisor_L9 n_9 v4_9 v6_9 v8_9) → V = (F_X11_greatestDivisor_L9 n_9 v4_9 v6_9 v8_9) → (∀ (e9_0 : Int64) (ls : Array Slot), lv_has ls 11 [(4, .long e9_0)] → V = e9_0 → W p l e (rmk 0 0) s m args below meth c s.heap [] 0 0 QQ (F0 m 45 ls [])) → W p l e (rmk 0 0) s m args below meth c s.heap [] 0 0 QQ (F0 m 9 ls []) := by
    intro n_9
    induction n_9 with
    | zero => intro V v4_9 v6_9 v8_9 ls hl hok; exact False.elim hok
    | succ n_9 ih9 =>
      intro V v4_9 v6_9 v8_9 ls hl hok hR hX
      replace hR := hR.trans F_X11_greatestDivisor_L9_s
      replace hok := ok_X11_greatestDivisor_L9_s.mp hok
      refine lv_iload hx hb dX11_greatestDivisor_9 (lv_at hl 2 rfl) ?_
      refine lv_sipush (v := 200) hx hb dX11_greatestDivisor_11 (by decide) ?_
      refine lv_icmp_ge (tgt := 45) hx hb dX11_greatestDivisor_14 (by decide) (fun c_14 => ?_) (fun c_14 => ?_)
      · replace hR := bp hR c_14
        exact hX v4_9 _ (lv_sub hl [0] rfl) hR
      · replace hR := bn hR c_14
        replace hok := hok c_14
        refine lv_lload hx hb dX11_greatestDivisor_17 (lv_at hl 1 rfl) ?_
        refine lv_lconst (v := 0) hx hb dX11_greatestDivisor_19 (by decide) ?_
        refine W.lcmp hx hb dX11_greatestDivisor_20 ?_
        refine lv_if_eq (tgt := 45) hx hb dX11_greatestDivisor_21 (by decide) (fun c_21 => ?_) (fun c_21 => ?_)
        · replace hR := bp hR c_21
          exact hX v4_9 _ (lv_sub hl [0] rfl) hR
        · replace hR := bn hR c_21
          replace hok := hok c_21
          refine lv_lload hx hb dX11_greatestDivisor_24 (lv_at hl 0 rfl) ?_
          refine lv_lload hx hb dX11_greatestDivisor_26 (lv_at hl 1 rfl) ?_
          obtain ⟨h_28_0, hok⟩ := hok
          refine lv_lrem hx hb dX11_greatestDivisor_28 h_28_0 ?_
          refine lv_lstore (lv' := [(9, .long (v4_9 - v4_9 / v6_9 * v6_9)), (4, .long v4_9), (6, .long v6_9), (8, .int v8_9)]) hx hb dX11_greatestDivisor_29 hl (Nat.le_of_ble_eq_true rfl) rfl (fun ls hl => ?_)
          refine lv_lload hx hb dX11_greatestDivisor_31 (lv_at hl 2 rfl) ?_
          refine lv_lstore (lv' := [(4, .long v6_9), (9, .long (v4_9 - v4_9 / v6_9 * v6_9)), (6, .long v6_9), (8, .int v8_9)]) hx hb dX11_greatestDivisor_33 hl (Nat.le_of_ble_eq_true rfl) rfl (fun ls hl => ?_)
          refine lv_lload hx hb dX11_greatestDivisor_35 (lv_at hl 1 rfl) ?_
          refine lv_lstore (lv' := [(6, .long (v4_9 - v4_9 / v6_9 * v6_9)), (4, .long v6_9), (9, .long (v4_9 - v4_9 / v6_9 * v6_9)), (8, .int v8_9)]) hx hb dX11_greatestDivisor_37 hl (Nat.le_of_ble_eq_true rfl) rfl (fun ls hl => ?_)
          refine lv_iinc (v := (v8_9 + (1 : Int32))) (lv' := [(8, .int (v8_9 + (1 : Int32))), (6, .long (v4_9 - v4_9 / v6_9 * v6_9)), (4, .long v6_9), (9, .long (v4_9 - v4_9 / v6_9 * v6_9))]) hx hb dX11_greatestDivisor_39 hl (k := 3) rfl rfl (Nat.le_of_ble_eq_true rfl) rfl (fun ls hl => ?_)
          refine lv_goto (tgt := 9) hx hb dX11_greatestDivisor_42 (by decide) ?_
          exact ih9 V v6_9 (v4_9 - v4_9 / v6_9 * v6_9) (v8_9 + (1 : Int32)) _ (lv_sub hl [2, 1, 0] rfl) hok hR hX
  have hokL := hok
  refine L_9 FU _ x0 x1 (0 : Int32) _ (lv_sub hl [2, 1, 0] rfl) hokL rfl (fun e9_0 ls hl hE => ?_)
  have hR2 := hRq (fun (q : Int64) => (F_X11_greatestDivisor_b45 q)) hE.symm hR
  replace hR : FV = (F_X11_greatestDivisor_b45 e9_0) := hR2
  unfold F_X11_greatestDivisor_b45 at hR
  refine lv_lload hx hb dX11_greatestDivisor_45 (lv_at hl 0 rfl) ?_
  exact hret e9_0 _ _ hR dX11_greatestDivisor_47
set_option maxHeartbeats 1000000 in
set_option maxRecDepth 100000 in
theorem c_X11_greatestDivisor {l : Launch} {D : va_G} {cy : Nat → ClassId} (x0 : Int64) (x1 : Int64) (hok : (ok_X11_greatestDivisor x0 x1)) : RdL l yX11_greatestDivisor cX11_greatestDivisor 11 (some .long) 0 0 D cy [.long x0, .long x1] (wd_X11_greatestDivisor cy) (F_X11_greatestDivisor x0 x1) := by
  refine Met.ofW (cc := cX11_greatestDivisor) (maxL := 11) (ret := (some .long)) (by decide) rfl ?_
  intro p e s m args below meth c s₁ B hml hv
  obtain ⟨rfl, hP, hG⟩ := hv
  have hr := B.returns
  have hlocks := B.notSynchronized
  have hl := lv_entry ([.long x0, .long x1]) (n := 11) (Nat.le_of_ble_eq_true rfl)
  rw [lg_entry_eq]
  generalize (lg_sl ([.long x0, .long x1]) ++ List.replicate (11 - (lg_sl ([.long x0, .long x1])).length) Slot.unset).toArray = ls at hl ⊢
  exact w_X11_greatestDivisor x0 x1 B.exec B.bytes hml (findClass_of_methodNamed B.named) (atoms_spec (ws := Cond.code yX11_greatestDivisor cX11_greatestDivisor 11 (some .long) :: LW) B.pre) hG (fun r ls pc hF hdg => W.lret (v := r) B.exec B.bytes hr (fun t ht hW => ⟨r, rfl, hF.symm, ht⟩) (fun _ h => absurd h List.not_mem_nil) hdg) ls hl hP hok rfl
abbrev wd_X11_fraction (cy : Nat → ClassId) : va_W := []
noncomputable def F_X11_fraction (x0 : Int64) (x1 : Int64) (x2 : Int32) : Int64 := (if (lg_cmp (F_X11_greatestDivisor x0 x1) (0 : Int64)) = (0 : Int32) then (0 : Int64) else ((if x2 = (0 : Int32) then x1 else x0) / (F_X11_greatestDivisor x0 x1)))
def ok_X11_fraction (x0 : Int64) (x1 : Int64) : Prop := ((ok_X11_greatestDivisor x0 x1)) ∧ (¬ ((lg_cmp (F_X11_greatestDivisor x0 x1) (0 : Int64)) = (0 : Int32)) → (¬ (F_X11_greatestDivisor x0 x1) = 0))
set_option maxHeartbeats 4000000 in
set_option maxRecDepth 100000 in
theorem w_X11_fraction {p : Program} {l : Launch} {e : Env} {s : State} {m : MethodId} {args : Array Value} {below : List Frame} {meth : Method} {c : Code} {D : va_G} {cy : Nat → ClassId} {QQ : State → Prop} {FV : Int64} (x0 : Int64) (x1 : Int64) (x2 : Int32) (hx : p.tables.exec = Jvm.exec) (hb : c.code = cX11_fraction) (hml : c.maxLocals = 7) (hown : s.vm.findClass RX11 = some m.cls) (hts : ∀ w ∈ Cond.code yX11_fraction cX11_fraction 7 (some .long) :: LW, w.before args s = true) (hG : GW D cy s) (hret : ∀ (r : Int64) (ls : Array Slot) (pc : Nat), FV = r → decode cX11_fraction pc = .ok (.lreturn, 1) → W p l e (rmk 1 30) s m args below meth c s.heap [] 0 0 QQ (F0 m pc ls [.long r])) (ls : Array Slot) (hl : lv_has ls 7 [(0, .long x0), (2, .long x1), (4, .int x2)]) (hP : va_P D vwCl (wd_X11_fraction cy) s.heap) (hok : (ok_X11_fraction x0 x1)) (hR : FV = (F_X11_fraction x0 x1 x2)) : W p l e (rmk 1 30) s m args below meth c s.heap [] 0 0 QQ (F0 m 0 ls []) := by
  have hw : ∀ w ∈ LW, w.before args s = true := fun w h => hts w (List.mem_cons_of_mem _ h)
  have hK := hG.1
  unfold F_X11_fraction at hR
  unfold ok_X11_fraction at hok
  refine lv_lload_n hx hb dX11_fraction_0 rfl (lv_at hl 0 rfl) ?_
  refine lv_lload_n hx hb dX11_fraction_1 rfl (lv_at hl 1 rfl) ?_
  obtain ⟨h_2_0, hok⟩ := hok
  refine rdLS (As := [.long x0, .long x1]) (rest := []) hx hb hml hown hts hG hP k_X11_353 (c_X11_greatestDivisor (l := l) (D := D) (cy := cy) x0 x1 h_2_0) ⟨Nat.le_of_ble_eq_true rfl, Nat.le_of_ble_eq_true rfl⟩ [] rfl rfl hl.1 rfl (Nat.le_of_ble_eq_true rfl) ⟨Nat.zero_le _, Nat.zero_le _⟩ dX11_fraction_2 ?_
  refine lv_lstore (lv' := [(5, .long (F_X11_greatestDivisor x0 x1)), (0, .long x0), (2, .long x1), (4, .int x2)]) hx hb dX11_fraction_5 hl (Nat.le_of_ble_eq_true rfl) rfl (fun ls hl => ?_)
  refine lv_lload hx hb dX11_fraction_7 (lv_at hl 0 rfl) ?_
  refine lv_lconst (v := 0) hx hb dX11_fraction_9 (by decide) ?_
  refine W.lcmp hx hb dX11_fraction_10 ?_
  refine lv_if_ne (tgt := 16) hx hb dX11_fraction_11 (by decide) (fun c_11 => ?_) (fun c_11 => ?_)
  · replace hR := bn hR c_11
    replace hok := hok c_11
    refine lv_iload hx hb dX11_fraction_16 (lv_at hl 3 rfl) ?_
    have K_18 : W p l e (rmk 1 30) s m args below meth c s.heap [] 0 0 QQ (F0 m 26 ls [.long (if x2 = (0 : Int32) then x1 else x0)]) := by
      refine lv_lload hx hb dX11_fraction_26 (lv_at hl 0 rfl) ?_
      have h_28_0 := hok
      refine lv_ldiv hx hb dX11_fraction_28 h_28_0 ?_
      exact hret ((if x2 = (0 : Int32) then x1 else x0) / (F_X11_greatestDivisor x0 x1)) _ _ hR dX11_fraction_29
    refine lv_if_eq (tgt := 25) hx hb dX11_fraction_18 (by decide) (fun c_18 => ?_) (fun c_18 => ?_)
    · refine lv_lload_n hx hb dX11_fraction_25 rfl (lv_at hl 2 rfl) ?_
      exact W.eq (congrArg (fun z => F0 m 26 ls (Value.long z :: [])) (if_pos c_18).symm) K_18
    · refine lv_lload_n hx hb dX11_fraction_21 rfl (lv_at hl 1 rfl) ?_
      refine lv_goto (tgt := 26) hx hb dX11_fraction_22 (by decide) ?_
      exact W.eq (congrArg (fun z => F0 m 26 ls (Value.long z :: [])) (if_neg c_18).symm) K_18
  · replace hR := bp hR c_11
    refine lv_lconst (v := 0) hx hb dX11_fraction_14 (by decide) ?_
    exact hret (0 : Int64) _ _ hR dX11_fraction_15
set_option maxHeartbeats 1000000 in
set_option maxRecDepth 100000 in
theorem c_X11_fraction {l : Launch} {D : va_G} {cy : Nat → ClassId} (x0 : Int64) (x1 : Int64) (x2 : Int32) (hok : (ok_X11_fraction x0 x1)) : RdL l yX11_fraction cX11_fraction 7 (some .long) 1 30 D cy [.long x0, .long x1, .int x2] (wd_X11_fraction cy) (F_X11_fraction x0 x1 x2) := by
  refine Met.ofW (cc := cX11_fraction) (maxL := 7) (ret := (some .long)) (by decide) rfl ?_
  intro p e s m args below meth c s₁ B hml hv
  obtain ⟨rfl, hP, hG⟩ := hv
  have hr := B.returns
  have hlocks := B.notSynchronized
  have hl := lv_entry ([.long x0, .long x1, .int x2]) (n := 7) (Nat.le_of_ble_eq_true rfl)
  rw [lg_entry_eq]
  generalize (lg_sl ([.long x0, .long x1, .int x2]) ++ List.replicate (7 - (lg_sl ([.long x0, .long x1, .int x2])).length) Slot.unset).toArray = ls at hl ⊢
  exact w_X11_fraction x0 x1 x2 B.exec B.bytes hml (findClass_of_methodNamed B.named) (atoms_spec (ws := Cond.code yX11_fraction cX11_fraction 7 (some .long) :: LW) B.pre) hG (fun r ls pc hF hdg => W.lret (v := r) B.exec B.bytes hr (fun t ht hW => ⟨r, rfl, hF.symm, ht⟩) (fun _ h => absurd h List.not_mem_nil) hdg) ls hl hP hok rfl

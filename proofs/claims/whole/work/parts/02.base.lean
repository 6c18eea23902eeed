/-! the words that go through calls; the world's fixed facts; calls by one row -/
def LW : List Cond := lw_tbl.filter goodWord
theorem lw_w {w : Cond} (h : w ∈ tables_1) (g : goodWord w = true) : w ∈ LW := List.mem_filter.mpr ⟨List.mem_append_right _ h, g⟩
theorem lw_s {w : Cond} (h : w ∈ k2_sels lw_privs) (g : goodWord w = true) : w ∈ LW := List.mem_filter.mpr ⟨List.mem_append_left _ h, g⟩
theorem lw_1 {w : Cond} (h : w ∈ tables_1_1) (g : goodWord w = true) : w ∈ LW := lw_w (List.mem_append_left _ h) g
theorem lw_2 {w : Cond} (h : w ∈ tables_1_2) (g : goodWord w = true) : w ∈ LW := lw_w (List.mem_append_right _ (List.mem_append_left _ h)) g
theorem lw_3 {w : Cond} (h : w ∈ tables_1_3) (g : goodWord w = true) : w ∈ LW := lw_w (List.mem_append_right _ (List.mem_append_right _ (List.mem_append_left _ h))) g
theorem lw_4 {w : Cond} (h : w ∈ tables_1_4) (g : goodWord w = true) : w ∈ LW := lw_w (List.mem_append_right _ (List.mem_append_right _ (List.mem_append_right _ (List.mem_append_left _ h)))) g
theorem lw_5 {w : Cond} (h : w ∈ tables_1_5) (g : goodWord w = true) : w ∈ LW := lw_w (List.mem_append_right _ (List.mem_append_right _ (List.mem_append_right _ (List.mem_append_right _ (List.mem_append_left _ h))))) g
theorem lw_6 {w : Cond} (h : w ∈ tables_1_6) (g : goodWord w = true) : w ∈ LW := lw_w (List.mem_append_right _ (List.mem_append_right _ (List.mem_append_right _ (List.mem_append_right _ (List.mem_append_right _ (List.mem_append_left _ h)))))) g
theorem lw_7 {w : Cond} (h : w ∈ tables_1_7) (g : goodWord w = true) : w ∈ LW := lw_w (List.mem_append_right _ (List.mem_append_right _ (List.mem_append_right _ (List.mem_append_right _ (List.mem_append_right _ (List.mem_append_right _ h)))))) g
theorem LW_good {w : Cond} (h : w ∈ LW) : (w.onTables && w.keeps) = true ∨ ∃ ty, w = .arrayClass ty := good_of_word (List.mem_filter.mp h).2
theorem LW_in {c0 cc : Cond} (h : cc ∈ LW) : GoodIn (c0 :: LW) (cc :: LW) := fun w hw => by
  have hm : w ∈ LW := by
    rcases List.mem_cons.mp hw with e | e
    · rw [e]; exact h
    · exact e
  exact ⟨List.mem_cons_of_mem _ hm, LW_good hm⟩
abbrev rmk (f lo : Nat) : Room := { frames := f, cells := 0, slots := 0, locals := lo }
abbrev TY (cy : Nat → ClassId) : List (ClassId × FieldType) := [(cy 0, .byte), (cy 1, .int), (cy 2, .long), (cy 3, .boolean), (cy 4, .object RX3), (cy 5, .object RX5)]
def nestL : List (String × Nat × MethodName × String) := [(RX11, 29, yX2_init, RX11), (RX11, 47, yX6_init, RX11), (RX11, 54, yX3_init, RX11), (RX11, 73, yX10_init, RX11), (RX11, 80, yX4_init, RX11), (RX11, 87, yX8_init, RX11), (RX11, 110, yX0_init, RX11), (RX0, 24, yX10_init, RX11), (RX0, 45, yX11_isHour, RX11), (RX0, 57, yX11_spotOf, RX11), (RX1, 83, yX11_isHour, RX11), (RX3, 44, yX11_isHour, RX11), (RX3, 77, yX11_hourAfter, RX11), (RX4, 29, yX10_init, RX11), (RX4, 48, yX11_spotOf, RX11), (RX4, 56, yX11_whereAt, RX11), (RX5, 25, yX11_isHour, RX11), (RX6, 41, yX11_isHour, RX11), (RX7, 61, yX11_spotOf, RX11), (RX8, 27, yX3_init, RX11), (RX8, 38, yX11_whereAt, RX11), (RX8, 72, yX11_spotOf, RX11), (RX9, 48, yX11_whereAt, RX11), (RX10, 11, yX3_init, RX11)]
def GW (D : va_G) (cy : Nat → ClassId) (U : State) : Prop := va_K D vwCl (TY cy) U ∧ ∀ q ∈ nestL, va_Nw (.methodLinkNest q.1 q.2.1 q.2.2.1 q.2.2.2) U
theorem GW.warm {D : va_G} {cy : Nat → ClassId} {s U : State} (h : GW D cy s) (hW : s.WarmedH U.vm) : GW D cy U := ⟨va_K.moved hW.alike h.1, fun q hq => va_Nw.warmM hW (h.2 q hq)⟩
theorem GW.call {D : va_G} {cy : Nat → ClassId} {U : State} {g : JFrame} {mk : MethodId} {a : Array Value} (h : GW D cy U) : GW D cy (U.calling g mk a) := ⟨va_K.moved (u := U) (U := U.calling g mk a) (Vm.Alike.refl U.vm) h.1, fun q hq => va_Nw.same rfl rfl (h.2 q hq)⟩
/-- a reader: answers r, the heap stays -/
abbrev RdI (l : Launch) (y : MethodName) (b : ByteArray) (ml : Nat) (ret : Option FieldType) (f lo : Nat) (D : va_G) (cy : Nat → ClassId) (av : List Value) (ws : va_W) (r : Int32) : Prop :=
  Met l y (.code y b ml ret :: LW) (rmk f lo) (va_Pc av (fun U => va_P D vwCl ws U.heap ∧ GW D cy U)) (vp_Si (fun x => x = r)) 0 0 (fun _ => False)
abbrev RdL (l : Launch) (y : MethodName) (b : ByteArray) (ml : Nat) (ret : Option FieldType) (f lo : Nat) (D : va_G) (cy : Nat → ClassId) (av : List Value) (ws : va_W) (r : Int64) : Prop :=
  Met l y (.code y b ml ret :: LW) (rmk f lo) (va_Pc av (fun U => va_P D vwCl ws U.heap ∧ GW D cy U)) (vp_Sl (fun x => x = r)) 0 0 (fun _ => False)
/-- a writer: from the cells ws to the cells w1 of what comes out -/
abbrev PrM (D : va_G) (cy : Nat → ClassId) (ws : va_W) (sz : Nat) (U : State) : Prop := U.heap.size = sz ∧ va_P D vwCl ws U.heap ∧ GW D cy U ∧ va_D (fun _ => True) ws
abbrev PoM {S : Type} (D : va_G) (ws : va_W) (w1 : S → va_W) (sz : Nat) (u : S) (t : State) : Prop := va_P D vwCl (w1 u) t.heap ∧ va_D (va_A ws sz) (w1 u)
abbrev WrI {S : Type} (l : Launch) (y : MethodName) (b : ByteArray) (ml : Nat) (ret : Option FieldType) (f lo : Nat) (D : va_G) (cy : Nat → ClassId) (av : List Value) (ws : va_W) (w1 : S → va_W) (F : Int32 × S) (sz : Nat) : Prop :=
  Met l y (.code y b ml ret :: LW) (rmk f lo) (va_Pc av (PrM D cy ws sz)) (va_Qi (fun r u => (r, u) = F) (PoM D ws w1 sz) (va_A ws sz)) 0 0 (va_A ws sz)
abbrev WrL {S : Type} (l : Launch) (y : MethodName) (b : ByteArray) (ml : Nat) (ret : Option FieldType) (f lo : Nat) (D : va_G) (cy : Nat → ClassId) (av : List Value) (ws : va_W) (w1 : S → va_W) (F : Int64 × S) (sz : Nat) : Prop :=
  Met l y (.code y b ml ret :: LW) (rmk f lo) (va_Pc av (PrM D cy ws sz)) (va_Ql (fun r u => (r, u) = F) (PoM D ws w1 sz) (va_A ws sz)) 0 0 (va_A ws sz)
abbrev WrV {S : Type} (l : Launch) (y : MethodName) (b : ByteArray) (ml : Nat) (ret : Option FieldType) (f lo : Nat) (D : va_G) (cy : Nat → ClassId) (av : List Value) (ws : va_W) (w1 : S → va_W) (F : S) (sz : Nat) : Prop :=
  Met l y (.code y b ml ret :: LW) (rmk f lo) (va_Pc av (PrM D cy ws sz)) (va_Qv (fun u => u = F) (PoM D ws w1 sz) (va_A ws sz)) 0 0 (va_A ws sz)
/-- links -/
def nmOk (y : MethodName) (n : Nat) : Prop := y.cls ≠ "java/lang/invoke/MethodHandle" ∧ y.cls ≠ "java/lang/invoke/VarHandle" ∧ (parseMethodDescriptor y.desc).map (fun d => d.parameters.length) = some n
def LkV (own : String) (ix : Nat) (y : MethodName) (b : ByteArray) (ml : Nat) (ret : Option FieldType) (n : Nat) : Prop := Cond.methodLink own ix y ∈ LW ∧ Cond.instanceMethod y ∈ LW ∧ Cond.selects y.cls y y ∈ LW ∧ Cond.initialized y.cls ∈ LW ∧ Cond.code y b ml ret ∈ LW ∧ nmOk y n
def LkS (own : String) (ix : Nat) (y : MethodName) (b : ByteArray) (ml : Nat) (ret : Option FieldType) (n : Nat) : Prop := Cond.methodLink own ix y ∈ LW ∧ Cond.static y ∈ LW ∧ Cond.initialized y.cls ∈ LW ∧ Cond.code y b ml ret ∈ LW ∧ nmOk y n
def LkN (own : String) (ix : Nat) (y : MethodName) (b : ByteArray) (ml : Nat) (ret : Option FieldType) (n : Nat) : Prop := (own, ix, y, RX11) ∈ nestL ∧ Cond.static y ∈ LW ∧ Cond.initialized y.cls ∈ LW ∧ Cond.code y b ml ret ∈ LW ∧ nmOk y n
theorem pick_map {ws : va_W} : ∀ (is : List Nat), (is.all fun i => decide (i < ws.length)) = true → is.map (fun i => ws[i]?) = (is.filterMap (fun i => ws[i]?)).map some := by
  intro is
  induction is with
  | nil => intro _; rfl
  | cons i r ih =>
    intro h
    simp only [List.all_cons, Bool.and_eq_true, decide_eq_true_eq] at h
    obtain ⟨h1, h2⟩ := h
    have e : ws[i]? = some ws[i] := List.getElem?_eq_getElem h1
    rw [List.map_cons, List.filterMap_cons_some e, List.map_cons, ih h2, e]
section CL
variable {p : Program} {l : Launch} {e : Env} {R : Room} {s : State} {m : MethodId} {args : Array Value} {below : List Frame} {meth : Method} {c : Code} {H : Heap} {locs : List Loc} {cells slots : Nat} {Q : State → Prop}
variable {cc b : ByteArray} {pc ml f lo n ix nL a sz : Nat} {ls : Array Slot} {rest As st0 : List Value} {D : va_G} {cy : Nat → ClassId} {A : Nat → Prop} {ws wc : va_W} {c0 : Cond} {own : String} {y : MethodName} {ret : Option FieldType}
theorem rdI_run {r : Int32} {aa : Array Value} (hr : va_Run p l e R s m args below meth c H locs cells slots 0 0 (F0 m pc ls st0) rest (vp_Si (fun x => x = r) aa) (fun _ => False))
    (kk : W p l e R s m args below meth c H locs cells slots Q (F0 m (pc + 3) ls (.int r :: rest))) : W p l e R s m args below meth c H locs cells slots Q (F0 m pc ls st0) := by
  intro T hT X
  obtain ⟨v, st₀, t, T', L, h0, X', hL, e1, e2, ⟨r', hv, hp, hh⟩, st⟩ := hr T hT X
  subst hp
  cases hv
  obtain ⟨t2, a1, b1⟩ := kk T' (by rw [e1, hh, h0]) (Stand.forget X' (fun q h => (hL q h).elim))
  exact ⟨t2, st t2 a1, b1⟩
theorem rdL_run {r : Int64} {aa : Array Value} (hr : va_Run p l e R s m args below meth c H locs cells slots 0 0 (F0 m pc ls st0) rest (vp_Sl (fun x => x = r) aa) (fun _ => False))
    (kk : W p l e R s m args below meth c H locs cells slots Q (F0 m (pc + 3) ls (.long r :: rest))) : W p l e R s m args below meth c H locs cells slots Q (F0 m pc ls st0) := by
  intro T hT X
  obtain ⟨v, st₀, t, T', L, h0, X', hL, e1, e2, ⟨r', hv, hp, hh⟩, st⟩ := hr T hT X
  subst hp
  cases hv
  obtain ⟨t2, a1, b1⟩ := kk T' (by rw [e1, hh, h0]) (Stand.forget X' (fun q h => (hL q h).elim))
  exact ⟨t2, st t2 a1, b1⟩
theorem blR {av : List Value} : FrameBlind (va_Pc av (fun U => va_P D vwCl ws U.heap ∧ GW D cy U)) := fun _ _ _ _ q => ⟨q.1, q.2.1, q.2.2.call⟩
theorem blM {av : List Value} : FrameBlind (va_Pc av (PrM D cy ws sz)) := fun _ _ _ _ q => ⟨q.1, q.2.1, q.2.2.1, q.2.2.2.1.call, q.2.2.2.2⟩
theorem cwVL (lk : LkV own ix y b ml ret n) (ht : ∀ w ∈ c0 :: LW, w.before args s = true) (hR : f + 1 ≤ R.frames ∧ 8 + (ml + 11) + lo ≤ R.locals) : CallW R s args own y.cls ix y b ml ret (.code y b ml ret :: LW) (rmk f lo) 0 0 n := by
  obtain ⟨h1, h2, h3, h4, h5, h6⟩ := lk
  have up : ∀ w ∈ LW, w.before args s = true := fun w h => ht w (List.mem_cons_of_mem _ h)
  exact ⟨callB_of n ht (LW_in h5) rfl rfl rfl (up _ h4) (up _ h1) h6 hR, up _ h2, up _ h3⟩
theorem cwSL (lk : LkS own ix y b ml ret n) (ht : ∀ w ∈ c0 :: LW, w.before args s = true) (hR : f + 1 ≤ R.frames ∧ 8 + (ml + 11) + lo ≤ R.locals) : CallB R s args own ix y b ml ret (.code y b ml ret :: LW) (rmk f lo) 0 0 n ∧ (Cond.static y).before args s = true := by
  obtain ⟨h1, h2, h4, h5, h6⟩ := lk
  have up : ∀ w ∈ LW, w.before args s = true := fun w h => ht w (List.mem_cons_of_mem _ h)
  exact ⟨callB_of n ht (LW_in h5) rfl rfl rfl (up _ h4) (up _ h1) h6 hR, up _ h2⟩
theorem cwNL (lk : LkN own ix y b ml ret n) (hG : GW D cy s) (ht : ∀ w ∈ c0 :: LW, w.before args s = true) (hR : f + 1 ≤ R.frames ∧ 8 + (ml + 11) + lo ≤ R.locals) : va_CN R s args own ix y RX11 b ml ret (.code y b ml ret :: LW) (rmk f lo) 0 0 n ∧ (Cond.static y).before args s = true ∧ True := by
  obtain ⟨h1, h2, h4, h5, h6⟩ := lk
  have up : ∀ w ∈ LW, w.before args s = true := fun w h => ht w (List.mem_cons_of_mem _ h)
  exact ⟨va_cnB n ht (LW_in h5) rfl rfl rfl (hG.2 _ h1) (up _ h4) h6 hR, up _ h2, trivial⟩
theorem preV (hG : GW D cy s) (hP : va_P D vwCl ws H) (is : List Nat) (his : is.filterMap (fun i => ws[i]?) = wc) (q0 : Nat) {ci : Nat} {q : vw_C} {fs : List Value} (hc : vwCl[ci]? = some q) (he : ws[q0]? = some (a, .inr (ci, fs))) : PreV s H q.1 a (va_Pc (.ref a :: As) (fun U => va_P D vwCl wc U.heap ∧ GW D cy U)) As :=
  ⟨blR, va_recv hG.1 hP hc he, fun U hU hW => ⟨rfl, by rw [hU]; exact hP.sub is his, hG.warm hW⟩⟩
theorem preS (hG : GW D cy s) (hP : va_P D vwCl ws H) (is : List Nat) (his : is.filterMap (fun i => ws[i]?) = wc) : PreS s H (va_Pc As (fun U => va_P D vwCl wc U.heap ∧ GW D cy U)) As :=
  ⟨blR, fun U hU hW => ⟨rfl, by rw [hU]; exact hP.sub is his, hG.warm hW⟩⟩
/-- a reader is called: virtual, static, a nest mate's static -/
theorem rdIV {r : Int32} {ci : Nat} {q : vw_C} {fs : List Value} (hx : p.tables.exec = Jvm.exec) (hb : c.code = cc) (hml : c.maxLocals = nL) (hown : s.vm.findClass own = some m.cls) (ht : ∀ w ∈ c0 :: LW, w.before args s = true) (hG : GW D cy s) (hP : va_P D vwCl ws H)
    (lk : LkV own ix y b ml ret n) (hM : RdI l y b ml ret f lo D cy (.ref a :: As) wc r) (hR : f + 1 ≤ R.frames ∧ 8 + (ml + 11) + lo ≤ R.locals) (is : List Nat) (his : is.filterMap (fun i => ws[i]?) = wc) (q0 : Nat) (hc : vwCl[ci]? = some q) (hq : q.1 = y.cls) (he : ws[q0]? = some (a, .inr (ci, fs)))
    (hn : As.length = n) (hsize : ls.size = nL) (hst : st0 = As.reverse ++ .ref a :: rest) (hW : (rest.map fun v => v.category).sum ≤ 8) (hf : cells ≤ R.cells ∧ slots ≤ R.slots) (hdg : decode cc pc = .ok (.invokevirtual ix, 3))
    (kk : W p l e R s m args below meth c H locs cells slots Q (F0 m (pc + 3) ls (.int r :: rest))) : W p l e R s m args below meth c H locs cells slots Q (F0 m pc ls st0) := by
  subst hst
  exact rdI_run (va_runV (As := As) (rest := rest) ⟨hx, hb, hml, hown, ht⟩ hM (cwVL lk ht hR) (hq ▸ preV hG hP is his q0 hc he) rfl hn hsize rfl (lv_room hW) hdg ⟨hf.1, hf.2⟩) kk
theorem rdIS {r : Int32} (hx : p.tables.exec = Jvm.exec) (hb : c.code = cc) (hml : c.maxLocals = nL) (hown : s.vm.findClass own = some m.cls) (ht : ∀ w ∈ c0 :: LW, w.before args s = true) (hG : GW D cy s) (hP : va_P D vwCl ws H)
    (lk : LkS own ix y b ml ret n) (hM : RdI l y b ml ret f lo D cy As wc r) (hR : f + 1 ≤ R.frames ∧ 8 + (ml + 11) + lo ≤ R.locals) (is : List Nat) (his : is.filterMap (fun i => ws[i]?) = wc)
    (hn : As.length = n) (hsize : ls.size = nL) (hst : st0 = As.reverse ++ rest) (hW : (rest.map fun v => v.category).sum ≤ 8) (hf : cells ≤ R.cells ∧ slots ≤ R.slots) (hdg : decode cc pc = .ok (.invokestatic ix, 3))
    (kk : W p l e R s m args below meth c H locs cells slots Q (F0 m (pc + 3) ls (.int r :: rest))) : W p l e R s m args below meth c H locs cells slots Q (F0 m pc ls st0) := by
  subst hst
  exact rdI_run (va_runS (As := As) (rest := rest) ⟨hx, hb, hml, hown, ht⟩ hM (cwSL lk ht hR) (preS hG hP is his) rfl hn hsize rfl (lv_room hW) hdg ⟨hf.1, hf.2⟩) kk
theorem rdIN {r : Int32} (hx : p.tables.exec = Jvm.exec) (hb : c.code = cc) (hml : c.maxLocals = nL) (hown : s.vm.findClass own = some m.cls) (ht : ∀ w ∈ c0 :: LW, w.before args s = true) (hG : GW D cy s) (hP : va_P D vwCl ws H)
    (lk : LkN own ix y b ml ret n) (hM : RdI l y b ml ret f lo D cy As wc r) (hR : f + 1 ≤ R.frames ∧ 8 + (ml + 11) + lo ≤ R.locals) (is : List Nat) (his : is.filterMap (fun i => ws[i]?) = wc)
    (hn : As.length = n) (hsize : ls.size = nL) (hst : st0 = As.reverse ++ rest) (hW : (rest.map fun v => v.category).sum ≤ 8) (hf : cells ≤ R.cells ∧ slots ≤ R.slots) (hdg : decode cc pc = .ok (.invokestatic ix, 3))
    (kk : W p l e R s m args below meth c H locs cells slots Q (F0 m (pc + 3) ls (.int r :: rest))) : W p l e R s m args below meth c H locs cells slots Q (F0 m pc ls st0) := by
  subst hst
  exact rdI_run (va_runSN (As := As) (rest := rest) ⟨hx, hb, hml, hown, ht⟩ hM (cwNL lk hG ht hR) (preS hG hP is his) rfl hn hsize rfl (lv_room hW) hdg ⟨hf.1, hf.2⟩) kk
theorem rdLV {r : Int64} {ci : Nat} {q : vw_C} {fs : List Value} (hx : p.tables.exec = Jvm.exec) (hb : c.code = cc) (hml : c.maxLocals = nL) (hown : s.vm.findClass own = some m.cls) (ht : ∀ w ∈ c0 :: LW, w.before args s = true) (hG : GW D cy s) (hP : va_P D vwCl ws H)
    (lk : LkV own ix y b ml ret n) (hM : RdL l y b ml ret f lo D cy (.ref a :: As) wc r) (hR : f + 1 ≤ R.frames ∧ 8 + (ml + 11) + lo ≤ R.locals) (is : List Nat) (his : is.filterMap (fun i => ws[i]?) = wc) (q0 : Nat) (hc : vwCl[ci]? = some q) (hq : q.1 = y.cls) (he : ws[q0]? = some (a, .inr (ci, fs)))
    (hn : As.length = n) (hsize : ls.size = nL) (hst : st0 = As.reverse ++ .ref a :: rest) (hW : (rest.map fun v => v.category).sum ≤ 8) (hf : cells ≤ R.cells ∧ slots ≤ R.slots) (hdg : decode cc pc = .ok (.invokevirtual ix, 3))
    (kk : W p l e R s m args below meth c H locs cells slots Q (F0 m (pc + 3) ls (.long r :: rest))) : W p l e R s m args below meth c H locs cells slots Q (F0 m pc ls st0) := by
  subst hst
  exact rdL_run (va_runV (As := As) (rest := rest) ⟨hx, hb, hml, hown, ht⟩ hM (cwVL lk ht hR) (hq ▸ preV hG hP is his q0 hc he) rfl hn hsize rfl (lv_room hW) hdg ⟨hf.1, hf.2⟩) kk
theorem rdLS {r : Int64} (hx : p.tables.exec = Jvm.exec) (hb : c.code = cc) (hml : c.maxLocals = nL) (hown : s.vm.findClass own = some m.cls) (ht : ∀ w ∈ c0 :: LW, w.before args s = true) (hG : GW D cy s) (hP : va_P D vwCl ws H)
    (lk : LkS own ix y b ml ret n) (hM : RdL l y b ml ret f lo D cy As wc r) (hR : f + 1 ≤ R.frames ∧ 8 + (ml + 11) + lo ≤ R.locals) (is : List Nat) (his : is.filterMap (fun i => ws[i]?) = wc)
    (hn : As.length = n) (hsize : ls.size = nL) (hst : st0 = As.reverse ++ rest) (hW : (rest.map fun v => v.category).sum ≤ 8) (hf : cells ≤ R.cells ∧ slots ≤ R.slots) (hdg : decode cc pc = .ok (.invokestatic ix, 3))
    (kk : W p l e R s m args below meth c H locs cells slots Q (F0 m (pc + 3) ls (.long r :: rest))) : W p l e R s m args below meth c H locs cells slots Q (F0 m pc ls st0) := by
  subst hst
  exact rdL_run (va_runS (As := As) (rest := rest) ⟨hx, hb, hml, hown, ht⟩ hM (cwSL lk ht hR) (preS hG hP is his) rfl hn hsize rfl (lv_room hW) hdg ⟨hf.1, hf.2⟩) kk
/-- what stands behind a writer's call: its cells as it left them, the others as they were -/
theorem wr_join {S : Type} {w1 : S → va_W} {u : S} {t : State} {H1 : Heap} (hP : va_P D vwCl ws H) (hD : va_D A ws) (hA : ∀ q, va_A wc H.size q → A q) (isC isR : List Nat) (hC : isC.filterMap (fun i => ws[i]?) = wc) (hlC : (isC.all fun i => decide (i < ws.length)) = true) (hlR : (isR.all fun i => decide (i < ws.length)) = true) (hnd : va_nd isR = true) (hdis : (isR.all fun i => decide (i ∉ isC)) = true)
    (hk : ∀ q : Nat, q < H.size → ¬ va_A wc H.size q → H1[q]? = H[q]?) (ht : t.heap = H1) (hB : PoM D wc w1 H.size u t) : va_P D vwCl (isR.filterMap (fun i => ws[i]?) ++ w1 u) H1 ∧ va_D A (isR.filterMap (fun i => ws[i]?) ++ w1 u) := by
  obtain ⟨hP1, hD1⟩ := hB
  rw [ht] at hP1
  exact va_join hP hD isC isR (by rw [pick_map isC hlC, hC]) (pick_map isR hlR) hnd (fun i hi => by have := List.all_eq_true.mp hdis i hi; exact of_decide_eq_true this) hk hA hP1 hD1
theorem wr_free (hD : va_D A ws) (hS : va_S A s.heap H locs) (hA : ∀ q, s.heap.size ≤ q → A q) (isC : List Nat) (hC : isC.filterMap (fun i => ws[i]?) = wc) (hlC : (isC.all fun i => decide (i < ws.length)) = true) : ∀ q, va_A wc H.size q → A q := va_free hD hS hA isC (by rw [pick_map isC hlC, hC])
theorem preMV (hG : GW D cy s) (hP : va_P D vwCl ws H) (hD : va_D A ws) (is : List Nat) (his : is.filterMap (fun i => ws[i]?) = wc) (hl : (is.all fun i => decide (i < ws.length)) = true) (hnd : va_nd is = true) (q0 : Nat) {ci : Nat} {q : vw_C} {fs : List Value} (hc : vwCl[ci]? = some q) (he : ws[q0]? = some (a, .inr (ci, fs))) : PreV s H q.1 a (va_Pc (.ref a :: As) (PrM D cy wc H.size)) As :=
  ⟨blM, va_recv hG.1 hP hc he, fun U hU hW => ⟨rfl, by rw [hU], by rw [hU]; exact hP.sub is his, hG.warm hW, (hD.sub is hnd (by rw [pick_map is hl, his])).weaken (fun _ _ _ _ => trivial)⟩⟩
theorem preMS (hG : GW D cy s) (hP : va_P D vwCl ws H) (hD : va_D A ws) (is : List Nat) (his : is.filterMap (fun i => ws[i]?) = wc) (hl : (is.all fun i => decide (i < ws.length)) = true) (hnd : va_nd is = true) : PreS s H (va_Pc As (PrM D cy wc H.size)) As :=
  ⟨blM, fun U hU hW => ⟨rfl, by rw [hU], by rw [hU]; exact hP.sub is his, hG.warm hW, (hD.sub is hnd (by rw [pick_map is hl, his])).weaken (fun _ _ _ _ => trivial)⟩⟩
theorem wrVV {S : Type} {w1 : S → va_W} {F : S} {ci : Nat} {q : vw_C} {fs : List Value} (hx : p.tables.exec = Jvm.exec) (hb : c.code = cc) (hml : c.maxLocals = nL) (hown : s.vm.findClass own = some m.cls) (ht : ∀ w ∈ c0 :: LW, w.before args s = true) (hG : GW D cy s) (hP : va_P D vwCl ws H) (hD : va_D A ws) (hS : va_S A s.heap H locs) (hA : ∀ q, s.heap.size ≤ q → A q)
    (lk : LkV own ix y b ml ret n) (hM : WrV l y b ml ret f lo D cy (.ref a :: As) wc w1 F H.size) (hR : f + 1 ≤ R.frames ∧ 8 + (ml + 11) + lo ≤ R.locals) (isC isR : List Nat) (hC : isC.filterMap (fun i => ws[i]?) = wc) (hlC : (isC.all fun i => decide (i < ws.length)) = true) (hlR : (isR.all fun i => decide (i < ws.length)) = true) (hndC : va_nd isC = true) (hnd : va_nd isR = true) (hdis : (isR.all fun i => decide (i ∉ isC)) = true) (q0 : Nat) (hc : vwCl[ci]? = some q) (hq : q.1 = y.cls) (he : ws[q0]? = some (a, .inr (ci, fs)))
    (hn : As.length = n) (hsize : ls.size = nL) (hst : st0 = As.reverse ++ .ref a :: rest) (hW : (rest.map fun v => v.category).sum ≤ 8) (hf : cells ≤ R.cells ∧ slots ≤ R.slots) (hdg : decode cc pc = .ok (.invokevirtual ix, 3))
    (kk : ∀ (u : S) (H1 : Heap) (locs1 : List Loc), u = F → va_P D vwCl (isR.filterMap (fun i => ws[i]?) ++ w1 u) H1 → va_D A (isR.filterMap (fun i => ws[i]?) ++ w1 u) → va_S A s.heap H1 locs1 → W p l e R s m args below meth c H1 locs1 cells slots Q (F0 m (pc + 3) ls rest)) : W p l e R s m args below meth c H locs cells slots Q (F0 m pc ls st0) := by
  subst hst
  have hFc := wr_free hD hS hA isC hC hlC
  refine va_callv (va_runV (As := As) (rest := rest) ⟨hx, hb, hml, hown, ht⟩ hM (cwVL lk ht hR) (hq ▸ preMV hG hP hD isC hC hlC hndC q0 hc he) rfl hn hsize rfl (lv_room hW) hdg ⟨hf.1, hf.2⟩) hS (fun q _ h => hFc q h) hFc (fun u t H1 locs1 ht hvm hw hB hz1 hk1 hS => ?_)
  obtain ⟨hP, hD⟩ := wr_join hP hD hFc isC isR hC hlC hlR hnd hdis hk1 ht hB
  exact kk u H1 locs1 hw hP hD hS
theorem wrIV {S : Type} {w1 : S → va_W} {F : Int32 × S} {ci : Nat} {q : vw_C} {fs : List Value} (hx : p.tables.exec = Jvm.exec) (hb : c.code = cc) (hml : c.maxLocals = nL) (hown : s.vm.findClass own = some m.cls) (ht : ∀ w ∈ c0 :: LW, w.before args s = true) (hG : GW D cy s) (hP : va_P D vwCl ws H) (hD : va_D A ws) (hS : va_S A s.heap H locs) (hA : ∀ q, s.heap.size ≤ q → A q)
    (lk : LkV own ix y b ml ret n) (hM : WrI l y b ml ret f lo D cy (.ref a :: As) wc w1 F H.size) (hR : f + 1 ≤ R.frames ∧ 8 + (ml + 11) + lo ≤ R.locals) (isC isR : List Nat) (hC : isC.filterMap (fun i => ws[i]?) = wc) (hlC : (isC.all fun i => decide (i < ws.length)) = true) (hlR : (isR.all fun i => decide (i < ws.length)) = true) (hndC : va_nd isC = true) (hnd : va_nd isR = true) (hdis : (isR.all fun i => decide (i ∉ isC)) = true) (q0 : Nat) (hc : vwCl[ci]? = some q) (hq : q.1 = y.cls) (he : ws[q0]? = some (a, .inr (ci, fs)))
    (hn : As.length = n) (hsize : ls.size = nL) (hst : st0 = As.reverse ++ .ref a :: rest) (hW : (rest.map fun v => v.category).sum ≤ 8) (hf : cells ≤ R.cells ∧ slots ≤ R.slots) (hdg : decode cc pc = .ok (.invokevirtual ix, 3))
    (kk : ∀ (r : Int32) (u : S) (H1 : Heap) (locs1 : List Loc), (r, u) = F → va_P D vwCl (isR.filterMap (fun i => ws[i]?) ++ w1 u) H1 → va_D A (isR.filterMap (fun i => ws[i]?) ++ w1 u) → va_S A s.heap H1 locs1 → W p l e R s m args below meth c H1 locs1 cells slots Q (F0 m (pc + 3) ls (.int r :: rest))) : W p l e R s m args below meth c H locs cells slots Q (F0 m pc ls st0) := by
  subst hst
  have hFc := wr_free hD hS hA isC hC hlC
  refine va_calli (va_runV (As := As) (rest := rest) ⟨hx, hb, hml, hown, ht⟩ hM (cwVL lk ht hR) (hq ▸ preMV hG hP hD isC hC hlC hndC q0 hc he) rfl hn hsize rfl (lv_room hW) hdg ⟨hf.1, hf.2⟩) hS (fun q _ h => hFc q h) hFc (fun r u t H1 locs1 ht hvm hw hB hz1 hk1 hS => ?_)
  obtain ⟨hP, hD⟩ := wr_join hP hD hFc isC isR hC hlC hlR hnd hdis hk1 ht hB
  exact kk r u H1 locs1 hw hP hD hS
theorem wrLV {S : Type} {w1 : S → va_W} {F : Int64 × S} {ci : Nat} {q : vw_C} {fs : List Value} (hx : p.tables.exec = Jvm.exec) (hb : c.code = cc) (hml : c.maxLocals = nL) (hown : s.vm.findClass own = some m.cls) (ht : ∀ w ∈ c0 :: LW, w.before args s = true) (hG : GW D cy s) (hP : va_P D vwCl ws H) (hD : va_D A ws) (hS : va_S A s.heap H locs) (hA : ∀ q, s.heap.size ≤ q → A q)
    (lk : LkV own ix y b ml ret n) (hM : WrL l y b ml ret f lo D cy (.ref a :: As) wc w1 F H.size) (hR : f + 1 ≤ R.frames ∧ 8 + (ml + 11) + lo ≤ R.locals) (isC isR : List Nat) (hC : isC.filterMap (fun i => ws[i]?) = wc) (hlC : (isC.all fun i => decide (i < ws.length)) = true) (hlR : (isR.all fun i => decide (i < ws.length)) = true) (hndC : va_nd isC = true) (hnd : va_nd isR = true) (hdis : (isR.all fun i => decide (i ∉ isC)) = true) (q0 : Nat) (hc : vwCl[ci]? = some q) (hq : q.1 = y.cls) (he : ws[q0]? = some (a, .inr (ci, fs)))
    (hn : As.length = n) (hsize : ls.size = nL) (hst : st0 = As.reverse ++ .ref a :: rest) (hW : (rest.map fun v => v.category).sum ≤ 8) (hf : cells ≤ R.cells ∧ slots ≤ R.slots) (hdg : decode cc pc = .ok (.invokevirtual ix, 3))
    (kk : ∀ (r : Int64) (u : S) (H1 : Heap) (locs1 : List Loc), (r, u) = F → va_P D vwCl (isR.filterMap (fun i => ws[i]?) ++ w1 u) H1 → va_D A (isR.filterMap (fun i => ws[i]?) ++ w1 u) → va_S A s.heap H1 locs1 → W p l e R s m args below meth c H1 locs1 cells slots Q (F0 m (pc + 3) ls (.long r :: rest))) : W p l e R s m args below meth c H locs cells slots Q (F0 m pc ls st0) := by
  subst hst
  have hFc := wr_free hD hS hA isC hC hlC
  refine va_calll (va_runV (As := As) (rest := rest) ⟨hx, hb, hml, hown, ht⟩ hM (cwVL lk ht hR) (hq ▸ preMV hG hP hD isC hC hlC hndC q0 hc he) rfl hn hsize rfl (lv_room hW) hdg ⟨hf.1, hf.2⟩) hS (fun q _ h => hFc q h) hFc (fun r u t H1 locs1 ht hvm hw hB hz1 hk1 hS => ?_)
  obtain ⟨hP, hD⟩ := wr_join hP hD hFc isC isR hC hlC hlR hnd hdis hk1 ht hB
  exact kk r u H1 locs1 hw hP hD hS
theorem wrVS {S : Type} {w1 : S → va_W} {F : S} (hx : p.tables.exec = Jvm.exec) (hb : c.code = cc) (hml : c.maxLocals = nL) (hown : s.vm.findClass own = some m.cls) (ht : ∀ w ∈ c0 :: LW, w.before args s = true) (hG : GW D cy s) (hP : va_P D vwCl ws H) (hD : va_D A ws) (hS : va_S A s.heap H locs) (hA : ∀ q, s.heap.size ≤ q → A q)
    (lk : LkS own ix y b ml ret n) (hM : WrV l y b ml ret f lo D cy As wc w1 F H.size) (hR : f + 1 ≤ R.frames ∧ 8 + (ml + 11) + lo ≤ R.locals) (isC isR : List Nat) (hC : isC.filterMap (fun i => ws[i]?) = wc) (hlC : (isC.all fun i => decide (i < ws.length)) = true) (hlR : (isR.all fun i => decide (i < ws.length)) = true) (hndC : va_nd isC = true) (hnd : va_nd isR = true) (hdis : (isR.all fun i => decide (i ∉ isC)) = true)
    (hn : As.length = n) (hsize : ls.size = nL) (hst : st0 = As.reverse ++ rest) (hW : (rest.map fun v => v.category).sum ≤ 8) (hf : cells ≤ R.cells ∧ slots ≤ R.slots) (hdg : decode cc pc = .ok (.invokestatic ix, 3))
    (kk : ∀ (u : S) (H1 : Heap) (locs1 : List Loc), u = F → va_P D vwCl (isR.filterMap (fun i => ws[i]?) ++ w1 u) H1 → va_D A (isR.filterMap (fun i => ws[i]?) ++ w1 u) → va_S A s.heap H1 locs1 → W p l e R s m args below meth c H1 locs1 cells slots Q (F0 m (pc + 3) ls rest)) : W p l e R s m args below meth c H locs cells slots Q (F0 m pc ls st0) := by
  subst hst
  have hFc := wr_free hD hS hA isC hC hlC
  refine va_callv (va_runS (As := As) (rest := rest) ⟨hx, hb, hml, hown, ht⟩ hM (cwSL lk ht hR) (preMS hG hP hD isC hC hlC hndC) rfl hn hsize rfl (lv_room hW) hdg ⟨hf.1, hf.2⟩) hS (fun q _ h => hFc q h) hFc (fun u t H1 locs1 ht hvm hw hB hz1 hk1 hS => ?_)
  obtain ⟨hP, hD⟩ := wr_join hP hD hFc isC isR hC hlC hlR hnd hdis hk1 ht hB
  exact kk u H1 locs1 hw hP hD hS
end CL
/-- branches of the pure side -/
theorem bp {α : Sort _} {c : Prop} {i : Decidable c} {R a b : α} (h : R = @ite α c i a b) (hc : c) : R = a := h.trans (if_pos hc)
theorem bn {α : Sort _} {c : Prop} {i : Decidable c} {R a b : α} (h : R = @ite α c i a b) (hc : ¬ c) : R = b := h.trans (if_neg hc)
def isB (x : Int32) : Prop := x = 0 ∨ x = 1
theorem isB.nar {x : Int32} (h : isB x) : narrow .boolean (.int x) = .int x := by rcases h with h | h <;> subst h <;> rfl
theorem isB.fit {x : Int32} (h : isB x) : fits .boolean (.int x) = true := by rcases h with h | h <;> subst h <;> rfl
/-- a table switch, as a row of tests -/
def tsw : Int → List Int → Int → Int → Int
  | _, [], d, _ => d
  | lo, o :: r, d, x => if x = lo then o else tsw (lo + 1) r d x
theorem tsw_lt : ∀ (r : List Int) (lo d x : Int), x < lo → tsw lo r d x = d
  | [], _, _, _, _ => rfl
  | o :: r, lo, d, x, h => by
    have h1 : ¬ x = lo := by omega
    have h2 := tsw_lt r (lo + 1) d x (by omega)
    simp only [tsw, if_neg h1, h2]
theorem tsw_gt : ∀ (r : List Int) (lo d x : Int), lo + r.length ≤ x → tsw lo r d x = d
  | [], _, _, _, _ => rfl
  | o :: r, lo, d, x, h => by
    simp only [List.length_cons] at h
    have h1 : ¬ x = lo := by omega
    have h2 := tsw_gt r (lo + 1) d x (by omega)
    simp only [tsw, if_neg h1, h2]
theorem tsw_in : ∀ (r : List Int) (lo d x : Int) (o : Int), lo ≤ x → r[(x - lo).toNat]? = some o → tsw lo r d x = o
  | [], lo, d, x, o, h, e => by simp at e
  | o' :: r, lo, d, x, o, h, e => by
    by_cases h1 : x = lo
    · subst h1
      simp at e
      simp [tsw, e]
    · have e1 : (x - lo).toNat = (x - (lo + 1)).toNat + 1 := by omega
      rw [e1, List.getElem?_cons_succ] at e
      rw [tsw, if_neg h1, tsw_in r (lo + 1) d x o (by omega) e]
theorem tsw_hole {lo d x : Int} {r : List Int} : tsw lo (d :: r) d x = tsw (lo + 1) r d x := by
  by_cases h : x = lo
  · rw [tsw, if_pos h, tsw_lt r (lo + 1) d x (by omega)]
  · rw [tsw, if_neg h]
theorem tsw_no {lo o d : Int} {x k : Int32} {r : List Int} (h : ¬ x = k) (hk : k.toInt = lo) : tsw lo (o :: r) d x.toInt = tsw (lo + 1) r d x.toInt := by
  rw [tsw, if_neg (lv_neT h hk)]
section SW
variable {p : Program} {l : Launch} {e : Env} {R : Room} {s : State} {m : MethodId} {args : Array Value} {below : List Frame} {meth : Method} {c : Code} {H : Heap} {locs : List Loc} {cells slots : Nat} {Q : State → Prop}
variable {cc : ByteArray} {pc : Nat} {ls : Array Slot} {rest : List Value}
theorem lv_tsw (hexec : p.tables.exec = Jvm.exec) (hb : c.code = cc) {dflt lo hi : Int} {offs : Array Int} {len : Nat} {x : Int32} {off : Int} {tgt : Nat} (hdg : decode cc pc = .ok (.tableswitch dflt lo hi offs, len)) (hlen : lo + offs.toList.length = hi + 1) (ho : tsw lo offs.toList dflt x.toInt = off) (ht : (pc : Int) + off = (tgt : Int))
    (k : W p l e R s m args below meth c H locs cells slots Q (F0 m tgt ls rest)) : W p l e R s m args below meth c H locs cells slots Q (F0 m pc ls (.int x :: rest)) := by
  by_cases h1 : x.toInt < lo
  · rw [tsw_lt _ _ _ _ h1] at ho
    subst ho
    exact lv_tableOut hexec hb hdg (Or.inl h1) ht k
  · by_cases h2 : hi < x.toInt
    · rw [tsw_gt _ _ _ _ (by omega)] at ho
      subst ho
      exact lv_tableOut hexec hb hdg (Or.inr h2) ht k
    · have hl : (x.toInt - lo).toNat < offs.toList.length := by omega
      have e1 : offs.toList[(x.toInt - lo).toNat]? = some (offs.toList[(x.toInt - lo).toNat]) := List.getElem?_eq_getElem hl
      rw [tsw_in _ _ _ _ _ (by omega) e1] at ho
      subst ho
      exact lv_tableIn hexec hb hdg h1 h2 (by rw [← Array.getElem?_toList]; exact e1) ht k
end SW

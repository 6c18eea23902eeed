/-! two worlds side by side: a call reaches one of them -/
theorem pick_l {wA wB : va_W} : (List.range wA.length).map (fun i => (wA ++ wB)[i]?) = wA.map some := by
  apply List.ext_getElem?
  intro i
  rw [List.getElem?_map, List.getElem?_map]
  by_cases h : i < wA.length
  · rw [List.getElem?_range h, Option.map_some, List.getElem?_append_left h, List.getElem?_eq_getElem h]
    rfl
  · have e1 : (List.range wA.length)[i]? = none := by rw [List.getElem?_eq_none_iff, List.length_range]; omega
    have e2 : wA[i]? = none := by rw [List.getElem?_eq_none_iff]; omega
    rw [e1, e2]; rfl
theorem pick_r {wA wB : va_W} : ((List.range wB.length).map (fun i => wA.length + i)).map (fun i => (wA ++ wB)[i]?) = wB.map some := by
  apply List.ext_getElem?
  intro i
  rw [List.getElem?_map, List.getElem?_map, List.getElem?_map]
  by_cases h : i < wB.length
  · rw [List.getElem?_range h, Option.map_some, Option.map_some, List.getElem?_append_right (by omega), Nat.add_sub_cancel_left, List.getElem?_eq_getElem h]
    rfl
  · have e1 : (List.range wB.length)[i]? = none := by rw [List.getElem?_eq_none_iff, List.length_range]; omega
    have e2 : wB[i]? = none := by rw [List.getElem?_eq_none_iff]; omega
    rw [e1, e2]; rfl
theorem nd_range : ∀ (n k : Nat), va_nd ((List.range n).map (fun i => k + i)) = true := by
  have key : ∀ (l : List Nat), l.Nodup → va_nd l = true := by
    intro l
    induction l with
    | nil => intro _; rfl
    | cons a l ih =>
      intro h
      rw [List.nodup_cons] at h
      simp only [va_nd, Bool.and_eq_true, decide_eq_true_eq]
      exact ⟨h.1, ih h.2⟩
  intro n k
  apply key
  rw [List.nodup_iff_pairwise_ne, List.pairwise_map]
  exact (List.nodup_iff_pairwise_ne.mp List.nodup_range).imp (fun h q => h (by omega))
theorem nd_range0 (n : Nat) : va_nd (List.range n) = true := by
  have h := nd_range n 0
  rw [show (List.range n).map (fun i => 0 + i) = List.range n from by simp] at h
  exact h
theorem P_swap {D : va_G} {x y : va_W} {H : Heap} (h : va_P D vwCl (x ++ y) H) : va_P D vwCl (y ++ x) H := by
  intro k q hk
  rcases List.mem_append.mp (List.mem_of_getElem? hk) with h1 | h1
  · obtain ⟨i, hi⟩ := List.getElem?_of_mem (List.mem_append_right x h1)
    exact h i q hi
  · obtain ⟨i, hi⟩ := List.getElem?_of_mem (List.mem_append_left y h1)
    exact h i q hi
theorem D_swap {A : Nat → Prop} {x y : va_W} (h : va_D A (x ++ y)) : va_D A (y ++ x) := by
  have hx : va_D A x := ⟨fun i j p q hi hj e => h.1 i j p q (by rw [List.getElem?_append_left (List.getElem?_eq_some_iff.mp hi).1]; exact hi) (by rw [List.getElem?_append_left (List.getElem?_eq_some_iff.mp hj).1]; exact hj) e, fun k q hk => h.2 k q (by rw [List.getElem?_append_left (List.getElem?_eq_some_iff.mp hk).1]; exact hk)⟩
  have rt : ∀ (i : Nat) (p : Nat × va_E), y[i]? = some p → (x ++ y)[x.length + i]? = some p := fun i p hi => by rw [List.getElem?_append_right (by omega), Nat.add_sub_cancel_left]; exact hi
  have hy : va_D A y := ⟨fun i j p q hi hj e => by have := h.1 _ _ p q (rt i p hi) (rt j q hj) e; omega, fun k q hk => h.2 _ q (rt k q hk)⟩
  refine va_D.app hy hx (fun i j p q hi hj e => ?_)
  have hjl := (List.getElem?_eq_some_iff.mp hj).1
  have := h.1 _ _ p q (rt i p hi) (by rw [List.getElem?_append_left hjl]; exact hj) e
  omega
section LB
variable {p : Program} {l : Launch} {e : Env} {R : Room} {s : State} {m : MethodId} {args : Array Value} {below : List Frame} {meth : Method} {c : Code} {H : Heap} {locs : List Loc} {cells slots : Nat} {Q : State → Prop}
variable {cc b : ByteArray} {pc ml f lo n ix nL a : Nat} {ls : Array Slot} {rest As st0 : List Value} {D : va_G} {cy : Nat → ClassId} {A : Nat → Prop} {wA wB : va_W} {own : String} {y : MethodName} {ret : Option FieldType}
theorem cw_lk (lk : LkV own ix y b ml ret n) (up : ∀ w ∈ LW, w.before args s = true) (hR : f + 1 ≤ R.frames ∧ 8 + (ml + 11) + lo ≤ R.locals) : CallW R s args own y.cls ix y b ml ret (.code y b ml ret :: LW) (rmk f lo) 0 0 n := by
  obtain ⟨h1, h2, h3, h4, h5, h6⟩ := lk
  refine ⟨callB_of (Ts := LW) n up (fun w hw => ?_) rfl rfl rfl (up _ h4) (up _ h1) h6 hR, up _ h2, up _ h3⟩
  have hm : w ∈ LW := by
    rcases List.mem_cons.mp hw with e | e
    · rw [e]; exact h5
    · exact e
  exact ⟨hm, LW_good hm⟩
theorem sp_l (hP : va_P D vwCl (wA ++ wB) H) : va_P D vwCl wA H := fun k q hk => hP k q (by rw [List.getElem?_append_left (List.getElem?_eq_some_iff.mp hk).1]; exact hk)
theorem cxPre (hG : GW D cy s) (hP : va_P D vwCl (wA ++ wB) H) (hD : va_D A (wA ++ wB)) {ci : Nat} {q : vw_C} {fs : List Value} (hc : vwCl[ci]? = some q) (he : wA[0]? = some (a, .inr (ci, fs))) : PreV s H q.1 a (va_Pc (.ref a :: As) (PrM D cy wA H.size)) As :=
  ⟨blM, va_recv hG.1 (sp_l hP) hc he, fun U hU hW => ⟨rfl, by rw [hU], by rw [hU]; exact sp_l hP, hG.warm hW, (hD.sub (List.range wA.length) (nd_range0 _) pick_l).weaken (fun _ _ _ _ => trivial)⟩⟩
theorem cxFree (hD : va_D A (wA ++ wB)) (hS : va_S A s.heap H locs) (hA : ∀ q, s.heap.size ≤ q → A q) : ∀ q, va_A wA H.size q → A q := va_free hD hS hA (List.range wA.length) pick_l
theorem cxJoin {w1 : va_W} {t : State} {H1 : Heap} (hP : va_P D vwCl (wA ++ wB) H) (hD : va_D A (wA ++ wB)) (hA : ∀ q, va_A wA H.size q → A q) (hk : ∀ q : Nat, q < H.size → ¬ va_A wA H.size q → H1[q]? = H[q]?) (ht : t.heap = H1) (hB : va_P D vwCl w1 t.heap ∧ va_D (va_A wA H.size) w1) : va_P D vwCl (w1 ++ wB) H1 ∧ va_D A (w1 ++ wB) := by
  obtain ⟨hP1, hD1⟩ := hB
  rw [ht] at hP1
  obtain ⟨g1, g2⟩ := va_join hP hD (List.range wA.length) ((List.range wB.length).map (fun i => wA.length + i)) pick_l pick_r (nd_range _ _) (fun i hi h2 => by
    obtain ⟨j, -, rfl⟩ := List.mem_map.mp hi
    have := List.mem_range.mp h2
    omega) hk hA hP1 hD1
  exact ⟨P_swap g1, D_swap g2⟩
theorem cxI {S : Type} {w1 : S → va_W} {F : Int32 × S} {ci : Nat} {q : vw_C} {fs : List Value} (hx : p.tables.exec = Jvm.exec) (hb : c.code = cc) (hml : c.maxLocals = nL) (hown : s.vm.findClass own = some m.cls) (up : ∀ w ∈ LW, w.before args s = true) (hG : GW D cy s) (hP : va_P D vwCl (wA ++ wB) H) (hD : va_D A (wA ++ wB)) (hS : va_S A s.heap H locs) (hA : ∀ q, s.heap.size ≤ q → A q)
    (lk : LkV own ix y b ml ret n) (hM : WrI l y b ml ret f lo D cy (.ref a :: As) wA w1 F H.size) (hR : f + 1 ≤ R.frames ∧ 8 + (ml + 11) + lo ≤ R.locals) (hc : vwCl[ci]? = some q) (hq : q.1 = y.cls) (he : wA[0]? = some (a, .inr (ci, fs)))
    (hn : As.length = n) (hsize : ls.size = nL) (hst : st0 = As.reverse ++ .ref a :: rest) (hW : (rest.map fun v => v.category).sum ≤ 8) (hf : cells ≤ R.cells ∧ slots ≤ R.slots) (hdg : decode cc pc = .ok (.invokevirtual ix, 3))
    (kk : ∀ (r : Int32) (u : S) (H1 : Heap) (locs1 : List Loc), (r, u) = F → va_P D vwCl (w1 u ++ wB) H1 → va_D A (w1 u ++ wB) → va_S A s.heap H1 locs1 → W p l e R s m args below meth c H1 locs1 cells slots Q (F0 m (pc + 3) ls (.int r :: rest))) : W p l e R s m args below meth c H locs cells slots Q (F0 m pc ls st0) := by
  subst hst
  have hFc := cxFree hD hS hA
  refine va_calli (va_runV (As := As) (rest := rest) ⟨hx, hb, hml, hown, up⟩ hM (cw_lk lk up hR) (hq ▸ cxPre hG hP hD hc he) rfl hn hsize rfl (lv_room hW) hdg ⟨hf.1, hf.2⟩) hS (fun q _ h => hFc q h) hFc (fun r u t H1 locs1 ht hvm hw hB hz1 hk1 hS => ?_)
  obtain ⟨hP, hD⟩ := cxJoin hP hD hFc hk1 ht hB
  exact kk r u H1 locs1 hw hP hD hS
theorem cxL {S : Type} {w1 : S → va_W} {F : Int64 × S} {ci : Nat} {q : vw_C} {fs : List Value} (hx : p.tables.exec = Jvm.exec) (hb : c.code = cc) (hml : c.maxLocals = nL) (hown : s.vm.findClass own = some m.cls) (up : ∀ w ∈ LW, w.before args s = true) (hG : GW D cy s) (hP : va_P D vwCl (wA ++ wB) H) (hD : va_D A (wA ++ wB)) (hS : va_S A s.heap H locs) (hA : ∀ q, s.heap.size ≤ q → A q)
    (lk : LkV own ix y b ml ret n) (hM : WrL l y b ml ret f lo D cy (.ref a :: As) wA w1 F H.size) (hR : f + 1 ≤ R.frames ∧ 8 + (ml + 11) + lo ≤ R.locals) (hc : vwCl[ci]? = some q) (hq : q.1 = y.cls) (he : wA[0]? = some (a, .inr (ci, fs)))
    (hn : As.length = n) (hsize : ls.size = nL) (hst : st0 = As.reverse ++ .ref a :: rest) (hW : (rest.map fun v => v.category).sum ≤ 8) (hf : cells ≤ R.cells ∧ slots ≤ R.slots) (hdg : decode cc pc = .ok (.invokevirtual ix, 3))
    (kk : ∀ (r : Int64) (u : S) (H1 : Heap) (locs1 : List Loc), (r, u) = F → va_P D vwCl (w1 u ++ wB) H1 → va_D A (w1 u ++ wB) → va_S A s.heap H1 locs1 → W p l e R s m args below meth c H1 locs1 cells slots Q (F0 m (pc + 3) ls (.long r :: rest))) : W p l e R s m args below meth c H locs cells slots Q (F0 m pc ls st0) := by
  subst hst
  have hFc := cxFree hD hS hA
  refine va_calll (va_runV (As := As) (rest := rest) ⟨hx, hb, hml, hown, up⟩ hM (cw_lk lk up hR) (hq ▸ cxPre hG hP hD hc he) rfl hn hsize rfl (lv_room hW) hdg ⟨hf.1, hf.2⟩) hS (fun q _ h => hFc q h) hFc (fun r u t H1 locs1 ht hvm hw hB hz1 hk1 hS => ?_)
  obtain ⟨hP, hD⟩ := cxJoin hP hD hFc hk1 ht hB
  exact kk r u H1 locs1 hw hP hD hS
end LB

/-! the law's two constructors -/
section LN
variable {p : Program} {l : Launch} {e : Env} {R : Room} {s : State} {m : MethodId} {args : Array Value} {below : List Frame} {meth : Method} {c : Code} {H : Heap} {locs : List Loc} {cells slots : Nat} {Q : State → Prop}
variable {cc b : ByteArray} {pc ml f mc ms lo n ix nL a : Nat} {ls : Array Slot} {rest As st0 : List Value} {D : va_G} {cy : Nat → ClassId} {A : Nat → Prop} {wA wB : va_W} {own : String} {y : MethodName}
abbrev PrA (D : va_G) (cy : Nat → ClassId) (ws : va_W) (sz : Nat) (U : State) : Prop := PrM D cy ws sz U ∧ va_AO RX3 U ∧ va_AO RX5 U
theorem cxC {S : Type} {w1 : S → va_W} (hx : p.tables.exec = Jvm.exec) (hb : c.code = cc) (hml : c.maxLocals = nL) (hown : s.vm.findClass own = some m.cls) (up : ∀ w ∈ LW, w.before args s = true) (hG : GW D cy s) (hAO : va_AO RX3 s ∧ va_AO RX5 s) (hP : va_P D vwCl (wA ++ wB) H) (hD : va_D A (wA ++ wB)) (hS : va_S A s.heap H locs) (hA : ∀ q, s.heap.size ≤ q → A q)
    (lk : LkI own ix y b ml n) (hM : Met l y (.code y b ml none :: LW) (rmc f mc ms lo) (va_Pc (.ref a :: As) (PrA D cy wA H.size)) (va_Qv (fun (_ : S) => True) (PoM D wA w1 H.size) (va_A wA H.size)) mc ms (va_A wA H.size)) (hR : f + 1 ≤ R.frames ∧ 8 + (ml + 11) + lo ≤ R.locals)
    (hn : As.length = n) (hsize : ls.size = nL) (hst : st0 = As.reverse ++ .ref a :: rest) (hW : (rest.map fun v => v.category).sum ≤ 8) (hf : cells + mc ≤ R.cells ∧ slots + ms ≤ R.slots) (hdg : decode cc pc = .ok (.invokespecial ix, 3))
    (kk : ∀ (u : S) (H1 : Heap) (locs1 : List Loc), va_P D vwCl (w1 u ++ wB) H1 → va_D A (w1 u ++ wB) → va_S A s.heap H1 locs1 → W p l e R s m args below meth c H1 locs1 (cells + mc) (slots + ms) Q (F0 m (pc + 3) ls rest)) : W p l e R s m args below meth c H locs cells slots Q (F0 m pc ls st0) := by
  subst hst
  have hFc := cxFree hD hS hA
  obtain ⟨k1, k2, k3, k4, k5, k6⟩ := lk
  have hpre : PreS s H (va_Pc (.ref a :: As) (PrA D cy wA H.size)) (.ref a :: As) :=
    ⟨fun aa U g mk q => ⟨q.1, ⟨q.2.1.1, q.2.1.2.1, q.2.1.2.2.1.call, q.2.1.2.2.2⟩, va_AO.moved (u := U) (U := U.calling g mk aa) (Vm.Alike.refl U.vm) q.2.2.1, va_AO.moved (u := U) (U := U.calling g mk aa) (Vm.Alike.refl U.vm) q.2.2.2⟩,
     fun U hU hW => ⟨rfl, ⟨by rw [hU], by rw [hU]; exact sp_l hP, hG.warm hW, (hD.sub (List.range wA.length) (nd_range0 _) pick_l).weaken (fun _ _ _ _ => trivial)⟩, hAO.1.moved hW.alike, hAO.2.moved hW.alike⟩⟩
  have hgood : GoodIn LW (Cond.code y b ml none :: LW) := fun w hw => by
    have hm : w ∈ LW := by
      rcases List.mem_cons.mp hw with e | e
      · rw [e]; exact k4
      · exact e
    exact ⟨hm, LW_good hm⟩
  refine va_callv (va_runI (As := As) (rest := rest) ⟨hx, hb, hml, hown, up⟩ hM ⟨callB_of (Ts := LW) n up hgood rfl rfl rfl (up _ k3) (up _ k1) k5 hR, k6, up _ k2⟩ hpre rfl hn hsize rfl (lv_room hW) hdg hf) hS (fun q _ h => hFc q h) hFc (fun u t H1 locs1 ht hvm hw hB hz1 hk1 hS => ?_)
  obtain ⟨hP, hD⟩ := cxJoin hP hD hFc hk1 ht hB
  exact kk u H1 locs1 hP hD hS
end LN
theorem up3 (x y z : Nat) : va_up (va_up (va_up (fun _ => none) ((0 : Int32)).toNatClampNeg (some x)) ((1 : Int32)).toNatClampNeg (some y)) ((2 : Int32)).toNatClampNeg (some z) = rf3 x y z := by
  have e0 : ((0 : Int32)).toNatClampNeg = 0 := by decide
  have e1 : ((1 : Int32)).toNatClampNeg = 1 := by decide
  have e2 : ((2 : Int32)).toNatClampNeg = 2 := by decide
  rw [e0, e1, e2]
  funext j
  unfold va_up rf3
  by_cases h0 : j = 0
  · subst h0; rfl
  · by_cases h1 : j = 1
    · subst h1; rfl
    · by_cases h2 : j = 2
      · subst h2; rfl
      · simp [h0, h1, h2]
theorem up2 (x y : Nat) : va_up (va_up (fun _ => none) ((0 : Int32)).toNatClampNeg (some x)) ((1 : Int32)).toNatClampNeg (some y) = rf2 x y := by
  have e0 : ((0 : Int32)).toNatClampNeg = 0 := by decide
  have e1 : ((1 : Int32)).toNatClampNeg = 1 := by decide
  rw [e0, e1]
  funext j
  unfold va_up rf2
  by_cases h0 : j = 0
  · subst h0; rfl
  · by_cases h1 : j = 1
    · subst h1; rfl
    · simp [h0, h1]

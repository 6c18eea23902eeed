abbrev LA (s : State) : Nat → Prop := fun q => s.heap.size ≤ q
/-- one call: class and reference may go, answer alike, and stay alike -/
def OpI (Rel : Bd → Bd → Prop) (okx oky : (Nat → Nat) → Bd → Prop) (fx fy : (Nat → Nat) → Bd → Int32 × Bd) : Prop := ∀ (X Y : Bd) (a b : Nat → Nat), Rel X Y → okx a X ∧ oky b Y ∧ (fx a X).1 = (fy b Y).1 ∧ Rel (fx a X).2 (fy b Y).2
def OpL (Rel : Bd → Bd → Prop) (okx oky : (Nat → Nat) → Bd → Prop) (fx fy : (Nat → Nat) → Bd → Int64 × Bd) : Prop := ∀ (X Y : Bd) (a b : Nat → Nat), Rel X Y → okx a X ∧ oky b Y ∧ (fx a X).1 = (fy b Y).1 ∧ Rel (fx a X).2 (fy b Y).2
def OpK (Rel : Bd → Bd → Prop) (okx oky : (Nat → Nat) → Bd → Prop) (fx : (Nat → Nat) → Bd → Int32 × (Nat → Nat) × Bd) (fy : (Nat → Nat) → Bd → Int32 × Bd) : Prop := ∀ (X Y : Bd) (a b : Nat → Nat), Rel X Y → okx a X ∧ oky b Y ∧ (fx a X).1 = (fy b Y).1 ∧ Rel (fx a X).2.2 (fy b Y).2
def Op_write (Rel : Bd → Bd → Prop) : Prop := ∀ (x1 : Int32) (x2 : Int64), OpI Rel (fun a X => oknX_write a X x1 x2) (fun a X => oknY_write a X x1 x2) (fun a X => nX_write a X x1 x2) (fun a X => nY_write a X x1 x2)
def Op_wipe (Rel : Bd → Bd → Prop) : Prop := OpI Rel (fun _ _ => True) (fun _ _ => True) (fun a X => nX_wipe a X) (fun a X => nY_wipe a X)
def Op_fault (Rel : Bd → Bd → Prop) : Prop := ∀ (x1 : Int32), OpI Rel (fun a X => oknX_fault a X x1) (fun a X => oknY_fault a X x1) (fun a X => nX_fault a X x1) (fun a X => nY_fault a X x1)
def Op_make (Rel : Bd → Bd → Prop) : Prop := OpK Rel (fun a X => oknX_make a X) (fun a X => oknY_make a X) (fun a X => nX_make a X) (fun a X => nY_make a X)
def Op_rule (Rel : Bd → Bd → Prop) : Prop := ∀ (x1 : Int32), OpI Rel (fun a X => oknX_rule a X x1) (fun a X => oknY_rule a X x1) (fun a X => nX_rule a X x1) (fun a X => nY_rule a X x1)
def Op_ruled (Rel : Bd → Bd → Prop) : Prop := ∀ (x1 : Int32) (x2 : Int32), OpI Rel (fun a X => oknX_ruled a X x1 x2) (fun a X => oknY_ruled a X x1 x2) (fun a X => nX_ruled a X x1 x2) (fun a X => nY_ruled a X x1 x2)
def Op_session (Rel : Bd → Bd → Prop) : Prop := ∀ (x1 : Int32) (x2 : Int32), OpI Rel (fun a X => oknX_session a X x1 x2) (fun a X => oknY_session a X x1 x2) (fun a X => nX_session a X x1 x2) (fun a X => nY_session a X x1 x2)
def Op_place (Rel : Bd → Bd → Prop) : Prop := ∀ (x1 : Int32) (x2 : Int32), OpI Rel (fun a X => oknX_place a X x1 x2) (fun a X => oknY_place a X x1 x2) (fun a X => nX_place a X x1 x2) (fun a X => nY_place a X x1 x2)
def Op_home (Rel : Bd → Bd → Prop) : Prop := ∀ (x1 : Int32), OpI Rel (fun a X => oknX_home a X x1) (fun a X => oknY_home a X x1) (fun a X => nX_home a X x1) (fun a X => nY_home a X x1)
def Op_own (Rel : Bd → Bd → Prop) : Prop := ∀ (x1 : Int32), OpI Rel (fun _ _ => True) (fun _ _ => True) (fun a X => nX_own a X x1) (fun a X => nY_own a X x1)
def Op_hour (Rel : Bd → Bd → Prop) : Prop := ∀ (x1 : Int32), OpI Rel (fun a X => oknX_hour a X x1) (fun a X => oknY_hour a X x1) (fun a X => nX_hour a X x1) (fun a X => nY_hour a X x1)
def Op_where (Rel : Bd → Bd → Prop) : Prop := OpI Rel (fun _ _ => True) (fun a X => oknY_where a X) (fun a X => nX_where a X) (fun a X => nY_where a X)
def Op_bring (Rel : Bd → Bd → Prop) : Prop := ∀ (x1 : Int32), OpI Rel (fun _ _ => True) (fun a X => oknY_bring a X x1) (fun a X => nX_bring a X x1) (fun a X => nY_bring a X x1)
def Op_live (Rel : Bd → Bd → Prop) : Prop := ∀ (x1 : Int32), OpI Rel (fun _ _ => True) (fun a X => oknY_live a X x1) (fun a X => nX_live a X x1) (fun a X => nY_live a X x1)
def Op_keep (Rel : Bd → Bd → Prop) : Prop := ∀ (x1 : Int32), OpI Rel (fun a X => oknX_keep a X x1) (fun a X => oknY_keep a X x1) (fun a X => nX_keep a X x1) (fun a X => nY_keep a X x1)
def Op_again (Rel : Bd → Bd → Prop) : Prop := ∀ (x1 : Int32), OpI Rel (fun a X => oknX_again a X x1) (fun a X => oknY_again a X x1) (fun a X => nX_again a X x1) (fun a X => nY_again a X x1)
def Op_week (Rel : Bd → Bd → Prop) : Prop := ∀ (x1 : Int32) (x2 : Int32) (x3 : Int32), OpI Rel (fun a X => oknX_week a X x1 x2 x3) (fun a X => oknY_week a X x1 x2 x3) (fun a X => nX_week a X x1 x2 x3) (fun a X => nY_week a X x1 x2 x3)
def Op_ahead (Rel : Bd → Bd → Prop) : Prop := ∀ (x1 : Int32) (x2 : Int32) (x3 : Int32), OpI Rel (fun a X => oknX_ahead a X x1 x2 x3) (fun a X => oknY_ahead a X x1 x2 x3) (fun a X => nX_ahead a X x1 x2 x3) (fun a X => nY_ahead a X x1 x2 x3)
def Op_outside (Rel : Bd → Bd → Prop) : Prop := ∀ (x1 : Int32) (x2 : Int32) (x3 : Int32), OpI Rel (fun a X => oknX_outside a X x1 x2 x3) (fun a X => oknY_outside a X x1 x2 x3) (fun a X => nX_outside a X x1 x2 x3) (fun a X => nY_outside a X x1 x2 x3)
def Op_ever (Rel : Bd → Bd → Prop) : Prop := ∀ (x1 : Int32) (x2 : Int32) (x3 : Int32), OpI Rel (fun a X => oknX_ever a X x1 x2 x3) (fun a X => oknY_ever a X x1 x2 x3) (fun a X => nX_ever a X x1 x2 x3) (fun a X => nY_ever a X x1 x2 x3)
def Op_never (Rel : Bd → Bd → Prop) : Prop := ∀ (x1 : Int32) (x2 : Int32), OpI Rel (fun a X => oknX_never a X x1 x2) (fun a X => oknY_never a X x1 x2) (fun a X => nX_never a X x1 x2) (fun a X => nY_never a X x1 x2)
def Op_tell (Rel : Bd → Bd → Prop) : Prop := ∀ (x1 : Int32) (x2 : Int32), OpI Rel (fun a X => oknX_tell a X x1 x2) (fun a X => oknY_tell a X x1 x2) (fun a X => nX_tell a X x1 x2) (fun a X => nY_tell a X x1 x2)
def Op_judge (Rel : Bd → Bd → Prop) : Prop := ∀ (x1 : Int32) (x2 : Int32), OpI Rel (fun a X => oknX_judge a X x1 x2) (fun a X => oknY_judge a X x1 x2) (fun a X => nX_judge a X x1 x2) (fun a X => nY_judge a X x1 x2)
def Op_find (Rel : Bd → Bd → Prop) : Prop := ∀ (x1 : Int32) (x2 : Int32), OpI Rel (fun a X => oknX_find a X x1 x2) (fun a X => oknY_find a X x1 x2) (fun a X => nX_find a X x1 x2) (fun a X => nY_find a X x1 x2)
def Op_from (Rel : Bd → Bd → Prop) : Prop := ∀ (x1 : Int32) (x2 : Int32), OpI Rel (fun a X => oknX_from a X x1 x2) (fun a X => oknY_from a X x1 x2) (fun a X => nX_from a X x1 x2) (fun a X => nY_from a X x1 x2)
def Op_way (Rel : Bd → Bd → Prop) : Prop := ∀ (x1 : Int32) (x2 : Int32) (x3 : Int32), OpI Rel (fun a X => oknX_way a X x1 x2 x3) (fun a X => oknY_way a X x1 x2 x3) (fun a X => nX_way a X x1 x2 x3) (fun a X => nY_way a X x1 x2 x3)
def Op_bar (Rel : Bd → Bd → Prop) : Prop := OpI Rel (fun a X => oknX_bar a X) (fun a X => oknY_bar a X) (fun a X => nX_bar a X) (fun a X => nY_bar a X)
def Op_brief (Rel : Bd → Bd → Prop) : Prop := ∀ (x1 : Int32) (x2 : Int32) (x3 : Int32), OpI Rel (fun a X => oknX_brief a X x1 x2 x3) (fun a X => oknY_brief a X x1 x2 x3) (fun a X => nX_brief a X x1 x2 x3) (fun a X => nY_brief a X x1 x2 x3)
def Op_briefPrice (Rel : Bd → Bd → Prop) : Prop := ∀ (x1 : Int32) (x2 : Int32) (x3 : Int32) (x4 : Int32), OpL Rel (fun a X => oknX_briefPrice a X x1 x2 x3 x4) (fun a X => oknY_briefPrice a X x1 x2 x3 x4) (fun a X => nX_briefPrice a X x1 x2 x3 x4) (fun a X => nY_briefPrice a X x1 x2 x3 x4)
def Op_put (Rel : Bd → Bd → Prop) : Prop := ∀ (x1 : Int32) (x2 : Int32), OpI Rel (fun a X => oknX_put a X x1 x2) (fun a X => oknY_put a X x1 x2) (fun a X => nX_put a X x1 x2) (fun a X => nY_put a X x1 x2)
def Op_keys (Rel : Bd → Bd → Prop) : Prop := ∀ (x1 : Int32) (x2 : Int32), OpI Rel (fun a X => oknX_keys a X x1 x2) (fun a X => oknY_keys a X x1 x2) (fun a X => nX_keys a X x1 x2) (fun a X => nY_keys a X x1 x2)
def Op_move (Rel : Bd → Bd → Prop) : Prop := ∀ (x1 : Int32) (x2 : Int32), OpI Rel (fun a X => oknX_move a X x1 x2) (fun a X => oknY_move a X x1 x2) (fun a X => nX_move a X x1 x2) (fun a X => nY_move a X x1 x2)
def Op_fits (Rel : Bd → Bd → Prop) : Prop := ∀ (x1 : Int32) (x2 : Int32), OpI Rel (fun a X => oknX_fits a X x1 x2) (fun a X => oknY_fits a X x1 x2) (fun a X => nX_fits a X x1 x2) (fun a X => nY_fits a X x1 x2)
def Op_shift (Rel : Bd → Bd → Prop) : Prop := ∀ (x1 : Int32) (x2 : Int32), OpI Rel (fun a X => oknX_shift a X x1 x2) (fun a X => oknY_shift a X x1 x2) (fun a X => nX_shift a X x1 x2) (fun a X => nY_shift a X x1 x2)
def Op_mean (Rel : Bd → Bd → Prop) : Prop := ∀ (x1 : Int32) (x2 : Int32) (x3 : Int32), OpL Rel (fun a X => oknX_mean a X x1 x2 x3) (fun a X => oknY_mean a X x1 x2 x3) (fun a X => nX_mean a X x1 x2 x3) (fun a X => nY_mean a X x1 x2 x3)
def Op_dry (Rel : Bd → Bd → Prop) : Prop := ∀ (x1 : Int32) (x2 : Int32) (x3 : Int32), OpL Rel (fun a X => oknX_dry a X x1 x2 x3) (fun a X => oknY_dry a X x1 x2 x3) (fun a X => nX_dry a X x1 x2 x3) (fun a X => nY_dry a X x1 x2 x3)
def Op_chance (Rel : Bd → Bd → Prop) : Prop := ∀ (x1 : Int32) (x2 : Int32) (x3 : Int32) (x4 : Int32) (x5 : Int32), OpL Rel (fun a X => oknX_chance a X x1 x2 x3 x4 x5) (fun a X => oknY_chance a X x1 x2 x3 x4 x5) (fun a X => nX_chance a X x1 x2 x3 x4 x5) (fun a X => nY_chance a X x1 x2 x3 x4 x5)
def Op_look (Rel : Bd → Bd → Prop) : Prop := ∀ (x1 : Int32) (x2 : Int32) (x3 : Int32) (x4 : Int32), OpI Rel (fun a X => oknX_look a X x1 x2 x3 x4) (fun a X => oknY_look a X x1 x2 x3 x4) (fun a X => nX_look a X x1 x2 x3 x4) (fun a X => nY_look a X x1 x2 x3 x4)
def Op_count (Rel : Bd → Bd → Prop) : Prop := ∀ (x1 : Int32), OpI Rel (fun _ _ => True) (fun a X => oknY_count a X x1) (fun a X => nX_count a X x1) (fun a X => nY_count a X x1)
def Ops (Rel : Bd → Bd → Prop) : Prop := Op_write Rel ∧ Op_wipe Rel ∧ Op_fault Rel ∧ Op_make Rel ∧ Op_rule Rel ∧ Op_ruled Rel ∧ Op_session Rel ∧ Op_place Rel ∧ Op_home Rel ∧ Op_own Rel ∧ Op_hour Rel ∧ Op_where Rel ∧ Op_bring Rel ∧ Op_live Rel ∧ Op_keep Rel ∧ Op_again Rel ∧ Op_week Rel ∧ Op_ahead Rel ∧ Op_outside Rel ∧ Op_ever Rel ∧ Op_never Rel ∧ Op_tell Rel ∧ Op_judge Rel ∧ Op_find Rel ∧ Op_from Rel ∧ Op_way Rel ∧ Op_bar Rel ∧ Op_brief Rel ∧ Op_briefPrice Rel ∧ Op_put Rel ∧ Op_keys Rel ∧ Op_move Rel ∧ Op_fits Rel ∧ Op_shift Rel ∧ Op_mean Rel ∧ Op_dry Rel ∧ Op_chance Rel ∧ Op_look Rel ∧ Op_count Rel
theorem PrZ_bl {D : va_G} {cy : Nat → ClassId} {ws : va_W} {sz : Nat} {av : List Value} : FrameBlind (va_Pc av (PrZ D cy ws sz)) := fun a U g mk q => ⟨q.1, ⟨q.2.1.1, q.2.1.2.1, q.2.1.2.2.1.call, q.2.1.2.2.2⟩, by
  obtain ⟨tS, h1, h2⟩ := q.2.2
  exact ⟨tS, va_Z.moved (u := U) (U := U.calling g mk a) (Vm.Alike.refl U.vm) h1, va_T.moved (u := U) (U := U.calling g mk a) (Vm.Alike.refl U.vm) h2⟩⟩
theorem mk_a0 (a : Nat → Nat) (X : Bd) : (nX_make a X).2.1 0 = a 0 := by
  unfold nX_make
  simp only []
  split <;> rfl
theorem lg_self (x : Int64) : lg_cmp x x = 0 := by simp [lg_cmp]
def LCont (Rel : Bd → Bd → Prop) (p : Program) (l : Launch) (e : Env) (s : State) (m : MethodId) (below : List Frame) (meth : Method) (c : Code) (D : va_G) (cy : Nat → ClassId) (sb i : Nat) (QQ : State → Prop) (pc : Nat) : Prop := ∀ (a : Nat → Nat) (X : Bd) (b : Nat → Nat) (Y : Bd) (H : Heap) (locs : List Loc) (ls : Array Slot), lv_has ls 4 [(0, .ref sb), (1, .ref (a 0)), (2, .ref (b 0)), (3, .int (nI i))] → va_P D vwCl (WX cy a X ++ WM cy b Y) H → va_D (LA s) (WX cy a X ++ WM cy b Y) → va_S (LA s) s.heap H locs → Rel X Y → W p l e room_1 s m #[Value.ref sb] below meth c H locs 110 3042 QQ (F0 m pc ls [])
section LZ
variable {p : Program} {l : Launch} {e : Env} {R : Room} {s : State} {m : MethodId} {args : Array Value} {below : List Frame} {meth : Method} {c : Code} {H : Heap} {locs : List Loc} {cells slots : Nat} {Q : State → Prop}
variable {cc b : ByteArray} {pc ml f lo n ix nL a tS : Nat} {ls : Array Slot} {rest As st0 : List Value} {D : va_G} {cy : Nat → ClassId} {A : Nat → Prop} {wA wB : va_W} {own : String} {y : MethodName} {ret : Option FieldType}
theorem cxZ {S : Type} {w1 : S → va_W} {F : Int32 × S} {ci : Nat} {q : vw_C} {fs : List Value} (hx : p.tables.exec = Jvm.exec) (hb : c.code = cc) (hml : c.maxLocals = nL) (hown : s.vm.findClass own = some m.cls) (up : ∀ w ∈ LW, w.before args s = true) (hG : GW D cy s) (hP : va_P D vwCl (wA ++ wB) H) (hD : va_D A (wA ++ wB)) (hS : va_S A s.heap H locs) (hA : ∀ q, s.heap.size ≤ q → A q) (hZ : va_Z "BoathouseKey" "MOVES" "[I" (.ref tS) A s s.heap) (hT : va_T .int tS 4 mvV A s s.heap)
    (lk : LkV own ix y b ml ret n) (hM : Met l y (.code y b ml ret :: LW) (rmk f lo) (va_Pc (.ref a :: As) (PrZ D cy wA H.size)) (va_Qi (fun r u => (r, u) = F) (PoM D wA w1 H.size) (va_A wA H.size)) 0 0 (va_A wA H.size)) (hR : f + 1 ≤ R.frames ∧ 8 + (ml + 11) + lo ≤ R.locals) (hc : vwCl[ci]? = some q) (hq : q.1 = y.cls) (he : wA[0]? = some (a, .inr (ci, fs)))
    (hn : As.length = n) (hsize : ls.size = nL) (hst : st0 = As.reverse ++ .ref a :: rest) (hW : (rest.map fun v => v.category).sum ≤ 8) (hf : cells ≤ R.cells ∧ slots ≤ R.slots) (hdg : decode cc pc = .ok (.invokevirtual ix, 3))
    (kk : ∀ (r : Int32) (u : S) (H1 : Heap) (locs1 : List Loc), (r, u) = F → va_P D vwCl (w1 u ++ wB) H1 → va_D A (w1 u ++ wB) → va_S A s.heap H1 locs1 → W p l e R s m args below meth c H1 locs1 cells slots Q (F0 m (pc + 3) ls (.int r :: rest))) : W p l e R s m args below meth c H locs cells slots Q (F0 m pc ls st0) := by
  subst hst
  have hFc := cxFree hD hS hA
  have hpre : PreV s H q.1 a (va_Pc (.ref a :: As) (PrZ D cy wA H.size)) As := by
    obtain ⟨-, h2, h3⟩ := cxPre (As := As) hG hP hD hc he
    refine ⟨PrZ_bl, h2, fun U hU hW => ⟨rfl, (h3 U hU hW).2, tS, ?_, ?_⟩⟩
    · rw [hU]; exact ((hZ.kept hS.2.1).moved hW.alike).narrow hFc
    · rw [hU]; exact ((hT.kept hS.2.1).moved hW.alike).narrow hFc
  refine va_calli (va_runV (As := As) (rest := rest) ⟨hx, hb, hml, hown, up⟩ hM (cw_lk lk up hR) (hq ▸ hpre) rfl hn hsize rfl (lv_room hW) hdg ⟨hf.1, hf.2⟩) hS (fun q _ h => hFc q h) hFc (fun r u t H1 locs1 ht hvm hw hB hz1 hk1 hS => ?_)
  obtain ⟨hP, hD⟩ := cxJoin hP hD hFc hk1 ht hB
  exact kk r u H1 locs1 hw hP hD hS
end LZ
set_option maxHeartbeats 4000000 in
set_option maxRecDepth 100000 in
theorem lc_write {Rel : Bd → Bd → Prop} {p : Program} {l : Launch} {e : Env} {s : State} {m : MethodId} {below : List Frame} {meth : Method} {c : Code} {D : va_G} {cy : Nat → ClassId} {sb L i : Nat} {xs : Nat → Int32} {QQ : State → Prop} (hx : p.tables.exec = Jvm.exec) (hb : c.code = code) (hml : c.maxLocals = 4) (hown : s.vm.findClass RL = some m.cls) (up : ∀ w ∈ LW, w.before #[Value.ref sb] s = true) (hG : GW D cy s) (hX : va_X sb L xs s s.heap) (hbl : sb < s.heap.size) (hi : i + 6 ≤ L) (hL : L ≤ 384) (hop : Op_write Rel) (hc : LCont Rel p l e s m below meth c D cy sb i QQ 1575) : LCont Rel p l e s m below meth c D cy sb i QQ 204 := by
  intro a X b Y H locs ls hl hP hD hS hRel
  have hA : ∀ q : Nat, s.heap.size ≤ q → LA s q := fun _ h => h
  have hbA : ¬ LA s sb := Nat.not_le.mpr hbl
  have v1 : vp_in (nI i + (1 : Int32)) L := by rw [show nI i + (1 : Int32) = nI (i + 1) from nI_add i 1]; exact vp_in_nI (by omega) (by omega)
  have v2 : vp_in (nI i + (2 : Int32)) L := by rw [show nI i + (2 : Int32) = nI (i + 2) from nI_add i 2]; exact vp_in_nI (by omega) (by omega)
  have v3 : vp_in (nI i + (3 : Int32)) L := by rw [show nI i + (3 : Int32) = nI (i + 3) from nI_add i 3]; exact vp_in_nI (by omega) (by omega)
  have v4 : vp_in (nI i + (4 : Int32)) L := by rw [show nI i + (4 : Int32) = nI (i + 4) from nI_add i 4]; exact vp_in_nI (by omega) (by omega)
  have v5 : vp_in (nI i + (5 : Int32)) L := by rw [show nI i + (5 : Int32) = nI (i + 5) from nI_add i 5]; exact vp_in_nI (by omega) (by omega)
  refine lv_aload_n hx hb dL_law_204 rfl (lv_at hl 1 rfl) ?_
  refine lv_aload_n hx hb dL_law_205 rfl (lv_at hl 0 rfl) ?_
  refine lv_iload_n hx hb dL_law_206 rfl (lv_at hl 3 rfl) ?_
  refine lv_iconst (v := 1) hx hb dL_law_207 (by decide) ?_
  refine lv_iadd hx hb dL_law_208 ?_
  refine va_sld hx hb hX hbl hbA hS v1 dL_law_209 ?_
  refine lv_aload_n hx hb dL_law_210 rfl (lv_at hl 0 rfl) ?_
  refine lv_iload_n hx hb dL_law_211 rfl (lv_at hl 3 rfl) ?_
  refine lv_iconst (v := 2) hx hb dL_law_212 (by decide) ?_
  refine lv_iadd hx hb dL_law_213 ?_
  refine va_sld hx hb hX hbl hbA hS v2 dL_law_214 ?_
  refine lv_i2l hx hb dL_law_215 rfl ?_
  refine lv_bipush (v := 32) hx hb dL_law_216 (by decide) ?_
  refine lv_lshl hx hb dL_law_218 rfl ?_
  refine lv_aload_n hx hb dL_law_219 rfl (lv_at hl 0 rfl) ?_
  refine lv_iload_n hx hb dL_law_220 rfl (lv_at hl 3 rfl) ?_
  refine lv_iconst (v := 3) hx hb dL_law_221 (by decide) ?_
  refine lv_iadd hx hb dL_law_222 ?_
  refine va_sld hx hb hX hbl hbA hS v3 dL_law_223 ?_
  refine lv_i2l hx hb dL_law_224 rfl ?_
  refine lv_ldc2 hx hb hown (up _ kc_L_13) dL_law_225 ?_
  refine lv_land hx hb dL_law_228 ?_
  refine lv_lor hx hb dL_law_229 ?_
  obtain ⟨ok1, ok2, e1, hRel⟩ := hop (xs ((nI i) + (1 : Int32)).toNatClampNeg) (((xs ((nI i) + (2 : Int32)).toNatClampNeg).toInt64 <<< ((32 : Int32).toInt64 &&& (63 : Int64))) ||| ((xs ((nI i) + (3 : Int32)).toNatClampNeg).toInt64 &&& (4294967295 : Int64))) X Y a b hRel
  replace e1 : (nX_write a X (xs ((nI i) + (1 : Int32)).toNatClampNeg) (((xs ((nI i) + (2 : Int32)).toNatClampNeg).toInt64 <<< ((32 : Int32).toInt64 &&& (63 : Int64))) ||| ((xs ((nI i) + (3 : Int32)).toNatClampNeg).toInt64 &&& (4294967295 : Int64)))).1 = (nY_write b Y (xs ((nI i) + (1 : Int32)).toNatClampNeg) (((xs ((nI i) + (2 : Int32)).toNatClampNeg).toInt64 <<< ((32 : Int32).toInt64 &&& (63 : Int64))) ||| ((xs ((nI i) + (3 : Int32)).toNatClampNeg).toInt64 &&& (4294967295 : Int64)))).1 := e1
  replace hRel : Rel (nX_write a X (xs ((nI i) + (1 : Int32)).toNatClampNeg) (((xs ((nI i) + (2 : Int32)).toNatClampNeg).toInt64 <<< ((32 : Int32).toInt64 &&& (63 : Int64))) ||| ((xs ((nI i) + (3 : Int32)).toNatClampNeg).toInt64 &&& (4294967295 : Int64)))).2 (nY_write b Y (xs ((nI i) + (1 : Int32)).toNatClampNeg) (((xs ((nI i) + (2 : Int32)).toNatClampNeg).toInt64 <<< ((32 : Int32).toInt64 &&& (63 : Int64))) ||| ((xs ((nI i) + (3 : Int32)).toNatClampNeg).toInt64 &&& (4294967295 : Int64)))).2 := hRel
  refine cxI (As := [.int (xs ((nI i) + (1 : Int32)).toNatClampNeg), .long (((xs ((nI i) + (2 : Int32)).toNatClampNeg).toInt64 <<< ((32 : Int32).toInt64 &&& (63 : Int64))) ||| ((xs ((nI i) + (3 : Int32)).toNatClampNeg).toInt64 &&& (4294967295 : Int64)))]) (rest := []) hx hb hml hown up hG hP hD hS hA k_L_15 (lnX_write (l := l) (D := D) (cy := cy) a X (xs ((nI i) + (1 : Int32)).toNatClampNeg) (((xs ((nI i) + (2 : Int32)).toNatClampNeg).toInt64 <<< ((32 : Int32).toInt64 &&& (63 : Int64))) ||| ((xs ((nI i) + (3 : Int32)).toNatClampNeg).toInt64 &&& (4294967295 : Int64))) H.size ok1) ⟨Nat.le_of_ble_eq_true rfl, Nat.le_of_ble_eq_true rfl⟩ (ci := 11) rfl rfl rfl rfl hl.1 rfl (Nat.le_of_ble_eq_true rfl) ⟨Nat.le_of_ble_eq_true rfl, Nat.le_of_ble_eq_true rfl⟩ dL_law_230 (fun r1 u1 H locs f1 hP hD hS => ?_)
  rw [← f1] at e1 hRel
  replace hP := P_swap hP
  replace hD := D_swap hD
  refine lv_aload_n hx hb dL_law_233 rfl (lv_at hl 2 rfl) ?_
  refine lv_aload_n hx hb dL_law_234 rfl (lv_at hl 0 rfl) ?_
  refine lv_iload_n hx hb dL_law_235 rfl (lv_at hl 3 rfl) ?_
  refine lv_iconst (v := 1) hx hb dL_law_236 (by decide) ?_
  refine lv_iadd hx hb dL_law_237 ?_
  refine va_sld hx hb hX hbl hbA hS v1 dL_law_238 ?_
  refine lv_aload_n hx hb dL_law_239 rfl (lv_at hl 0 rfl) ?_
  refine lv_iload_n hx hb dL_law_240 rfl (lv_at hl 3 rfl) ?_
  refine lv_iconst (v := 2) hx hb dL_law_241 (by decide) ?_
  refine lv_iadd hx hb dL_law_242 ?_
  refine va_sld hx hb hX hbl hbA hS v2 dL_law_243 ?_
  refine lv_i2l hx hb dL_law_244 rfl ?_
  refine lv_bipush (v := 32) hx hb dL_law_245 (by decide) ?_
  refine lv_lshl hx hb dL_law_247 rfl ?_
  refine lv_aload_n hx hb dL_law_248 rfl (lv_at hl 0 rfl) ?_
  refine lv_iload_n hx hb dL_law_249 rfl (lv_at hl 3 rfl) ?_
  refine lv_iconst (v := 3) hx hb dL_law_250 (by decide) ?_
  refine lv_iadd hx hb dL_law_251 ?_
  refine va_sld hx hb hX hbl hbA hS v3 dL_law_252 ?_
  refine lv_i2l hx hb dL_law_253 rfl ?_
  refine lv_ldc2 hx hb hown (up _ kc_L_13) dL_law_254 ?_
  refine lv_land hx hb dL_law_257 ?_
  refine lv_lor hx hb dL_law_258 ?_
  refine cxI (As := [.int (xs ((nI i) + (1 : Int32)).toNatClampNeg), .long (((xs ((nI i) + (2 : Int32)).toNatClampNeg).toInt64 <<< ((32 : Int32).toInt64 &&& (63 : Int64))) ||| ((xs ((nI i) + (3 : Int32)).toNatClampNeg).toInt64 &&& (4294967295 : Int64)))]) (rest := [.int r1]) hx hb hml hown up hG hP hD hS hA k_L_19 (lnY_write (l := l) (D := D) (cy := cy) b Y (xs ((nI i) + (1 : Int32)).toNatClampNeg) (((xs ((nI i) + (2 : Int32)).toNatClampNeg).toInt64 <<< ((32 : Int32).toInt64 &&& (63 : Int64))) ||| ((xs ((nI i) + (3 : Int32)).toNatClampNeg).toInt64 &&& (4294967295 : Int64))) H.size ok2) ⟨Nat.le_of_ble_eq_true rfl, Nat.le_of_ble_eq_true rfl⟩ (ci := 12) rfl rfl rfl rfl hl.1 rfl (Nat.le_of_ble_eq_true rfl) ⟨Nat.le_of_ble_eq_true rfl, Nat.le_of_ble_eq_true rfl⟩ dL_law_259 (fun r2 u2 H locs f2 hP hD hS => ?_)
  rw [← f2] at e1 hRel
  replace hP := P_swap hP
  replace hD := D_swap hD
  refine lv_icmp_eq (tgt := 1575) hx hb dL_law_262 (by decide) (fun _ => ?_) (fun q => absurd e1 q)
  exact hc a u1 b u2 H locs ls hl hP hD hS hRel
set_option maxHeartbeats 4000000 in
set_option maxRecDepth 100000 in
theorem lc_wipe {Rel : Bd → Bd → Prop} {p : Program} {l : Launch} {e : Env} {s : State} {m : MethodId} {below : List Frame} {meth : Method} {c : Code} {D : va_G} {cy : Nat → ClassId} {sb L i : Nat} {xs : Nat → Int32} {QQ : State → Prop} (hx : p.tables.exec = Jvm.exec) (hb : c.code = code) (hml : c.maxLocals = 4) (hown : s.vm.findClass RL = some m.cls) (up : ∀ w ∈ LW, w.before #[Value.ref sb] s = true) (hG : GW D cy s) (hX : va_X sb L xs s s.heap) (hbl : sb < s.heap.size) (hi : i + 6 ≤ L) (hL : L ≤ 384) (hop : Op_wipe Rel) (hc : LCont Rel p l e s m below meth c D cy sb i QQ 1575) : LCont Rel p l e s m below meth c D cy sb i QQ 267 := by
  intro a X b Y H locs ls hl hP hD hS hRel
  have hA : ∀ q : Nat, s.heap.size ≤ q → LA s q := fun _ h => h
  have hbA : ¬ LA s sb := Nat.not_le.mpr hbl
  have v1 : vp_in (nI i + (1 : Int32)) L := by rw [show nI i + (1 : Int32) = nI (i + 1) from nI_add i 1]; exact vp_in_nI (by omega) (by omega)
  have v2 : vp_in (nI i + (2 : Int32)) L := by rw [show nI i + (2 : Int32) = nI (i + 2) from nI_add i 2]; exact vp_in_nI (by omega) (by omega)
  have v3 : vp_in (nI i + (3 : Int32)) L := by rw [show nI i + (3 : Int32) = nI (i + 3) from nI_add i 3]; exact vp_in_nI (by omega) (by omega)
  have v4 : vp_in (nI i + (4 : Int32)) L := by rw [show nI i + (4 : Int32) = nI (i + 4) from nI_add i 4]; exact vp_in_nI (by omega) (by omega)
  have v5 : vp_in (nI i + (5 : Int32)) L := by rw [show nI i + (5 : Int32) = nI (i + 5) from nI_add i 5]; exact vp_in_nI (by omega) (by omega)
  refine lv_aload_n hx hb dL_law_267 rfl (lv_at hl 1 rfl) ?_
  obtain ⟨ok1, ok2, e1, hRel⟩ := hop X Y a b hRel
  replace e1 : (nX_wipe a X).1 = (nY_wipe b Y).1 := e1
  replace hRel : Rel (nX_wipe a X).2 (nY_wipe b Y).2 := hRel
  refine cxI (As := []) (rest := []) hx hb hml hown up hG hP hD hS hA k_L_20 (lnX_wipe (l := l) (D := D) (cy := cy) a X H.size) ⟨Nat.le_of_ble_eq_true rfl, Nat.le_of_ble_eq_true rfl⟩ (ci := 11) rfl rfl rfl rfl hl.1 rfl (Nat.le_of_ble_eq_true rfl) ⟨Nat.le_of_ble_eq_true rfl, Nat.le_of_ble_eq_true rfl⟩ dL_law_268 (fun r1 u1 H locs f1 hP hD hS => ?_)
  rw [← f1] at e1 hRel
  replace hP := P_swap hP
  replace hD := D_swap hD
  refine lv_aload_n hx hb dL_law_271 rfl (lv_at hl 2 rfl) ?_
  refine cxI (As := []) (rest := [.int r1]) hx hb hml hown up hG hP hD hS hA k_L_24 (lnY_wipe (l := l) (D := D) (cy := cy) b Y H.size) ⟨Nat.le_of_ble_eq_true rfl, Nat.le_of_ble_eq_true rfl⟩ (ci := 12) rfl rfl rfl rfl hl.1 rfl (Nat.le_of_ble_eq_true rfl) ⟨Nat.le_of_ble_eq_true rfl, Nat.le_of_ble_eq_true rfl⟩ dL_law_272 (fun r2 u2 H locs f2 hP hD hS => ?_)
  rw [← f2] at e1 hRel
  replace hP := P_swap hP
  replace hD := D_swap hD
  refine lv_icmp_eq (tgt := 1575) hx hb dL_law_275 (by decide) (fun _ => ?_) (fun q => absurd e1 q)
  exact hc a u1 b u2 H locs ls hl hP hD hS hRel
set_option maxHeartbeats 4000000 in
set_option maxRecDepth 100000 in
theorem lc_fault {Rel : Bd → Bd → Prop} {p : Program} {l : Launch} {e : Env} {s : State} {m : MethodId} {below : List Frame} {meth : Method} {c : Code} {D : va_G} {cy : Nat → ClassId} {sb L i : Nat} {xs : Nat → Int32} {QQ : State → Prop} (hx : p.tables.exec = Jvm.exec) (hb : c.code = code) (hml : c.maxLocals = 4) (hown : s.vm.findClass RL = some m.cls) (up : ∀ w ∈ LW, w.before #[Value.ref sb] s = true) (hG : GW D cy s) (hX : va_X sb L xs s s.heap) (hbl : sb < s.heap.size) (hi : i + 6 ≤ L) (hL : L ≤ 384) (hop : Op_fault Rel) (hc : LCont Rel p l e s m below meth c D cy sb i QQ 1575) : LCont Rel p l e s m below meth c D cy sb i QQ 280 := by
  intro a X b Y H locs ls hl hP hD hS hRel
  have hA : ∀ q : Nat, s.heap.size ≤ q → LA s q := fun _ h => h
  have hbA : ¬ LA s sb := Nat.not_le.mpr hbl
  have v1 : vp_in (nI i + (1 : Int32)) L := by rw [show nI i + (1 : Int32) = nI (i + 1) from nI_add i 1]; exact vp_in_nI (by omega) (by omega)
  have v2 : vp_in (nI i + (2 : Int32)) L := by rw [show nI i + (2 : Int32) = nI (i + 2) from nI_add i 2]; exact vp_in_nI (by omega) (by omega)
  have v3 : vp_in (nI i + (3 : Int32)) L := by rw [show nI i + (3 : Int32) = nI (i + 3) from nI_add i 3]; exact vp_in_nI (by omega) (by omega)
  have v4 : vp_in (nI i + (4 : Int32)) L := by rw [show nI i + (4 : Int32) = nI (i + 4) from nI_add i 4]; exact vp_in_nI (by omega) (by omega)
  have v5 : vp_in (nI i + (5 : Int32)) L := by rw [show nI i + (5 : Int32) = nI (i + 5) from nI_add i 5]; exact vp_in_nI (by omega) (by omega)
  by_cases t_0 : (xs ((nI i) + (1 : Int32)).toNatClampNeg) = 0
  · refine lv_aload_n hx hb dL_law_280 rfl (lv_at hl 1 rfl) ?_
    refine lv_aload_n hx hb dL_law_281 rfl (lv_at hl 0 rfl) ?_
    refine lv_iload_n hx hb dL_law_282 rfl (lv_at hl 3 rfl) ?_
    refine lv_iconst (v := 1) hx hb dL_law_283 (by decide) ?_
    refine lv_iadd hx hb dL_law_284 ?_
    refine va_sld hx hb hX hbl hbA hS v1 dL_law_285 ?_
    refine lv_if_eq (tgt := 293) hx hb dL_law_286 (by decide) (fun _ => ?_) (fun q => absurd t_0 q)
    refine lv_iconst (v := 0) hx hb dL_law_293 (by decide) ?_
    obtain ⟨ok1, ok2, e1, hRel⟩ := hop (0 : Int32) X Y a b hRel
    replace e1 : (nX_fault a X (0 : Int32)).1 = (nY_fault b Y (0 : Int32)).1 := e1
    replace hRel : Rel (nX_fault a X (0 : Int32)).2 (nY_fault b Y (0 : Int32)).2 := hRel
    refine cxI (As := [.int (0 : Int32)]) (rest := []) hx hb hml hown up hG hP hD hS hA k_L_25 (lnX_fault (l := l) (D := D) (cy := cy) a X (0 : Int32) H.size ok1) ⟨Nat.le_of_ble_eq_true rfl, Nat.le_of_ble_eq_true rfl⟩ (ci := 11) rfl rfl rfl rfl hl.1 rfl (Nat.le_of_ble_eq_true rfl) ⟨Nat.le_of_ble_eq_true rfl, Nat.le_of_ble_eq_true rfl⟩ dL_law_294 (fun r1 u1 H locs f1 hP hD hS => ?_)
    rw [← f1] at e1 hRel
    replace hP := P_swap hP
    replace hD := D_swap hD
    refine lv_aload_n hx hb dL_law_297 rfl (lv_at hl 2 rfl) ?_
    refine lv_aload_n hx hb dL_law_298 rfl (lv_at hl 0 rfl) ?_
    refine lv_iload_n hx hb dL_law_299 rfl (lv_at hl 3 rfl) ?_
    refine lv_iconst (v := 1) hx hb dL_law_300 (by decide) ?_
    refine lv_iadd hx hb dL_law_301 ?_
    refine va_sld hx hb hX hbl hbA hS v1 dL_law_302 ?_
    refine lv_if_eq (tgt := 310) hx hb dL_law_303 (by decide) (fun _ => ?_) (fun q => absurd t_0 q)
    refine lv_iconst (v := 0) hx hb dL_law_310 (by decide) ?_
    refine cxI (As := [.int (0 : Int32)]) (rest := [.int r1]) hx hb hml hown up hG hP hD hS hA k_L_29 (lnY_fault (l := l) (D := D) (cy := cy) b Y (0 : Int32) H.size ok2) ⟨Nat.le_of_ble_eq_true rfl, Nat.le_of_ble_eq_true rfl⟩ (ci := 12) rfl rfl rfl rfl hl.1 rfl (Nat.le_of_ble_eq_true rfl) ⟨Nat.le_of_ble_eq_true rfl, Nat.le_of_ble_eq_true rfl⟩ dL_law_311 (fun r2 u2 H locs f2 hP hD hS => ?_)
    rw [← f2] at e1 hRel
    replace hP := P_swap hP
    replace hD := D_swap hD
    refine lv_icmp_eq (tgt := 1575) hx hb dL_law_314 (by decide) (fun _ => ?_) (fun q => absurd e1 q)
    exact hc a u1 b u2 H locs ls hl hP hD hS hRel
  · refine lv_aload_n hx hb dL_law_280 rfl (lv_at hl 1 rfl) ?_
    refine lv_aload_n hx hb dL_law_281 rfl (lv_at hl 0 rfl) ?_
    refine lv_iload_n hx hb dL_law_282 rfl (lv_at hl 3 rfl) ?_
    refine lv_iconst (v := 1) hx hb dL_law_283 (by decide) ?_
    refine lv_iadd hx hb dL_law_284 ?_
    refine va_sld hx hb hX hbl hbA hS v1 dL_law_285 ?_
    refine lv_if_eq (tgt := 293) hx hb dL_law_286 (by decide) (fun q => absurd q t_0) (fun _ => ?_)
    refine lv_iconst (v := 1) hx hb dL_law_289 (by decide) ?_
    refine lv_goto (tgt := 294) hx hb dL_law_290 (by decide) ?_
    obtain ⟨ok1, ok2, e1, hRel⟩ := hop (1 : Int32) X Y a b hRel
    replace e1 : (nX_fault a X (1 : Int32)).1 = (nY_fault b Y (1 : Int32)).1 := e1
    replace hRel : Rel (nX_fault a X (1 : Int32)).2 (nY_fault b Y (1 : Int32)).2 := hRel
    refine cxI (As := [.int (1 : Int32)]) (rest := []) hx hb hml hown up hG hP hD hS hA k_L_25 (lnX_fault (l := l) (D := D) (cy := cy) a X (1 : Int32) H.size ok1) ⟨Nat.le_of_ble_eq_true rfl, Nat.le_of_ble_eq_true rfl⟩ (ci := 11) rfl rfl rfl rfl hl.1 rfl (Nat.le_of_ble_eq_true rfl) ⟨Nat.le_of_ble_eq_true rfl, Nat.le_of_ble_eq_true rfl⟩ dL_law_294 (fun r1 u1 H locs f1 hP hD hS => ?_)
    rw [← f1] at e1 hRel
    replace hP := P_swap hP
    replace hD := D_swap hD
    refine lv_aload_n hx hb dL_law_297 rfl (lv_at hl 2 rfl) ?_
    refine lv_aload_n hx hb dL_law_298 rfl (lv_at hl 0 rfl) ?_
    refine lv_iload_n hx hb dL_law_299 rfl (lv_at hl 3 rfl) ?_
    refine lv_iconst (v := 1) hx hb dL_law_300 (by decide) ?_
    refine lv_iadd hx hb dL_law_301 ?_
    refine va_sld hx hb hX hbl hbA hS v1 dL_law_302 ?_
    refine lv_if_eq (tgt := 310) hx hb dL_law_303 (by decide) (fun q => absurd q t_0) (fun _ => ?_)
    refine lv_iconst (v := 1) hx hb dL_law_306 (by decide) ?_
    refine lv_goto (tgt := 311) hx hb dL_law_307 (by decide) ?_
    refine cxI (As := [.int (1 : Int32)]) (rest := [.int r1]) hx hb hml hown up hG hP hD hS hA k_L_29 (lnY_fault (l := l) (D := D) (cy := cy) b Y (1 : Int32) H.size ok2) ⟨Nat.le_of_ble_eq_true rfl, Nat.le_of_ble_eq_true rfl⟩ (ci := 12) rfl rfl rfl rfl hl.1 rfl (Nat.le_of_ble_eq_true rfl) ⟨Nat.le_of_ble_eq_true rfl, Nat.le_of_ble_eq_true rfl⟩ dL_law_311 (fun r2 u2 H locs f2 hP hD hS => ?_)
    rw [← f2] at e1 hRel
    replace hP := P_swap hP
    replace hD := D_swap hD
    refine lv_icmp_eq (tgt := 1575) hx hb dL_law_314 (by decide) (fun _ => ?_) (fun q => absurd e1 q)
    exact hc a u1 b u2 H locs ls hl hP hD hS hRel
set_option maxHeartbeats 4000000 in
set_option maxRecDepth 100000 in
theorem lc_make {Rel : Bd → Bd → Prop} {p : Program} {l : Launch} {e : Env} {s : State} {m : MethodId} {below : List Frame} {meth : Method} {c : Code} {D : va_G} {cy : Nat → ClassId} {sb L i : Nat} {xs : Nat → Int32} {QQ : State → Prop} (hx : p.tables.exec = Jvm.exec) (hb : c.code = code) (hml : c.maxLocals = 4) (hown : s.vm.findClass RL = some m.cls) (up : ∀ w ∈ LW, w.before #[Value.ref sb] s = true) (hG : GW D cy s) (hX : va_X sb L xs s s.heap) (hbl : sb < s.heap.size) (hi : i + 6 ≤ L) (hL : L ≤ 384) (hop : Op_make Rel) (hc : LCont Rel p l e s m below meth c D cy sb i QQ 1575) : LCont Rel p l e s m below meth c D cy sb i QQ 319 := by
  intro a X b Y H locs ls hl hP hD hS hRel
  have hA : ∀ q : Nat, s.heap.size ≤ q → LA s q := fun _ h => h
  have hbA : ¬ LA s sb := Nat.not_le.mpr hbl
  have v1 : vp_in (nI i + (1 : Int32)) L := by rw [show nI i + (1 : Int32) = nI (i + 1) from nI_add i 1]; exact vp_in_nI (by omega) (by omega)
  have v2 : vp_in (nI i + (2 : Int32)) L := by rw [show nI i + (2 : Int32) = nI (i + 2) from nI_add i 2]; exact vp_in_nI (by omega) (by omega)
  have v3 : vp_in (nI i + (3 : Int32)) L := by rw [show nI i + (3 : Int32) = nI (i + 3) from nI_add i 3]; exact vp_in_nI (by omega) (by omega)
  have v4 : vp_in (nI i + (4 : Int32)) L := by rw [show nI i + (4 : Int32) = nI (i + 4) from nI_add i 4]; exact vp_in_nI (by omega) (by omega)
  have v5 : vp_in (nI i + (5 : Int32)) L := by rw [show nI i + (5 : Int32) = nI (i + 5) from nI_add i 5]; exact vp_in_nI (by omega) (by omega)
  refine lv_aload_n hx hb dL_law_319 rfl (lv_at hl 1 rfl) ?_
  obtain ⟨ok1, ok2, e1, hRel⟩ := hop X Y a b hRel
  replace e1 : (nX_make a X).1 = (nY_make b Y).1 := e1
  replace hRel : Rel (nX_make a X).2.2 (nY_make b Y).2 := hRel
  refine cxI (As := []) (rest := []) hx hb hml hown up hG hP hD hS hA k_L_30 (lnX_make (l := l) (D := D) (cy := cy) a X H.size ok1) ⟨Nat.le_of_ble_eq_true rfl, Nat.le_of_ble_eq_true rfl⟩ (ci := 11) rfl rfl rfl rfl hl.1 rfl (Nat.le_of_ble_eq_true rfl) ⟨Nat.le_of_ble_eq_true rfl, Nat.le_of_ble_eq_true rfl⟩ dL_law_320 (fun r1 u1 H locs f1 hP hD hS => ?_)
  have g0 : u1.1 0 = a 0 := by have := mk_a0 a X; rw [← f1] at this; exact this
  rw [← g0] at hl
  replace e1 : r1 = (nY_make b Y).1 := by rw [← e1, ← f1]
  replace hRel : Rel u1.2 (nY_make b Y).2 := by have h9 := hRel; rw [← f1] at h9; exact h9
  replace hP := P_swap hP
  replace hD := D_swap hD
  refine lv_aload_n hx hb dL_law_323 rfl (lv_at hl 2 rfl) ?_
  refine cxI (As := []) (rest := [.int r1]) hx hb hml hown up hG hP hD hS hA k_L_33 (lnY_make (l := l) (D := D) (cy := cy) b Y H.size ok2) ⟨Nat.le_of_ble_eq_true rfl, Nat.le_of_ble_eq_true rfl⟩ (ci := 12) rfl rfl rfl rfl hl.1 rfl (Nat.le_of_ble_eq_true rfl) ⟨Nat.le_of_ble_eq_true rfl, Nat.le_of_ble_eq_true rfl⟩ dL_law_324 (fun r2 u2 H locs f2 hP hD hS => ?_)
  rw [← f2] at e1 hRel
  replace hP := P_swap hP
  replace hD := D_swap hD
  refine lv_icmp_eq (tgt := 1575) hx hb dL_law_327 (by decide) (fun _ => ?_) (fun q => absurd e1 q)
  exact hc u1.1 u1.2 b u2 H locs ls hl hP hD hS hRel
set_option maxHeartbeats 4000000 in
set_option maxRecDepth 100000 in
theorem lc_rule {Rel : Bd → Bd → Prop} {p : Program} {l : Launch} {e : Env} {s : State} {m : MethodId} {below : List Frame} {meth : Method} {c : Code} {D : va_G} {cy : Nat → ClassId} {sb L i : Nat} {xs : Nat → Int32} {QQ : State → Prop} (hx : p.tables.exec = Jvm.exec) (hb : c.code = code) (hml : c.maxLocals = 4) (hown : s.vm.findClass RL = some m.cls) (up : ∀ w ∈ LW, w.before #[Value.ref sb] s = true) (hG : GW D cy s) (hX : va_X sb L xs s s.heap) (hbl : sb < s.heap.size) (hi : i + 6 ≤ L) (hL : L ≤ 384) (hop : Op_rule Rel) (hc : LCont Rel p l e s m below meth c D cy sb i QQ 1575) : LCont Rel p l e s m below meth c D cy sb i QQ 332 := by
  intro a X b Y H locs ls hl hP hD hS hRel
  have hA : ∀ q : Nat, s.heap.size ≤ q → LA s q := fun _ h => h
  have hbA : ¬ LA s sb := Nat.not_le.mpr hbl
  have v1 : vp_in (nI i + (1 : Int32)) L := by rw [show nI i + (1 : Int32) = nI (i + 1) from nI_add i 1]; exact vp_in_nI (by omega) (by omega)
  have v2 : vp_in (nI i + (2 : Int32)) L := by rw [show nI i + (2 : Int32) = nI (i + 2) from nI_add i 2]; exact vp_in_nI (by omega) (by omega)
  have v3 : vp_in (nI i + (3 : Int32)) L := by rw [show nI i + (3 : Int32) = nI (i + 3) from nI_add i 3]; exact vp_in_nI (by omega) (by omega)
  have v4 : vp_in (nI i + (4 : Int32)) L := by rw [show nI i + (4 : Int32) = nI (i + 4) from nI_add i 4]; exact vp_in_nI (by omega) (by omega)
  have v5 : vp_in (nI i + (5 : Int32)) L := by rw [show nI i + (5 : Int32) = nI (i + 5) from nI_add i 5]; exact vp_in_nI (by omega) (by omega)
  refine lv_aload_n hx hb dL_law_332 rfl (lv_at hl 1 rfl) ?_
  refine lv_aload_n hx hb dL_law_333 rfl (lv_at hl 0 rfl) ?_
  refine lv_iload_n hx hb dL_law_334 rfl (lv_at hl 3 rfl) ?_
  refine lv_iconst (v := 1) hx hb dL_law_335 (by decide) ?_
  refine lv_iadd hx hb dL_law_336 ?_
  refine va_sld hx hb hX hbl hbA hS v1 dL_law_337 ?_
  obtain ⟨ok1, ok2, e1, hRel⟩ := hop (xs ((nI i) + (1 : Int32)).toNatClampNeg) X Y a b hRel
  replace e1 : (nX_rule a X (xs ((nI i) + (1 : Int32)).toNatClampNeg)).1 = (nY_rule b Y (xs ((nI i) + (1 : Int32)).toNatClampNeg)).1 := e1
  replace hRel : Rel (nX_rule a X (xs ((nI i) + (1 : Int32)).toNatClampNeg)).2 (nY_rule b Y (xs ((nI i) + (1 : Int32)).toNatClampNeg)).2 := hRel
  refine cxI (As := [.int (xs ((nI i) + (1 : Int32)).toNatClampNeg)]) (rest := []) hx hb hml hown up hG hP hD hS hA k_L_34 (lnX_rule (l := l) (D := D) (cy := cy) a X (xs ((nI i) + (1 : Int32)).toNatClampNeg) H.size ok1) ⟨Nat.le_of_ble_eq_true rfl, Nat.le_of_ble_eq_true rfl⟩ (ci := 11) rfl rfl rfl rfl hl.1 rfl (Nat.le_of_ble_eq_true rfl) ⟨Nat.le_of_ble_eq_true rfl, Nat.le_of_ble_eq_true rfl⟩ dL_law_338 (fun r1 u1 H locs f1 hP hD hS => ?_)
  rw [← f1] at e1 hRel
  replace hP := P_swap hP
  replace hD := D_swap hD
  refine lv_aload_n hx hb dL_law_341 rfl (lv_at hl 2 rfl) ?_
  refine lv_aload_n hx hb dL_law_342 rfl (lv_at hl 0 rfl) ?_
  refine lv_iload_n hx hb dL_law_343 rfl (lv_at hl 3 rfl) ?_
  refine lv_iconst (v := 1) hx hb dL_law_344 (by decide) ?_
  refine lv_iadd hx hb dL_law_345 ?_
  refine va_sld hx hb hX hbl hbA hS v1 dL_law_346 ?_
  refine cxI (As := [.int (xs ((nI i) + (1 : Int32)).toNatClampNeg)]) (rest := [.int r1]) hx hb hml hown up hG hP hD hS hA k_L_38 (lnY_rule (l := l) (D := D) (cy := cy) b Y (xs ((nI i) + (1 : Int32)).toNatClampNeg) H.size ok2) ⟨Nat.le_of_ble_eq_true rfl, Nat.le_of_ble_eq_true rfl⟩ (ci := 12) rfl rfl rfl rfl hl.1 rfl (Nat.le_of_ble_eq_true rfl) ⟨Nat.le_of_ble_eq_true rfl, Nat.le_of_ble_eq_true rfl⟩ dL_law_347 (fun r2 u2 H locs f2 hP hD hS => ?_)
  rw [← f2] at e1 hRel
  replace hP := P_swap hP
  replace hD := D_swap hD
  refine lv_icmp_eq (tgt := 1575) hx hb dL_law_350 (by decide) (fun _ => ?_) (fun q => absurd e1 q)
  exact hc a u1 b u2 H locs ls hl hP hD hS hRel
set_option maxHeartbeats 4000000 in
set_option maxRecDepth 100000 in
theorem lc_ruled {Rel : Bd → Bd → Prop} {p : Program} {l : Launch} {e : Env} {s : State} {m : MethodId} {below : List Frame} {meth : Method} {c : Code} {D : va_G} {cy : Nat → ClassId} {sb L i : Nat} {xs : Nat → Int32} {QQ : State → Prop} (hx : p.tables.exec = Jvm.exec) (hb : c.code = code) (hml : c.maxLocals = 4) (hown : s.vm.findClass RL = some m.cls) (up : ∀ w ∈ LW, w.before #[Value.ref sb] s = true) (hG : GW D cy s) (hX : va_X sb L xs s s.heap) (hbl : sb < s.heap.size) (hi : i + 6 ≤ L) (hL : L ≤ 384) (hop : Op_ruled Rel) (hc : LCont Rel p l e s m below meth c D cy sb i QQ 1575) : LCont Rel p l e s m below meth c D cy sb i QQ 355 := by
  intro a X b Y H locs ls hl hP hD hS hRel
  have hA : ∀ q : Nat, s.heap.size ≤ q → LA s q := fun _ h => h
  have hbA : ¬ LA s sb := Nat.not_le.mpr hbl
  have v1 : vp_in (nI i + (1 : Int32)) L := by rw [show nI i + (1 : Int32) = nI (i + 1) from nI_add i 1]; exact vp_in_nI (by omega) (by omega)
  have v2 : vp_in (nI i + (2 : Int32)) L := by rw [show nI i + (2 : Int32) = nI (i + 2) from nI_add i 2]; exact vp_in_nI (by omega) (by omega)
  have v3 : vp_in (nI i + (3 : Int32)) L := by rw [show nI i + (3 : Int32) = nI (i + 3) from nI_add i 3]; exact vp_in_nI (by omega) (by omega)
  have v4 : vp_in (nI i + (4 : Int32)) L := by rw [show nI i + (4 : Int32) = nI (i + 4) from nI_add i 4]; exact vp_in_nI (by omega) (by omega)
  have v5 : vp_in (nI i + (5 : Int32)) L := by rw [show nI i + (5 : Int32) = nI (i + 5) from nI_add i 5]; exact vp_in_nI (by omega) (by omega)
  refine lv_aload_n hx hb dL_law_355 rfl (lv_at hl 1 rfl) ?_
  refine lv_aload_n hx hb dL_law_356 rfl (lv_at hl 0 rfl) ?_
  refine lv_iload_n hx hb dL_law_357 rfl (lv_at hl 3 rfl) ?_
  refine lv_iconst (v := 1) hx hb dL_law_358 (by decide) ?_
  refine lv_iadd hx hb dL_law_359 ?_
  refine va_sld hx hb hX hbl hbA hS v1 dL_law_360 ?_
  refine lv_aload_n hx hb dL_law_361 rfl (lv_at hl 0 rfl) ?_
  refine lv_iload_n hx hb dL_law_362 rfl (lv_at hl 3 rfl) ?_
  refine lv_iconst (v := 2) hx hb dL_law_363 (by decide) ?_
  refine lv_iadd hx hb dL_law_364 ?_
  refine va_sld hx hb hX hbl hbA hS v2 dL_law_365 ?_
  obtain ⟨ok1, ok2, e1, hRel⟩ := hop (xs ((nI i) + (1 : Int32)).toNatClampNeg) (xs ((nI i) + (2 : Int32)).toNatClampNeg) X Y a b hRel
  replace e1 : (nX_ruled a X (xs ((nI i) + (1 : Int32)).toNatClampNeg) (xs ((nI i) + (2 : Int32)).toNatClampNeg)).1 = (nY_ruled b Y (xs ((nI i) + (1 : Int32)).toNatClampNeg) (xs ((nI i) + (2 : Int32)).toNatClampNeg)).1 := e1
  replace hRel : Rel (nX_ruled a X (xs ((nI i) + (1 : Int32)).toNatClampNeg) (xs ((nI i) + (2 : Int32)).toNatClampNeg)).2 (nY_ruled b Y (xs ((nI i) + (1 : Int32)).toNatClampNeg) (xs ((nI i) + (2 : Int32)).toNatClampNeg)).2 := hRel
  refine cxI (As := [.int (xs ((nI i) + (1 : Int32)).toNatClampNeg), .int (xs ((nI i) + (2 : Int32)).toNatClampNeg)]) (rest := []) hx hb hml hown up hG hP hD hS hA k_L_39 (lnX_ruled (l := l) (D := D) (cy := cy) a X (xs ((nI i) + (1 : Int32)).toNatClampNeg) (xs ((nI i) + (2 : Int32)).toNatClampNeg) H.size ok1) ⟨Nat.le_of_ble_eq_true rfl, Nat.le_of_ble_eq_true rfl⟩ (ci := 11) rfl rfl rfl rfl hl.1 rfl (Nat.le_of_ble_eq_true rfl) ⟨Nat.le_of_ble_eq_true rfl, Nat.le_of_ble_eq_true rfl⟩ dL_law_366 (fun r1 u1 H locs f1 hP hD hS => ?_)
  rw [← f1] at e1 hRel
  replace hP := P_swap hP
  replace hD := D_swap hD
  refine lv_aload_n hx hb dL_law_369 rfl (lv_at hl 2 rfl) ?_
  refine lv_aload_n hx hb dL_law_370 rfl (lv_at hl 0 rfl) ?_
  refine lv_iload_n hx hb dL_law_371 rfl (lv_at hl 3 rfl) ?_
  refine lv_iconst (v := 1) hx hb dL_law_372 (by decide) ?_
  refine lv_iadd hx hb dL_law_373 ?_
  refine va_sld hx hb hX hbl hbA hS v1 dL_law_374 ?_
  refine lv_aload_n hx hb dL_law_375 rfl (lv_at hl 0 rfl) ?_
  refine lv_iload_n hx hb dL_law_376 rfl (lv_at hl 3 rfl) ?_
  refine lv_iconst (v := 2) hx hb dL_law_377 (by decide) ?_
  refine lv_iadd hx hb dL_law_378 ?_
  refine va_sld hx hb hX hbl hbA hS v2 dL_law_379 ?_
  refine cxI (As := [.int (xs ((nI i) + (1 : Int32)).toNatClampNeg), .int (xs ((nI i) + (2 : Int32)).toNatClampNeg)]) (rest := [.int r1]) hx hb hml hown up hG hP hD hS hA k_L_43 (lnY_ruled (l := l) (D := D) (cy := cy) b Y (xs ((nI i) + (1 : Int32)).toNatClampNeg) (xs ((nI i) + (2 : Int32)).toNatClampNeg) H.size ok2) ⟨Nat.le_of_ble_eq_true rfl, Nat.le_of_ble_eq_true rfl⟩ (ci := 12) rfl rfl rfl rfl hl.1 rfl (Nat.le_of_ble_eq_true rfl) ⟨Nat.le_of_ble_eq_true rfl, Nat.le_of_ble_eq_true rfl⟩ dL_law_380 (fun r2 u2 H locs f2 hP hD hS => ?_)
  rw [← f2] at e1 hRel
  replace hP := P_swap hP
  replace hD := D_swap hD
  refine lv_icmp_eq (tgt := 1575) hx hb dL_law_383 (by decide) (fun _ => ?_) (fun q => absurd e1 q)
  exact hc a u1 b u2 H locs ls hl hP hD hS hRel
set_option maxHeartbeats 4000000 in
set_option maxRecDepth 100000 in
theorem lc_session {Rel : Bd → Bd → Prop} {p : Program} {l : Launch} {e : Env} {s : State} {m : MethodId} {below : List Frame} {meth : Method} {c : Code} {D : va_G} {cy : Nat → ClassId} {sb L i : Nat} {xs : Nat → Int32} {QQ : State → Prop} (hx : p.tables.exec = Jvm.exec) (hb : c.code = code) (hml : c.maxLocals = 4) (hown : s.vm.findClass RL = some m.cls) (up : ∀ w ∈ LW, w.before #[Value.ref sb] s = true) (hG : GW D cy s) (hX : va_X sb L xs s s.heap) (hbl : sb < s.heap.size) (hi : i + 6 ≤ L) (hL : L ≤ 384) (hop : Op_session Rel) (hc : LCont Rel p l e s m below meth c D cy sb i QQ 1575) : LCont Rel p l e s m below meth c D cy sb i QQ 388 := by
  intro a X b Y H locs ls hl hP hD hS hRel
  have hA : ∀ q : Nat, s.heap.size ≤ q → LA s q := fun _ h => h
  have hbA : ¬ LA s sb := Nat.not_le.mpr hbl
  have v1 : vp_in (nI i + (1 : Int32)) L := by rw [show nI i + (1 : Int32) = nI (i + 1) from nI_add i 1]; exact vp_in_nI (by omega) (by omega)
  have v2 : vp_in (nI i + (2 : Int32)) L := by rw [show nI i + (2 : Int32) = nI (i + 2) from nI_add i 2]; exact vp_in_nI (by omega) (by omega)
  have v3 : vp_in (nI i + (3 : Int32)) L := by rw [show nI i + (3 : Int32) = nI (i + 3) from nI_add i 3]; exact vp_in_nI (by omega) (by omega)
  have v4 : vp_in (nI i + (4 : Int32)) L := by rw [show nI i + (4 : Int32) = nI (i + 4) from nI_add i 4]; exact vp_in_nI (by omega) (by omega)
  have v5 : vp_in (nI i + (5 : Int32)) L := by rw [show nI i + (5 : Int32) = nI (i + 5) from nI_add i 5]; exact vp_in_nI (by omega) (by omega)
  refine lv_aload_n hx hb dL_law_388 rfl (lv_at hl 1 rfl) ?_
  refine lv_aload_n hx hb dL_law_389 rfl (lv_at hl 0 rfl) ?_
  refine lv_iload_n hx hb dL_law_390 rfl (lv_at hl 3 rfl) ?_
  refine lv_iconst (v := 1) hx hb dL_law_391 (by decide) ?_
  refine lv_iadd hx hb dL_law_392 ?_
  refine va_sld hx hb hX hbl hbA hS v1 dL_law_393 ?_
  refine lv_aload_n hx hb dL_law_394 rfl (lv_at hl 0 rfl) ?_
  refine lv_iload_n hx hb dL_law_395 rfl (lv_at hl 3 rfl) ?_
  refine lv_iconst (v := 2) hx hb dL_law_396 (by decide) ?_
  refine lv_iadd hx hb dL_law_397 ?_
  refine va_sld hx hb hX hbl hbA hS v2 dL_law_398 ?_
  obtain ⟨ok1, ok2, e1, hRel⟩ := hop (xs ((nI i) + (1 : Int32)).toNatClampNeg) (xs ((nI i) + (2 : Int32)).toNatClampNeg) X Y a b hRel
  replace e1 : (nX_session a X (xs ((nI i) + (1 : Int32)).toNatClampNeg) (xs ((nI i) + (2 : Int32)).toNatClampNeg)).1 = (nY_session b Y (xs ((nI i) + (1 : Int32)).toNatClampNeg) (xs ((nI i) + (2 : Int32)).toNatClampNeg)).1 := e1
  replace hRel : Rel (nX_session a X (xs ((nI i) + (1 : Int32)).toNatClampNeg) (xs ((nI i) + (2 : Int32)).toNatClampNeg)).2 (nY_session b Y (xs ((nI i) + (1 : Int32)).toNatClampNeg) (xs ((nI i) + (2 : Int32)).toNatClampNeg)).2 := hRel
  refine cxI (As := [.int (xs ((nI i) + (1 : Int32)).toNatClampNeg), .int (xs ((nI i) + (2 : Int32)).toNatClampNeg)]) (rest := []) hx hb hml hown up hG hP hD hS hA k_L_44 (lnX_session (l := l) (D := D) (cy := cy) a X (xs ((nI i) + (1 : Int32)).toNatClampNeg) (xs ((nI i) + (2 : Int32)).toNatClampNeg) H.size ok1) ⟨Nat.le_of_ble_eq_true rfl, Nat.le_of_ble_eq_true rfl⟩ (ci := 11) rfl rfl rfl rfl hl.1 rfl (Nat.le_of_ble_eq_true rfl) ⟨Nat.le_of_ble_eq_true rfl, Nat.le_of_ble_eq_true rfl⟩ dL_law_399 (fun r1 u1 H locs f1 hP hD hS => ?_)
  rw [← f1] at e1 hRel
  replace hP := P_swap hP
  replace hD := D_swap hD
  refine lv_aload_n hx hb dL_law_402 rfl (lv_at hl 2 rfl) ?_
  refine lv_aload_n hx hb dL_law_403 rfl (lv_at hl 0 rfl) ?_
  refine lv_iload_n hx hb dL_law_404 rfl (lv_at hl 3 rfl) ?_
  refine lv_iconst (v := 1) hx hb dL_law_405 (by decide) ?_
  refine lv_iadd hx hb dL_law_406 ?_
  refine va_sld hx hb hX hbl hbA hS v1 dL_law_407 ?_
  refine lv_aload_n hx hb dL_law_408 rfl (lv_at hl 0 rfl) ?_
  refine lv_iload_n hx hb dL_law_409 rfl (lv_at hl 3 rfl) ?_
  refine lv_iconst (v := 2) hx hb dL_law_410 (by decide) ?_
  refine lv_iadd hx hb dL_law_411 ?_
  refine va_sld hx hb hX hbl hbA hS v2 dL_law_412 ?_
  refine cxI (As := [.int (xs ((nI i) + (1 : Int32)).toNatClampNeg), .int (xs ((nI i) + (2 : Int32)).toNatClampNeg)]) (rest := [.int r1]) hx hb hml hown up hG hP hD hS hA k_L_47 (lnY_session (l := l) (D := D) (cy := cy) b Y (xs ((nI i) + (1 : Int32)).toNatClampNeg) (xs ((nI i) + (2 : Int32)).toNatClampNeg) H.size ok2) ⟨Nat.le_of_ble_eq_true rfl, Nat.le_of_ble_eq_true rfl⟩ (ci := 12) rfl rfl rfl rfl hl.1 rfl (Nat.le_of_ble_eq_true rfl) ⟨Nat.le_of_ble_eq_true rfl, Nat.le_of_ble_eq_true rfl⟩ dL_law_413 (fun r2 u2 H locs f2 hP hD hS => ?_)
  rw [← f2] at e1 hRel
  replace hP := P_swap hP
  replace hD := D_swap hD
  refine lv_icmp_eq (tgt := 1575) hx hb dL_law_416 (by decide) (fun _ => ?_) (fun q => absurd e1 q)
  exact hc a u1 b u2 H locs ls hl hP hD hS hRel
set_option maxHeartbeats 4000000 in
set_option maxRecDepth 100000 in
theorem lc_place {Rel : Bd → Bd → Prop} {p : Program} {l : Launch} {e : Env} {s : State} {m : MethodId} {below : List Frame} {meth : Method} {c : Code} {D : va_G} {cy : Nat → ClassId} {sb L i : Nat} {xs : Nat → Int32} {QQ : State → Prop} (hx : p.tables.exec = Jvm.exec) (hb : c.code = code) (hml : c.maxLocals = 4) (hown : s.vm.findClass RL = some m.cls) (up : ∀ w ∈ LW, w.before #[Value.ref sb] s = true) (hG : GW D cy s) (hX : va_X sb L xs s s.heap) (hbl : sb < s.heap.size) (hi : i + 6 ≤ L) (hL : L ≤ 384) (hop : Op_place Rel) (hc : LCont Rel p l e s m below meth c D cy sb i QQ 1575) : LCont Rel p l e s m below meth c D cy sb i QQ 421 := by
  intro a X b Y H locs ls hl hP hD hS hRel
  have hA : ∀ q : Nat, s.heap.size ≤ q → LA s q := fun _ h => h
  have hbA : ¬ LA s sb := Nat.not_le.mpr hbl
  have v1 : vp_in (nI i + (1 : Int32)) L := by rw [show nI i + (1 : Int32) = nI (i + 1) from nI_add i 1]; exact vp_in_nI (by omega) (by omega)
  have v2 : vp_in (nI i + (2 : Int32)) L := by rw [show nI i + (2 : Int32) = nI (i + 2) from nI_add i 2]; exact vp_in_nI (by omega) (by omega)
  have v3 : vp_in (nI i + (3 : Int32)) L := by rw [show nI i + (3 : Int32) = nI (i + 3) from nI_add i 3]; exact vp_in_nI (by omega) (by omega)
  have v4 : vp_in (nI i + (4 : Int32)) L := by rw [show nI i + (4 : Int32) = nI (i + 4) from nI_add i 4]; exact vp_in_nI (by omega) (by omega)
  have v5 : vp_in (nI i + (5 : Int32)) L := by rw [show nI i + (5 : Int32) = nI (i + 5) from nI_add i 5]; exact vp_in_nI (by omega) (by omega)
  refine lv_aload_n hx hb dL_law_421 rfl (lv_at hl 1 rfl) ?_
  refine lv_aload_n hx hb dL_law_422 rfl (lv_at hl 0 rfl) ?_
  refine lv_iload_n hx hb dL_law_423 rfl (lv_at hl 3 rfl) ?_
  refine lv_iconst (v := 1) hx hb dL_law_424 (by decide) ?_
  refine lv_iadd hx hb dL_law_425 ?_
  refine va_sld hx hb hX hbl hbA hS v1 dL_law_426 ?_
  refine lv_aload_n hx hb dL_law_427 rfl (lv_at hl 0 rfl) ?_
  refine lv_iload_n hx hb dL_law_428 rfl (lv_at hl 3 rfl) ?_
  refine lv_iconst (v := 2) hx hb dL_law_429 (by decide) ?_
  refine lv_iadd hx hb dL_law_430 ?_
  refine va_sld hx hb hX hbl hbA hS v2 dL_law_431 ?_
  obtain ⟨ok1, ok2, e1, hRel⟩ := hop (xs ((nI i) + (1 : Int32)).toNatClampNeg) (xs ((nI i) + (2 : Int32)).toNatClampNeg) X Y a b hRel
  replace e1 : (nX_place a X (xs ((nI i) + (1 : Int32)).toNatClampNeg) (xs ((nI i) + (2 : Int32)).toNatClampNeg)).1 = (nY_place b Y (xs ((nI i) + (1 : Int32)).toNatClampNeg) (xs ((nI i) + (2 : Int32)).toNatClampNeg)).1 := e1
  replace hRel : Rel (nX_place a X (xs ((nI i) + (1 : Int32)).toNatClampNeg) (xs ((nI i) + (2 : Int32)).toNatClampNeg)).2 (nY_place b Y (xs ((nI i) + (1 : Int32)).toNatClampNeg) (xs ((nI i) + (2 : Int32)).toNatClampNeg)).2 := hRel
  refine cxI (As := [.int (xs ((nI i) + (1 : Int32)).toNatClampNeg), .int (xs ((nI i) + (2 : Int32)).toNatClampNeg)]) (rest := []) hx hb hml hown up hG hP hD hS hA k_L_48 (lnX_place (l := l) (D := D) (cy := cy) a X (xs ((nI i) + (1 : Int32)).toNatClampNeg) (xs ((nI i) + (2 : Int32)).toNatClampNeg) H.size ok1) ⟨Nat.le_of_ble_eq_true rfl, Nat.le_of_ble_eq_true rfl⟩ (ci := 11) rfl rfl rfl rfl hl.1 rfl (Nat.le_of_ble_eq_true rfl) ⟨Nat.le_of_ble_eq_true rfl, Nat.le_of_ble_eq_true rfl⟩ dL_law_432 (fun r1 u1 H locs f1 hP hD hS => ?_)
  rw [← f1] at e1 hRel
  replace hP := P_swap hP
  replace hD := D_swap hD
  refine lv_aload_n hx hb dL_law_435 rfl (lv_at hl 2 rfl) ?_
  refine lv_aload_n hx hb dL_law_436 rfl (lv_at hl 0 rfl) ?_
  refine lv_iload_n hx hb dL_law_437 rfl (lv_at hl 3 rfl) ?_
  refine lv_iconst (v := 1) hx hb dL_law_438 (by decide) ?_
  refine lv_iadd hx hb dL_law_439 ?_
  refine va_sld hx hb hX hbl hbA hS v1 dL_law_440 ?_
  refine lv_aload_n hx hb dL_law_441 rfl (lv_at hl 0 rfl) ?_
  refine lv_iload_n hx hb dL_law_442 rfl (lv_at hl 3 rfl) ?_
  refine lv_iconst (v := 2) hx hb dL_law_443 (by decide) ?_
  refine lv_iadd hx hb dL_law_444 ?_
  refine va_sld hx hb hX hbl hbA hS v2 dL_law_445 ?_
  refine cxI (As := [.int (xs ((nI i) + (1 : Int32)).toNatClampNeg), .int (xs ((nI i) + (2 : Int32)).toNatClampNeg)]) (rest := [.int r1]) hx hb hml hown up hG hP hD hS hA k_L_51 (lnY_place (l := l) (D := D) (cy := cy) b Y (xs ((nI i) + (1 : Int32)).toNatClampNeg) (xs ((nI i) + (2 : Int32)).toNatClampNeg) H.size ok2) ⟨Nat.le_of_ble_eq_true rfl, Nat.le_of_ble_eq_true rfl⟩ (ci := 12) rfl rfl rfl rfl hl.1 rfl (Nat.le_of_ble_eq_true rfl) ⟨Nat.le_of_ble_eq_true rfl, Nat.le_of_ble_eq_true rfl⟩ dL_law_446 (fun r2 u2 H locs f2 hP hD hS => ?_)
  rw [← f2] at e1 hRel
  replace hP := P_swap hP
  replace hD := D_swap hD
  refine lv_icmp_eq (tgt := 1575) hx hb dL_law_449 (by decide) (fun _ => ?_) (fun q => absurd e1 q)
  exact hc a u1 b u2 H locs ls hl hP hD hS hRel
set_option maxHeartbeats 4000000 in
set_option maxRecDepth 100000 in
theorem lc_home {Rel : Bd → Bd → Prop} {p : Program} {l : Launch} {e : Env} {s : State} {m : MethodId} {below : List Frame} {meth : Method} {c : Code} {D : va_G} {cy : Nat → ClassId} {sb L i : Nat} {xs : Nat → Int32} {QQ : State → Prop} (hx : p.tables.exec = Jvm.exec) (hb : c.code = code) (hml : c.maxLocals = 4) (hown : s.vm.findClass RL = some m.cls) (up : ∀ w ∈ LW, w.before #[Value.ref sb] s = true) (hG : GW D cy s) (hX : va_X sb L xs s s.heap) (hbl : sb < s.heap.size) (hi : i + 6 ≤ L) (hL : L ≤ 384) (hop : Op_home Rel) (hc : LCont Rel p l e s m below meth c D cy sb i QQ 1575) : LCont Rel p l e s m below meth c D cy sb i QQ 454 := by
  intro a X b Y H locs ls hl hP hD hS hRel
  have hA : ∀ q : Nat, s.heap.size ≤ q → LA s q := fun _ h => h
  have hbA : ¬ LA s sb := Nat.not_le.mpr hbl
  have v1 : vp_in (nI i + (1 : Int32)) L := by rw [show nI i + (1 : Int32) = nI (i + 1) from nI_add i 1]; exact vp_in_nI (by omega) (by omega)
  have v2 : vp_in (nI i + (2 : Int32)) L := by rw [show nI i + (2 : Int32) = nI (i + 2) from nI_add i 2]; exact vp_in_nI (by omega) (by omega)
  have v3 : vp_in (nI i + (3 : Int32)) L := by rw [show nI i + (3 : Int32) = nI (i + 3) from nI_add i 3]; exact vp_in_nI (by omega) (by omega)
  have v4 : vp_in (nI i + (4 : Int32)) L := by rw [show nI i + (4 : Int32) = nI (i + 4) from nI_add i 4]; exact vp_in_nI (by omega) (by omega)
  have v5 : vp_in (nI i + (5 : Int32)) L := by rw [show nI i + (5 : Int32) = nI (i + 5) from nI_add i 5]; exact vp_in_nI (by omega) (by omega)
  refine lv_aload_n hx hb dL_law_454 rfl (lv_at hl 1 rfl) ?_
  refine lv_aload_n hx hb dL_law_455 rfl (lv_at hl 0 rfl) ?_
  refine lv_iload_n hx hb dL_law_456 rfl (lv_at hl 3 rfl) ?_
  refine lv_iconst (v := 1) hx hb dL_law_457 (by decide) ?_
  refine lv_iadd hx hb dL_law_458 ?_
  refine va_sld hx hb hX hbl hbA hS v1 dL_law_459 ?_
  obtain ⟨ok1, ok2, e1, hRel⟩ := hop (xs ((nI i) + (1 : Int32)).toNatClampNeg) X Y a b hRel
  replace e1 : (nX_home a X (xs ((nI i) + (1 : Int32)).toNatClampNeg)).1 = (nY_home b Y (xs ((nI i) + (1 : Int32)).toNatClampNeg)).1 := e1
  replace hRel : Rel (nX_home a X (xs ((nI i) + (1 : Int32)).toNatClampNeg)).2 (nY_home b Y (xs ((nI i) + (1 : Int32)).toNatClampNeg)).2 := hRel
  refine cxI (As := [.int (xs ((nI i) + (1 : Int32)).toNatClampNeg)]) (rest := []) hx hb hml hown up hG hP hD hS hA k_L_52 (lnX_home (l := l) (D := D) (cy := cy) a X (xs ((nI i) + (1 : Int32)).toNatClampNeg) H.size ok1) ⟨Nat.le_of_ble_eq_true rfl, Nat.le_of_ble_eq_true rfl⟩ (ci := 11) rfl rfl rfl rfl hl.1 rfl (Nat.le_of_ble_eq_true rfl) ⟨Nat.le_of_ble_eq_true rfl, Nat.le_of_ble_eq_true rfl⟩ dL_law_460 (fun r1 u1 H locs f1 hP hD hS => ?_)
  rw [← f1] at e1 hRel
  replace hP := P_swap hP
  replace hD := D_swap hD
  refine lv_aload_n hx hb dL_law_463 rfl (lv_at hl 2 rfl) ?_
  refine lv_aload_n hx hb dL_law_464 rfl (lv_at hl 0 rfl) ?_
  refine lv_iload_n hx hb dL_law_465 rfl (lv_at hl 3 rfl) ?_
  refine lv_iconst (v := 1) hx hb dL_law_466 (by decide) ?_
  refine lv_iadd hx hb dL_law_467 ?_
  refine va_sld hx hb hX hbl hbA hS v1 dL_law_468 ?_
  refine cxI (As := [.int (xs ((nI i) + (1 : Int32)).toNatClampNeg)]) (rest := [.int r1]) hx hb hml hown up hG hP hD hS hA k_L_55 (lnY_home (l := l) (D := D) (cy := cy) b Y (xs ((nI i) + (1 : Int32)).toNatClampNeg) H.size ok2) ⟨Nat.le_of_ble_eq_true rfl, Nat.le_of_ble_eq_true rfl⟩ (ci := 12) rfl rfl rfl rfl hl.1 rfl (Nat.le_of_ble_eq_true rfl) ⟨Nat.le_of_ble_eq_true rfl, Nat.le_of_ble_eq_true rfl⟩ dL_law_469 (fun r2 u2 H locs f2 hP hD hS => ?_)
  rw [← f2] at e1 hRel
  replace hP := P_swap hP
  replace hD := D_swap hD
  refine lv_icmp_eq (tgt := 1575) hx hb dL_law_472 (by decide) (fun _ => ?_) (fun q => absurd e1 q)
  exact hc a u1 b u2 H locs ls hl hP hD hS hRel
set_option maxHeartbeats 4000000 in
set_option maxRecDepth 100000 in
theorem lc_own {Rel : Bd → Bd → Prop} {p : Program} {l : Launch} {e : Env} {s : State} {m : MethodId} {below : List Frame} {meth : Method} {c : Code} {D : va_G} {cy : Nat → ClassId} {sb L i : Nat} {xs : Nat → Int32} {QQ : State → Prop} (hx : p.tables.exec = Jvm.exec) (hb : c.code = code) (hml : c.maxLocals = 4) (hown : s.vm.findClass RL = some m.cls) (up : ∀ w ∈ LW, w.before #[Value.ref sb] s = true) (hG : GW D cy s) (hX : va_X sb L xs s s.heap) (hbl : sb < s.heap.size) (hi : i + 6 ≤ L) (hL : L ≤ 384) (hop : Op_own Rel) (hc : LCont Rel p l e s m below meth c D cy sb i QQ 1575) : LCont Rel p l e s m below meth c D cy sb i QQ 477 := by
  intro a X b Y H locs ls hl hP hD hS hRel
  have hA : ∀ q : Nat, s.heap.size ≤ q → LA s q := fun _ h => h
  have hbA : ¬ LA s sb := Nat.not_le.mpr hbl
  have v1 : vp_in (nI i + (1 : Int32)) L := by rw [show nI i + (1 : Int32) = nI (i + 1) from nI_add i 1]; exact vp_in_nI (by omega) (by omega)
  have v2 : vp_in (nI i + (2 : Int32)) L := by rw [show nI i + (2 : Int32) = nI (i + 2) from nI_add i 2]; exact vp_in_nI (by omega) (by omega)
  have v3 : vp_in (nI i + (3 : Int32)) L := by rw [show nI i + (3 : Int32) = nI (i + 3) from nI_add i 3]; exact vp_in_nI (by omega) (by omega)
  have v4 : vp_in (nI i + (4 : Int32)) L := by rw [show nI i + (4 : Int32) = nI (i + 4) from nI_add i 4]; exact vp_in_nI (by omega) (by omega)
  have v5 : vp_in (nI i + (5 : Int32)) L := by rw [show nI i + (5 : Int32) = nI (i + 5) from nI_add i 5]; exact vp_in_nI (by omega) (by omega)
  refine lv_aload_n hx hb dL_law_477 rfl (lv_at hl 1 rfl) ?_
  refine lv_aload_n hx hb dL_law_478 rfl (lv_at hl 0 rfl) ?_
  refine lv_iload_n hx hb dL_law_479 rfl (lv_at hl 3 rfl) ?_
  refine lv_iconst (v := 1) hx hb dL_law_480 (by decide) ?_
  refine lv_iadd hx hb dL_law_481 ?_
  refine va_sld hx hb hX hbl hbA hS v1 dL_law_482 ?_
  obtain ⟨ok1, ok2, e1, hRel⟩ := hop (xs ((nI i) + (1 : Int32)).toNatClampNeg) X Y a b hRel
  replace e1 : (nX_own a X (xs ((nI i) + (1 : Int32)).toNatClampNeg)).1 = (nY_own b Y (xs ((nI i) + (1 : Int32)).toNatClampNeg)).1 := e1
  replace hRel : Rel (nX_own a X (xs ((nI i) + (1 : Int32)).toNatClampNeg)).2 (nY_own b Y (xs ((nI i) + (1 : Int32)).toNatClampNeg)).2 := hRel
  refine cxI (As := [.int (xs ((nI i) + (1 : Int32)).toNatClampNeg)]) (rest := []) hx hb hml hown up hG hP hD hS hA k_L_56 (lnX_own (l := l) (D := D) (cy := cy) a X (xs ((nI i) + (1 : Int32)).toNatClampNeg) H.size) ⟨Nat.le_of_ble_eq_true rfl, Nat.le_of_ble_eq_true rfl⟩ (ci := 11) rfl rfl rfl rfl hl.1 rfl (Nat.le_of_ble_eq_true rfl) ⟨Nat.le_of_ble_eq_true rfl, Nat.le_of_ble_eq_true rfl⟩ dL_law_483 (fun r1 u1 H locs f1 hP hD hS => ?_)
  rw [← f1] at e1 hRel
  replace hP := P_swap hP
  replace hD := D_swap hD
  refine lv_aload_n hx hb dL_law_486 rfl (lv_at hl 2 rfl) ?_
  refine lv_aload_n hx hb dL_law_487 rfl (lv_at hl 0 rfl) ?_
  refine lv_iload_n hx hb dL_law_488 rfl (lv_at hl 3 rfl) ?_
  refine lv_iconst (v := 1) hx hb dL_law_489 (by decide) ?_
  refine lv_iadd hx hb dL_law_490 ?_
  refine va_sld hx hb hX hbl hbA hS v1 dL_law_491 ?_
  refine cxI (As := [.int (xs ((nI i) + (1 : Int32)).toNatClampNeg)]) (rest := [.int r1]) hx hb hml hown up hG hP hD hS hA k_L_59 (lnY_own (l := l) (D := D) (cy := cy) b Y (xs ((nI i) + (1 : Int32)).toNatClampNeg) H.size) ⟨Nat.le_of_ble_eq_true rfl, Nat.le_of_ble_eq_true rfl⟩ (ci := 12) rfl rfl rfl rfl hl.1 rfl (Nat.le_of_ble_eq_true rfl) ⟨Nat.le_of_ble_eq_true rfl, Nat.le_of_ble_eq_true rfl⟩ dL_law_492 (fun r2 u2 H locs f2 hP hD hS => ?_)
  rw [← f2] at e1 hRel
  replace hP := P_swap hP
  replace hD := D_swap hD
  refine lv_icmp_eq (tgt := 1575) hx hb dL_law_495 (by decide) (fun _ => ?_) (fun q => absurd e1 q)
  exact hc a u1 b u2 H locs ls hl hP hD hS hRel
set_option maxHeartbeats 4000000 in
set_option maxRecDepth 100000 in
theorem lc_hour {Rel : Bd → Bd → Prop} {p : Program} {l : Launch} {e : Env} {s : State} {m : MethodId} {below : List Frame} {meth : Method} {c : Code} {D : va_G} {cy : Nat → ClassId} {sb L i : Nat} {xs : Nat → Int32} {QQ : State → Prop} (hx : p.tables.exec = Jvm.exec) (hb : c.code = code) (hml : c.maxLocals = 4) (hown : s.vm.findClass RL = some m.cls) (up : ∀ w ∈ LW, w.before #[Value.ref sb] s = true) (hG : GW D cy s) (hX : va_X sb L xs s s.heap) (hbl : sb < s.heap.size) (hi : i + 6 ≤ L) (hL : L ≤ 384) (hop : Op_hour Rel) (hc : LCont Rel p l e s m below meth c D cy sb i QQ 1575) : LCont Rel p l e s m below meth c D cy sb i QQ 500 := by
  intro a X b Y H locs ls hl hP hD hS hRel
  have hA : ∀ q : Nat, s.heap.size ≤ q → LA s q := fun _ h => h
  have hbA : ¬ LA s sb := Nat.not_le.mpr hbl
  have v1 : vp_in (nI i + (1 : Int32)) L := by rw [show nI i + (1 : Int32) = nI (i + 1) from nI_add i 1]; exact vp_in_nI (by omega) (by omega)
  have v2 : vp_in (nI i + (2 : Int32)) L := by rw [show nI i + (2 : Int32) = nI (i + 2) from nI_add i 2]; exact vp_in_nI (by omega) (by omega)
  have v3 : vp_in (nI i + (3 : Int32)) L := by rw [show nI i + (3 : Int32) = nI (i + 3) from nI_add i 3]; exact vp_in_nI (by omega) (by omega)
  have v4 : vp_in (nI i + (4 : Int32)) L := by rw [show nI i + (4 : Int32) = nI (i + 4) from nI_add i 4]; exact vp_in_nI (by omega) (by omega)
  have v5 : vp_in (nI i + (5 : Int32)) L := by rw [show nI i + (5 : Int32) = nI (i + 5) from nI_add i 5]; exact vp_in_nI (by omega) (by omega)
  refine lv_aload_n hx hb dL_law_500 rfl (lv_at hl 1 rfl) ?_
  refine lv_aload_n hx hb dL_law_501 rfl (lv_at hl 0 rfl) ?_
  refine lv_iload_n hx hb dL_law_502 rfl (lv_at hl 3 rfl) ?_
  refine lv_iconst (v := 1) hx hb dL_law_503 (by decide) ?_
  refine lv_iadd hx hb dL_law_504 ?_
  refine va_sld hx hb hX hbl hbA hS v1 dL_law_505 ?_
  obtain ⟨ok1, ok2, e1, hRel⟩ := hop (xs ((nI i) + (1 : Int32)).toNatClampNeg) X Y a b hRel
  replace e1 : (nX_hour a X (xs ((nI i) + (1 : Int32)).toNatClampNeg)).1 = (nY_hour b Y (xs ((nI i) + (1 : Int32)).toNatClampNeg)).1 := e1
  replace hRel : Rel (nX_hour a X (xs ((nI i) + (1 : Int32)).toNatClampNeg)).2 (nY_hour b Y (xs ((nI i) + (1 : Int32)).toNatClampNeg)).2 := hRel
  refine cxI (As := [.int (xs ((nI i) + (1 : Int32)).toNatClampNeg)]) (rest := []) hx hb hml hown up hG hP hD hS hA k_L_60 (lnX_hour (l := l) (D := D) (cy := cy) a X (xs ((nI i) + (1 : Int32)).toNatClampNeg) H.size ok1) ⟨Nat.le_of_ble_eq_true rfl, Nat.le_of_ble_eq_true rfl⟩ (ci := 11) rfl rfl rfl rfl hl.1 rfl (Nat.le_of_ble_eq_true rfl) ⟨Nat.le_of_ble_eq_true rfl, Nat.le_of_ble_eq_true rfl⟩ dL_law_506 (fun r1 u1 H locs f1 hP hD hS => ?_)
  rw [← f1] at e1 hRel
  replace hP := P_swap hP
  replace hD := D_swap hD
  refine lv_aload_n hx hb dL_law_509 rfl (lv_at hl 2 rfl) ?_
  refine lv_aload_n hx hb dL_law_510 rfl (lv_at hl 0 rfl) ?_
  refine lv_iload_n hx hb dL_law_511 rfl (lv_at hl 3 rfl) ?_
  refine lv_iconst (v := 1) hx hb dL_law_512 (by decide) ?_
  refine lv_iadd hx hb dL_law_513 ?_
  refine va_sld hx hb hX hbl hbA hS v1 dL_law_514 ?_
  refine cxI (As := [.int (xs ((nI i) + (1 : Int32)).toNatClampNeg)]) (rest := [.int r1]) hx hb hml hown up hG hP hD hS hA k_L_63 (lnY_hour (l := l) (D := D) (cy := cy) b Y (xs ((nI i) + (1 : Int32)).toNatClampNeg) H.size ok2) ⟨Nat.le_of_ble_eq_true rfl, Nat.le_of_ble_eq_true rfl⟩ (ci := 12) rfl rfl rfl rfl hl.1 rfl (Nat.le_of_ble_eq_true rfl) ⟨Nat.le_of_ble_eq_true rfl, Nat.le_of_ble_eq_true rfl⟩ dL_law_515 (fun r2 u2 H locs f2 hP hD hS => ?_)
  rw [← f2] at e1 hRel
  replace hP := P_swap hP
  replace hD := D_swap hD
  refine lv_icmp_eq (tgt := 1575) hx hb dL_law_518 (by decide) (fun _ => ?_) (fun q => absurd e1 q)
  exact hc a u1 b u2 H locs ls hl hP hD hS hRel
set_option maxHeartbeats 4000000 in
set_option maxRecDepth 100000 in
theorem lc_where {Rel : Bd → Bd → Prop} {p : Program} {l : Launch} {e : Env} {s : State} {m : MethodId} {below : List Frame} {meth : Method} {c : Code} {D : va_G} {cy : Nat → ClassId} {sb L i : Nat} {xs : Nat → Int32} {QQ : State → Prop} (hx : p.tables.exec = Jvm.exec) (hb : c.code = code) (hml : c.maxLocals = 4) (hown : s.vm.findClass RL = some m.cls) (up : ∀ w ∈ LW, w.before #[Value.ref sb] s = true) (hG : GW D cy s) (hX : va_X sb L xs s s.heap) (hbl : sb < s.heap.size) (hi : i + 6 ≤ L) (hL : L ≤ 384) (hop : Op_where Rel) (hc : LCont Rel p l e s m below meth c D cy sb i QQ 1575) : LCont Rel p l e s m below meth c D cy sb i QQ 523 := by
  intro a X b Y H locs ls hl hP hD hS hRel
  have hA : ∀ q : Nat, s.heap.size ≤ q → LA s q := fun _ h => h
  have hbA : ¬ LA s sb := Nat.not_le.mpr hbl
  have v1 : vp_in (nI i + (1 : Int32)) L := by rw [show nI i + (1 : Int32) = nI (i + 1) from nI_add i 1]; exact vp_in_nI (by omega) (by omega)
  have v2 : vp_in (nI i + (2 : Int32)) L := by rw [show nI i + (2 : Int32) = nI (i + 2) from nI_add i 2]; exact vp_in_nI (by omega) (by omega)
  have v3 : vp_in (nI i + (3 : Int32)) L := by rw [show nI i + (3 : Int32) = nI (i + 3) from nI_add i 3]; exact vp_in_nI (by omega) (by omega)
  have v4 : vp_in (nI i + (4 : Int32)) L := by rw [show nI i + (4 : Int32) = nI (i + 4) from nI_add i 4]; exact vp_in_nI (by omega) (by omega)
  have v5 : vp_in (nI i + (5 : Int32)) L := by rw [show nI i + (5 : Int32) = nI (i + 5) from nI_add i 5]; exact vp_in_nI (by omega) (by omega)
  refine lv_aload_n hx hb dL_law_523 rfl (lv_at hl 1 rfl) ?_
  obtain ⟨ok1, ok2, e1, hRel⟩ := hop X Y a b hRel
  replace e1 : (nX_where a X).1 = (nY_where b Y).1 := e1
  replace hRel : Rel (nX_where a X).2 (nY_where b Y).2 := hRel
  refine cxI (As := []) (rest := []) hx hb hml hown up hG hP hD hS hA k_L_64 (lnX_where (l := l) (D := D) (cy := cy) a X H.size) ⟨Nat.le_of_ble_eq_true rfl, Nat.le_of_ble_eq_true rfl⟩ (ci := 11) rfl rfl rfl rfl hl.1 rfl (Nat.le_of_ble_eq_true rfl) ⟨Nat.le_of_ble_eq_true rfl, Nat.le_of_ble_eq_true rfl⟩ dL_law_524 (fun r1 u1 H locs f1 hP hD hS => ?_)
  rw [← f1] at e1 hRel
  replace hP := P_swap hP
  replace hD := D_swap hD
  refine lv_aload_n hx hb dL_law_527 rfl (lv_at hl 2 rfl) ?_
  refine cxI (As := []) (rest := [.int r1]) hx hb hml hown up hG hP hD hS hA k_L_67 (lnY_where (l := l) (D := D) (cy := cy) b Y H.size ok2) ⟨Nat.le_of_ble_eq_true rfl, Nat.le_of_ble_eq_true rfl⟩ (ci := 12) rfl rfl rfl rfl hl.1 rfl (Nat.le_of_ble_eq_true rfl) ⟨Nat.le_of_ble_eq_true rfl, Nat.le_of_ble_eq_true rfl⟩ dL_law_528 (fun r2 u2 H locs f2 hP hD hS => ?_)
  rw [← f2] at e1 hRel
  replace hP := P_swap hP
  replace hD := D_swap hD
  refine lv_icmp_eq (tgt := 1575) hx hb dL_law_531 (by decide) (fun _ => ?_) (fun q => absurd e1 q)
  exact hc a u1 b u2 H locs ls hl hP hD hS hRel
set_option maxHeartbeats 4000000 in
set_option maxRecDepth 100000 in
theorem lc_bring {Rel : Bd → Bd → Prop} {p : Program} {l : Launch} {e : Env} {s : State} {m : MethodId} {below : List Frame} {meth : Method} {c : Code} {D : va_G} {cy : Nat → ClassId} {sb L i : Nat} {xs : Nat → Int32} {QQ : State → Prop} (hx : p.tables.exec = Jvm.exec) (hb : c.code = code) (hml : c.maxLocals = 4) (hown : s.vm.findClass RL = some m.cls) (up : ∀ w ∈ LW, w.before #[Value.ref sb] s = true) (hG : GW D cy s) (hX : va_X sb L xs s s.heap) (hbl : sb < s.heap.size) (hi : i + 6 ≤ L) (hL : L ≤ 384) (hop : Op_bring Rel) (hc : LCont Rel p l e s m below meth c D cy sb i QQ 1575) : LCont Rel p l e s m below meth c D cy sb i QQ 536 := by
  intro a X b Y H locs ls hl hP hD hS hRel
  have hA : ∀ q : Nat, s.heap.size ≤ q → LA s q := fun _ h => h
  have hbA : ¬ LA s sb := Nat.not_le.mpr hbl
  have v1 : vp_in (nI i + (1 : Int32)) L := by rw [show nI i + (1 : Int32) = nI (i + 1) from nI_add i 1]; exact vp_in_nI (by omega) (by omega)
  have v2 : vp_in (nI i + (2 : Int32)) L := by rw [show nI i + (2 : Int32) = nI (i + 2) from nI_add i 2]; exact vp_in_nI (by omega) (by omega)
  have v3 : vp_in (nI i + (3 : Int32)) L := by rw [show nI i + (3 : Int32) = nI (i + 3) from nI_add i 3]; exact vp_in_nI (by omega) (by omega)
  have v4 : vp_in (nI i + (4 : Int32)) L := by rw [show nI i + (4 : Int32) = nI (i + 4) from nI_add i 4]; exact vp_in_nI (by omega) (by omega)
  have v5 : vp_in (nI i + (5 : Int32)) L := by rw [show nI i + (5 : Int32) = nI (i + 5) from nI_add i 5]; exact vp_in_nI (by omega) (by omega)
  refine lv_aload_n hx hb dL_law_536 rfl (lv_at hl 1 rfl) ?_
  refine lv_aload_n hx hb dL_law_537 rfl (lv_at hl 0 rfl) ?_
  refine lv_iload_n hx hb dL_law_538 rfl (lv_at hl 3 rfl) ?_
  refine lv_iconst (v := 1) hx hb dL_law_539 (by decide) ?_
  refine lv_iadd hx hb dL_law_540 ?_
  refine va_sld hx hb hX hbl hbA hS v1 dL_law_541 ?_
  obtain ⟨ok1, ok2, e1, hRel⟩ := hop (xs ((nI i) + (1 : Int32)).toNatClampNeg) X Y a b hRel
  replace e1 : (nX_bring a X (xs ((nI i) + (1 : Int32)).toNatClampNeg)).1 = (nY_bring b Y (xs ((nI i) + (1 : Int32)).toNatClampNeg)).1 := e1
  replace hRel : Rel (nX_bring a X (xs ((nI i) + (1 : Int32)).toNatClampNeg)).2 (nY_bring b Y (xs ((nI i) + (1 : Int32)).toNatClampNeg)).2 := hRel
  refine cxI (As := [.int (xs ((nI i) + (1 : Int32)).toNatClampNeg)]) (rest := []) hx hb hml hown up hG hP hD hS hA k_L_68 (lnX_bring (l := l) (D := D) (cy := cy) a X (xs ((nI i) + (1 : Int32)).toNatClampNeg) H.size) ⟨Nat.le_of_ble_eq_true rfl, Nat.le_of_ble_eq_true rfl⟩ (ci := 11) rfl rfl rfl rfl hl.1 rfl (Nat.le_of_ble_eq_true rfl) ⟨Nat.le_of_ble_eq_true rfl, Nat.le_of_ble_eq_true rfl⟩ dL_law_542 (fun r1 u1 H locs f1 hP hD hS => ?_)
  rw [← f1] at e1 hRel
  replace hP := P_swap hP
  replace hD := D_swap hD
  refine lv_aload_n hx hb dL_law_545 rfl (lv_at hl 2 rfl) ?_
  refine lv_aload_n hx hb dL_law_546 rfl (lv_at hl 0 rfl) ?_
  refine lv_iload_n hx hb dL_law_547 rfl (lv_at hl 3 rfl) ?_
  refine lv_iconst (v := 1) hx hb dL_law_548 (by decide) ?_
  refine lv_iadd hx hb dL_law_549 ?_
  refine va_sld hx hb hX hbl hbA hS v1 dL_law_550 ?_
  refine cxI (As := [.int (xs ((nI i) + (1 : Int32)).toNatClampNeg)]) (rest := [.int r1]) hx hb hml hown up hG hP hD hS hA k_L_71 (lnY_bring (l := l) (D := D) (cy := cy) b Y (xs ((nI i) + (1 : Int32)).toNatClampNeg) H.size ok2) ⟨Nat.le_of_ble_eq_true rfl, Nat.le_of_ble_eq_true rfl⟩ (ci := 12) rfl rfl rfl rfl hl.1 rfl (Nat.le_of_ble_eq_true rfl) ⟨Nat.le_of_ble_eq_true rfl, Nat.le_of_ble_eq_true rfl⟩ dL_law_551 (fun r2 u2 H locs f2 hP hD hS => ?_)
  rw [← f2] at e1 hRel
  replace hP := P_swap hP
  replace hD := D_swap hD
  refine lv_icmp_eq (tgt := 1575) hx hb dL_law_554 (by decide) (fun _ => ?_) (fun q => absurd e1 q)
  exact hc a u1 b u2 H locs ls hl hP hD hS hRel
set_option maxHeartbeats 4000000 in
set_option maxRecDepth 100000 in
theorem lc_live {Rel : Bd → Bd → Prop} {p : Program} {l : Launch} {e : Env} {s : State} {m : MethodId} {below : List Frame} {meth : Method} {c : Code} {D : va_G} {cy : Nat → ClassId} {sb L i : Nat} {xs : Nat → Int32} {QQ : State → Prop} (hx : p.tables.exec = Jvm.exec) (hb : c.code = code) (hml : c.maxLocals = 4) (hown : s.vm.findClass RL = some m.cls) (up : ∀ w ∈ LW, w.before #[Value.ref sb] s = true) (hG : GW D cy s) (hX : va_X sb L xs s s.heap) (hbl : sb < s.heap.size) (hi : i + 6 ≤ L) (hL : L ≤ 384) (hop : Op_live Rel) (hc : LCont Rel p l e s m below meth c D cy sb i QQ 1575) : LCont Rel p l e s m below meth c D cy sb i QQ 559 := by
  intro a X b Y H locs ls hl hP hD hS hRel
  have hA : ∀ q : Nat, s.heap.size ≤ q → LA s q := fun _ h => h
  have hbA : ¬ LA s sb := Nat.not_le.mpr hbl
  have v1 : vp_in (nI i + (1 : Int32)) L := by rw [show nI i + (1 : Int32) = nI (i + 1) from nI_add i 1]; exact vp_in_nI (by omega) (by omega)
  have v2 : vp_in (nI i + (2 : Int32)) L := by rw [show nI i + (2 : Int32) = nI (i + 2) from nI_add i 2]; exact vp_in_nI (by omega) (by omega)
  have v3 : vp_in (nI i + (3 : Int32)) L := by rw [show nI i + (3 : Int32) = nI (i + 3) from nI_add i 3]; exact vp_in_nI (by omega) (by omega)
  have v4 : vp_in (nI i + (4 : Int32)) L := by rw [show nI i + (4 : Int32) = nI (i + 4) from nI_add i 4]; exact vp_in_nI (by omega) (by omega)
  have v5 : vp_in (nI i + (5 : Int32)) L := by rw [show nI i + (5 : Int32) = nI (i + 5) from nI_add i 5]; exact vp_in_nI (by omega) (by omega)
  refine lv_aload_n hx hb dL_law_559 rfl (lv_at hl 1 rfl) ?_
  refine lv_aload_n hx hb dL_law_560 rfl (lv_at hl 0 rfl) ?_
  refine lv_iload_n hx hb dL_law_561 rfl (lv_at hl 3 rfl) ?_
  refine lv_iconst (v := 1) hx hb dL_law_562 (by decide) ?_
  refine lv_iadd hx hb dL_law_563 ?_
  refine va_sld hx hb hX hbl hbA hS v1 dL_law_564 ?_
  obtain ⟨ok1, ok2, e1, hRel⟩ := hop (xs ((nI i) + (1 : Int32)).toNatClampNeg) X Y a b hRel
  replace e1 : (nX_live a X (xs ((nI i) + (1 : Int32)).toNatClampNeg)).1 = (nY_live b Y (xs ((nI i) + (1 : Int32)).toNatClampNeg)).1 := e1
  replace hRel : Rel (nX_live a X (xs ((nI i) + (1 : Int32)).toNatClampNeg)).2 (nY_live b Y (xs ((nI i) + (1 : Int32)).toNatClampNeg)).2 := hRel
  refine cxI (As := [.int (xs ((nI i) + (1 : Int32)).toNatClampNeg)]) (rest := []) hx hb hml hown up hG hP hD hS hA k_L_72 (lnX_live (l := l) (D := D) (cy := cy) a X (xs ((nI i) + (1 : Int32)).toNatClampNeg) H.size) ⟨Nat.le_of_ble_eq_true rfl, Nat.le_of_ble_eq_true rfl⟩ (ci := 11) rfl rfl rfl rfl hl.1 rfl (Nat.le_of_ble_eq_true rfl) ⟨Nat.le_of_ble_eq_true rfl, Nat.le_of_ble_eq_true rfl⟩ dL_law_565 (fun r1 u1 H locs f1 hP hD hS => ?_)
  rw [← f1] at e1 hRel
  replace hP := P_swap hP
  replace hD := D_swap hD
  refine lv_aload_n hx hb dL_law_568 rfl (lv_at hl 2 rfl) ?_
  refine lv_aload_n hx hb dL_law_569 rfl (lv_at hl 0 rfl) ?_
  refine lv_iload_n hx hb dL_law_570 rfl (lv_at hl 3 rfl) ?_
  refine lv_iconst (v := 1) hx hb dL_law_571 (by decide) ?_
  refine lv_iadd hx hb dL_law_572 ?_
  refine va_sld hx hb hX hbl hbA hS v1 dL_law_573 ?_
  refine cxI (As := [.int (xs ((nI i) + (1 : Int32)).toNatClampNeg)]) (rest := [.int r1]) hx hb hml hown up hG hP hD hS hA k_L_75 (lnY_live (l := l) (D := D) (cy := cy) b Y (xs ((nI i) + (1 : Int32)).toNatClampNeg) H.size ok2) ⟨Nat.le_of_ble_eq_true rfl, Nat.le_of_ble_eq_true rfl⟩ (ci := 12) rfl rfl rfl rfl hl.1 rfl (Nat.le_of_ble_eq_true rfl) ⟨Nat.le_of_ble_eq_true rfl, Nat.le_of_ble_eq_true rfl⟩ dL_law_574 (fun r2 u2 H locs f2 hP hD hS => ?_)
  rw [← f2] at e1 hRel
  replace hP := P_swap hP
  replace hD := D_swap hD
  refine lv_icmp_eq (tgt := 1575) hx hb dL_law_577 (by decide) (fun _ => ?_) (fun q => absurd e1 q)
  exact hc a u1 b u2 H locs ls hl hP hD hS hRel
set_option maxHeartbeats 4000000 in
set_option maxRecDepth 100000 in
theorem lc_keep {Rel : Bd → Bd → Prop} {p : Program} {l : Launch} {e : Env} {s : State} {m : MethodId} {below : List Frame} {meth : Method} {c : Code} {D : va_G} {cy : Nat → ClassId} {sb L i : Nat} {xs : Nat → Int32} {QQ : State → Prop} (hx : p.tables.exec = Jvm.exec) (hb : c.code = code) (hml : c.maxLocals = 4) (hown : s.vm.findClass RL = some m.cls) (up : ∀ w ∈ LW, w.before #[Value.ref sb] s = true) (hG : GW D cy s) (hX : va_X sb L xs s s.heap) (hbl : sb < s.heap.size) (hi : i + 6 ≤ L) (hL : L ≤ 384) (hop : Op_keep Rel) (hc : LCont Rel p l e s m below meth c D cy sb i QQ 1575) : LCont Rel p l e s m below meth c D cy sb i QQ 582 := by
  intro a X b Y H locs ls hl hP hD hS hRel
  have hA : ∀ q : Nat, s.heap.size ≤ q → LA s q := fun _ h => h
  have hbA : ¬ LA s sb := Nat.not_le.mpr hbl
  have v1 : vp_in (nI i + (1 : Int32)) L := by rw [show nI i + (1 : Int32) = nI (i + 1) from nI_add i 1]; exact vp_in_nI (by omega) (by omega)
  have v2 : vp_in (nI i + (2 : Int32)) L := by rw [show nI i + (2 : Int32) = nI (i + 2) from nI_add i 2]; exact vp_in_nI (by omega) (by omega)
  have v3 : vp_in (nI i + (3 : Int32)) L := by rw [show nI i + (3 : Int32) = nI (i + 3) from nI_add i 3]; exact vp_in_nI (by omega) (by omega)
  have v4 : vp_in (nI i + (4 : Int32)) L := by rw [show nI i + (4 : Int32) = nI (i + 4) from nI_add i 4]; exact vp_in_nI (by omega) (by omega)
  have v5 : vp_in (nI i + (5 : Int32)) L := by rw [show nI i + (5 : Int32) = nI (i + 5) from nI_add i 5]; exact vp_in_nI (by omega) (by omega)
  refine lv_aload_n hx hb dL_law_582 rfl (lv_at hl 1 rfl) ?_
  refine lv_aload_n hx hb dL_law_583 rfl (lv_at hl 0 rfl) ?_
  refine lv_iload_n hx hb dL_law_584 rfl (lv_at hl 3 rfl) ?_
  refine lv_iconst (v := 1) hx hb dL_law_585 (by decide) ?_
  refine lv_iadd hx hb dL_law_586 ?_
  refine va_sld hx hb hX hbl hbA hS v1 dL_law_587 ?_
  obtain ⟨ok1, ok2, e1, hRel⟩ := hop (xs ((nI i) + (1 : Int32)).toNatClampNeg) X Y a b hRel
  replace e1 : (nX_keep a X (xs ((nI i) + (1 : Int32)).toNatClampNeg)).1 = (nY_keep b Y (xs ((nI i) + (1 : Int32)).toNatClampNeg)).1 := e1
  replace hRel : Rel (nX_keep a X (xs ((nI i) + (1 : Int32)).toNatClampNeg)).2 (nY_keep b Y (xs ((nI i) + (1 : Int32)).toNatClampNeg)).2 := hRel
  refine cxI (As := [.int (xs ((nI i) + (1 : Int32)).toNatClampNeg)]) (rest := []) hx hb hml hown up hG hP hD hS hA k_L_76 (lnX_keep (l := l) (D := D) (cy := cy) a X (xs ((nI i) + (1 : Int32)).toNatClampNeg) H.size ok1) ⟨Nat.le_of_ble_eq_true rfl, Nat.le_of_ble_eq_true rfl⟩ (ci := 11) rfl rfl rfl rfl hl.1 rfl (Nat.le_of_ble_eq_true rfl) ⟨Nat.le_of_ble_eq_true rfl, Nat.le_of_ble_eq_true rfl⟩ dL_law_588 (fun r1 u1 H locs f1 hP hD hS => ?_)
  rw [← f1] at e1 hRel
  replace hP := P_swap hP
  replace hD := D_swap hD
  refine lv_aload_n hx hb dL_law_591 rfl (lv_at hl 2 rfl) ?_
  refine lv_aload_n hx hb dL_law_592 rfl (lv_at hl 0 rfl) ?_
  refine lv_iload_n hx hb dL_law_593 rfl (lv_at hl 3 rfl) ?_
  refine lv_iconst (v := 1) hx hb dL_law_594 (by decide) ?_
  refine lv_iadd hx hb dL_law_595 ?_
  refine va_sld hx hb hX hbl hbA hS v1 dL_law_596 ?_
  refine cxI (As := [.int (xs ((nI i) + (1 : Int32)).toNatClampNeg)]) (rest := [.int r1]) hx hb hml hown up hG hP hD hS hA k_L_79 (lnY_keep (l := l) (D := D) (cy := cy) b Y (xs ((nI i) + (1 : Int32)).toNatClampNeg) H.size ok2) ⟨Nat.le_of_ble_eq_true rfl, Nat.le_of_ble_eq_true rfl⟩ (ci := 12) rfl rfl rfl rfl hl.1 rfl (Nat.le_of_ble_eq_true rfl) ⟨Nat.le_of_ble_eq_true rfl, Nat.le_of_ble_eq_true rfl⟩ dL_law_597 (fun r2 u2 H locs f2 hP hD hS => ?_)
  rw [← f2] at e1 hRel
  replace hP := P_swap hP
  replace hD := D_swap hD
  refine lv_icmp_eq (tgt := 1575) hx hb dL_law_600 (by decide) (fun _ => ?_) (fun q => absurd e1 q)
  exact hc a u1 b u2 H locs ls hl hP hD hS hRel
set_option maxHeartbeats 4000000 in
set_option maxRecDepth 100000 in
theorem lc_again {Rel : Bd → Bd → Prop} {p : Program} {l : Launch} {e : Env} {s : State} {m : MethodId} {below : List Frame} {meth : Method} {c : Code} {D : va_G} {cy : Nat → ClassId} {sb L i : Nat} {xs : Nat → Int32} {QQ : State → Prop} (hx : p.tables.exec = Jvm.exec) (hb : c.code = code) (hml : c.maxLocals = 4) (hown : s.vm.findClass RL = some m.cls) (up : ∀ w ∈ LW, w.before #[Value.ref sb] s = true) (hG : GW D cy s) (hX : va_X sb L xs s s.heap) (hbl : sb < s.heap.size) (hi : i + 6 ≤ L) (hL : L ≤ 384) (hop : Op_again Rel) (hc : LCont Rel p l e s m below meth c D cy sb i QQ 1575) : LCont Rel p l e s m below meth c D cy sb i QQ 605 := by
  intro a X b Y H locs ls hl hP hD hS hRel
  have hA : ∀ q : Nat, s.heap.size ≤ q → LA s q := fun _ h => h
  have hbA : ¬ LA s sb := Nat.not_le.mpr hbl
  have v1 : vp_in (nI i + (1 : Int32)) L := by rw [show nI i + (1 : Int32) = nI (i + 1) from nI_add i 1]; exact vp_in_nI (by omega) (by omega)
  have v2 : vp_in (nI i + (2 : Int32)) L := by rw [show nI i + (2 : Int32) = nI (i + 2) from nI_add i 2]; exact vp_in_nI (by omega) (by omega)
  have v3 : vp_in (nI i + (3 : Int32)) L := by rw [show nI i + (3 : Int32) = nI (i + 3) from nI_add i 3]; exact vp_in_nI (by omega) (by omega)
  have v4 : vp_in (nI i + (4 : Int32)) L := by rw [show nI i + (4 : Int32) = nI (i + 4) from nI_add i 4]; exact vp_in_nI (by omega) (by omega)
  have v5 : vp_in (nI i + (5 : Int32)) L := by rw [show nI i + (5 : Int32) = nI (i + 5) from nI_add i 5]; exact vp_in_nI (by omega) (by omega)
  refine lv_aload_n hx hb dL_law_605 rfl (lv_at hl 1 rfl) ?_
  refine lv_aload_n hx hb dL_law_606 rfl (lv_at hl 0 rfl) ?_
  refine lv_iload_n hx hb dL_law_607 rfl (lv_at hl 3 rfl) ?_
  refine lv_iconst (v := 1) hx hb dL_law_608 (by decide) ?_
  refine lv_iadd hx hb dL_law_609 ?_
  refine va_sld hx hb hX hbl hbA hS v1 dL_law_610 ?_
  obtain ⟨ok1, ok2, e1, hRel⟩ := hop (xs ((nI i) + (1 : Int32)).toNatClampNeg) X Y a b hRel
  replace e1 : (nX_again a X (xs ((nI i) + (1 : Int32)).toNatClampNeg)).1 = (nY_again b Y (xs ((nI i) + (1 : Int32)).toNatClampNeg)).1 := e1
  replace hRel : Rel (nX_again a X (xs ((nI i) + (1 : Int32)).toNatClampNeg)).2 (nY_again b Y (xs ((nI i) + (1 : Int32)).toNatClampNeg)).2 := hRel
  refine cxI (As := [.int (xs ((nI i) + (1 : Int32)).toNatClampNeg)]) (rest := []) hx hb hml hown up hG hP hD hS hA k_L_80 (lnX_again (l := l) (D := D) (cy := cy) a X (xs ((nI i) + (1 : Int32)).toNatClampNeg) H.size ok1) ⟨Nat.le_of_ble_eq_true rfl, Nat.le_of_ble_eq_true rfl⟩ (ci := 11) rfl rfl rfl rfl hl.1 rfl (Nat.le_of_ble_eq_true rfl) ⟨Nat.le_of_ble_eq_true rfl, Nat.le_of_ble_eq_true rfl⟩ dL_law_611 (fun r1 u1 H locs f1 hP hD hS => ?_)
  rw [← f1] at e1 hRel
  replace hP := P_swap hP
  replace hD := D_swap hD
  refine lv_aload_n hx hb dL_law_614 rfl (lv_at hl 2 rfl) ?_
  refine lv_aload_n hx hb dL_law_615 rfl (lv_at hl 0 rfl) ?_
  refine lv_iload_n hx hb dL_law_616 rfl (lv_at hl 3 rfl) ?_
  refine lv_iconst (v := 1) hx hb dL_law_617 (by decide) ?_
  refine lv_iadd hx hb dL_law_618 ?_
  refine va_sld hx hb hX hbl hbA hS v1 dL_law_619 ?_
  refine cxI (As := [.int (xs ((nI i) + (1 : Int32)).toNatClampNeg)]) (rest := [.int r1]) hx hb hml hown up hG hP hD hS hA k_L_83 (lnY_again (l := l) (D := D) (cy := cy) b Y (xs ((nI i) + (1 : Int32)).toNatClampNeg) H.size ok2) ⟨Nat.le_of_ble_eq_true rfl, Nat.le_of_ble_eq_true rfl⟩ (ci := 12) rfl rfl rfl rfl hl.1 rfl (Nat.le_of_ble_eq_true rfl) ⟨Nat.le_of_ble_eq_true rfl, Nat.le_of_ble_eq_true rfl⟩ dL_law_620 (fun r2 u2 H locs f2 hP hD hS => ?_)
  rw [← f2] at e1 hRel
  replace hP := P_swap hP
  replace hD := D_swap hD
  refine lv_icmp_eq (tgt := 1575) hx hb dL_law_623 (by decide) (fun _ => ?_) (fun q => absurd e1 q)
  exact hc a u1 b u2 H locs ls hl hP hD hS hRel
set_option maxHeartbeats 4000000 in
set_option maxRecDepth 100000 in
theorem lc_week {Rel : Bd → Bd → Prop} {p : Program} {l : Launch} {e : Env} {s : State} {m : MethodId} {below : List Frame} {meth : Method} {c : Code} {D : va_G} {cy : Nat → ClassId} {sb L i : Nat} {xs : Nat → Int32} {QQ : State → Prop} (hx : p.tables.exec = Jvm.exec) (hb : c.code = code) (hml : c.maxLocals = 4) (hown : s.vm.findClass RL = some m.cls) (up : ∀ w ∈ LW, w.before #[Value.ref sb] s = true) (hG : GW D cy s) (hX : va_X sb L xs s s.heap) (hbl : sb < s.heap.size) (hi : i + 6 ≤ L) (hL : L ≤ 384) (hop : Op_week Rel) (hc : LCont Rel p l e s m below meth c D cy sb i QQ 1575) : LCont Rel p l e s m below meth c D cy sb i QQ 628 := by
  intro a X b Y H locs ls hl hP hD hS hRel
  have hA : ∀ q : Nat, s.heap.size ≤ q → LA s q := fun _ h => h
  have hbA : ¬ LA s sb := Nat.not_le.mpr hbl
  have v1 : vp_in (nI i + (1 : Int32)) L := by rw [show nI i + (1 : Int32) = nI (i + 1) from nI_add i 1]; exact vp_in_nI (by omega) (by omega)
  have v2 : vp_in (nI i + (2 : Int32)) L := by rw [show nI i + (2 : Int32) = nI (i + 2) from nI_add i 2]; exact vp_in_nI (by omega) (by omega)
  have v3 : vp_in (nI i + (3 : Int32)) L := by rw [show nI i + (3 : Int32) = nI (i + 3) from nI_add i 3]; exact vp_in_nI (by omega) (by omega)
  have v4 : vp_in (nI i + (4 : Int32)) L := by rw [show nI i + (4 : Int32) = nI (i + 4) from nI_add i 4]; exact vp_in_nI (by omega) (by omega)
  have v5 : vp_in (nI i + (5 : Int32)) L := by rw [show nI i + (5 : Int32) = nI (i + 5) from nI_add i 5]; exact vp_in_nI (by omega) (by omega)
  refine lv_aload_n hx hb dL_law_628 rfl (lv_at hl 1 rfl) ?_
  refine lv_aload_n hx hb dL_law_629 rfl (lv_at hl 0 rfl) ?_
  refine lv_iload_n hx hb dL_law_630 rfl (lv_at hl 3 rfl) ?_
  refine lv_iconst (v := 1) hx hb dL_law_631 (by decide) ?_
  refine lv_iadd hx hb dL_law_632 ?_
  refine va_sld hx hb hX hbl hbA hS v1 dL_law_633 ?_
  refine lv_aload_n hx hb dL_law_634 rfl (lv_at hl 0 rfl) ?_
  refine lv_iload_n hx hb dL_law_635 rfl (lv_at hl 3 rfl) ?_
  refine lv_iconst (v := 2) hx hb dL_law_636 (by decide) ?_
  refine lv_iadd hx hb dL_law_637 ?_
  refine va_sld hx hb hX hbl hbA hS v2 dL_law_638 ?_
  refine lv_aload_n hx hb dL_law_639 rfl (lv_at hl 0 rfl) ?_
  refine lv_iload_n hx hb dL_law_640 rfl (lv_at hl 3 rfl) ?_
  refine lv_iconst (v := 3) hx hb dL_law_641 (by decide) ?_
  refine lv_iadd hx hb dL_law_642 ?_
  refine va_sld hx hb hX hbl hbA hS v3 dL_law_643 ?_
  obtain ⟨ok1, ok2, e1, hRel⟩ := hop (xs ((nI i) + (1 : Int32)).toNatClampNeg) (xs ((nI i) + (2 : Int32)).toNatClampNeg) (xs ((nI i) + (3 : Int32)).toNatClampNeg) X Y a b hRel
  replace e1 : (nX_week a X (xs ((nI i) + (1 : Int32)).toNatClampNeg) (xs ((nI i) + (2 : Int32)).toNatClampNeg) (xs ((nI i) + (3 : Int32)).toNatClampNeg)).1 = (nY_week b Y (xs ((nI i) + (1 : Int32)).toNatClampNeg) (xs ((nI i) + (2 : Int32)).toNatClampNeg) (xs ((nI i) + (3 : Int32)).toNatClampNeg)).1 := e1
  replace hRel : Rel (nX_week a X (xs ((nI i) + (1 : Int32)).toNatClampNeg) (xs ((nI i) + (2 : Int32)).toNatClampNeg) (xs ((nI i) + (3 : Int32)).toNatClampNeg)).2 (nY_week b Y (xs ((nI i) + (1 : Int32)).toNatClampNeg) (xs ((nI i) + (2 : Int32)).toNatClampNeg) (xs ((nI i) + (3 : Int32)).toNatClampNeg)).2 := hRel
  refine cxI (As := [.int (xs ((nI i) + (1 : Int32)).toNatClampNeg), .int (xs ((nI i) + (2 : Int32)).toNatClampNeg), .int (xs ((nI i) + (3 : Int32)).toNatClampNeg)]) (rest := []) hx hb hml hown up hG hP hD hS hA k_L_84 (lnX_week (l := l) (D := D) (cy := cy) a X (xs ((nI i) + (1 : Int32)).toNatClampNeg) (xs ((nI i) + (2 : Int32)).toNatClampNeg) (xs ((nI i) + (3 : Int32)).toNatClampNeg) H.size ok1) ⟨Nat.le_of_ble_eq_true rfl, Nat.le_of_ble_eq_true rfl⟩ (ci := 11) rfl rfl rfl rfl hl.1 rfl (Nat.le_of_ble_eq_true rfl) ⟨Nat.le_of_ble_eq_true rfl, Nat.le_of_ble_eq_true rfl⟩ dL_law_644 (fun r1 u1 H locs f1 hP hD hS => ?_)
  rw [← f1] at e1 hRel
  replace hP := P_swap hP
  replace hD := D_swap hD
  refine lv_aload_n hx hb dL_law_647 rfl (lv_at hl 2 rfl) ?_
  refine lv_aload_n hx hb dL_law_648 rfl (lv_at hl 0 rfl) ?_
  refine lv_iload_n hx hb dL_law_649 rfl (lv_at hl 3 rfl) ?_
  refine lv_iconst (v := 1) hx hb dL_law_650 (by decide) ?_
  refine lv_iadd hx hb dL_law_651 ?_
  refine va_sld hx hb hX hbl hbA hS v1 dL_law_652 ?_
  refine lv_aload_n hx hb dL_law_653 rfl (lv_at hl 0 rfl) ?_
  refine lv_iload_n hx hb dL_law_654 rfl (lv_at hl 3 rfl) ?_
  refine lv_iconst (v := 2) hx hb dL_law_655 (by decide) ?_
  refine lv_iadd hx hb dL_law_656 ?_
  refine va_sld hx hb hX hbl hbA hS v2 dL_law_657 ?_
  refine lv_aload_n hx hb dL_law_658 rfl (lv_at hl 0 rfl) ?_
  refine lv_iload_n hx hb dL_law_659 rfl (lv_at hl 3 rfl) ?_
  refine lv_iconst (v := 3) hx hb dL_law_660 (by decide) ?_
  refine lv_iadd hx hb dL_law_661 ?_
  refine va_sld hx hb hX hbl hbA hS v3 dL_law_662 ?_
  refine cxI (As := [.int (xs ((nI i) + (1 : Int32)).toNatClampNeg), .int (xs ((nI i) + (2 : Int32)).toNatClampNeg), .int (xs ((nI i) + (3 : Int32)).toNatClampNeg)]) (rest := [.int r1]) hx hb hml hown up hG hP hD hS hA k_L_88 (lnY_week (l := l) (D := D) (cy := cy) b Y (xs ((nI i) + (1 : Int32)).toNatClampNeg) (xs ((nI i) + (2 : Int32)).toNatClampNeg) (xs ((nI i) + (3 : Int32)).toNatClampNeg) H.size ok2) ⟨Nat.le_of_ble_eq_true rfl, Nat.le_of_ble_eq_true rfl⟩ (ci := 12) rfl rfl rfl rfl hl.1 rfl (Nat.le_of_ble_eq_true rfl) ⟨Nat.le_of_ble_eq_true rfl, Nat.le_of_ble_eq_true rfl⟩ dL_law_663 (fun r2 u2 H locs f2 hP hD hS => ?_)
  rw [← f2] at e1 hRel
  replace hP := P_swap hP
  replace hD := D_swap hD
  refine lv_icmp_eq (tgt := 1575) hx hb dL_law_666 (by decide) (fun _ => ?_) (fun q => absurd e1 q)
  exact hc a u1 b u2 H locs ls hl hP hD hS hRel
set_option maxHeartbeats 4000000 in
set_option maxRecDepth 100000 in
theorem lc_ahead {Rel : Bd → Bd → Prop} {p : Program} {l : Launch} {e : Env} {s : State} {m : MethodId} {below : List Frame} {meth : Method} {c : Code} {D : va_G} {cy : Nat → ClassId} {sb L i : Nat} {xs : Nat → Int32} {QQ : State → Prop} (hx : p.tables.exec = Jvm.exec) (hb : c.code = code) (hml : c.maxLocals = 4) (hown : s.vm.findClass RL = some m.cls) (up : ∀ w ∈ LW, w.before #[Value.ref sb] s = true) (hG : GW D cy s) (hX : va_X sb L xs s s.heap) (hbl : sb < s.heap.size) (hi : i + 6 ≤ L) (hL : L ≤ 384) (hop : Op_ahead Rel) (hc : LCont Rel p l e s m below meth c D cy sb i QQ 1575) : LCont Rel p l e s m below meth c D cy sb i QQ 671 := by
  intro a X b Y H locs ls hl hP hD hS hRel
  have hA : ∀ q : Nat, s.heap.size ≤ q → LA s q := fun _ h => h
  have hbA : ¬ LA s sb := Nat.not_le.mpr hbl
  have v1 : vp_in (nI i + (1 : Int32)) L := by rw [show nI i + (1 : Int32) = nI (i + 1) from nI_add i 1]; exact vp_in_nI (by omega) (by omega)
  have v2 : vp_in (nI i + (2 : Int32)) L := by rw [show nI i + (2 : Int32) = nI (i + 2) from nI_add i 2]; exact vp_in_nI (by omega) (by omega)
  have v3 : vp_in (nI i + (3 : Int32)) L := by rw [show nI i + (3 : Int32) = nI (i + 3) from nI_add i 3]; exact vp_in_nI (by omega) (by omega)
  have v4 : vp_in (nI i + (4 : Int32)) L := by rw [show nI i + (4 : Int32) = nI (i + 4) from nI_add i 4]; exact vp_in_nI (by omega) (by omega)
  have v5 : vp_in (nI i + (5 : Int32)) L := by rw [show nI i + (5 : Int32) = nI (i + 5) from nI_add i 5]; exact vp_in_nI (by omega) (by omega)
  refine lv_aload_n hx hb dL_law_671 rfl (lv_at hl 1 rfl) ?_
  refine lv_aload_n hx hb dL_law_672 rfl (lv_at hl 0 rfl) ?_
  refine lv_iload_n hx hb dL_law_673 rfl (lv_at hl 3 rfl) ?_
  refine lv_iconst (v := 1) hx hb dL_law_674 (by decide) ?_
  refine lv_iadd hx hb dL_law_675 ?_
  refine va_sld hx hb hX hbl hbA hS v1 dL_law_676 ?_
  refine lv_aload_n hx hb dL_law_677 rfl (lv_at hl 0 rfl) ?_
  refine lv_iload_n hx hb dL_law_678 rfl (lv_at hl 3 rfl) ?_
  refine lv_iconst (v := 2) hx hb dL_law_679 (by decide) ?_
  refine lv_iadd hx hb dL_law_680 ?_
  refine va_sld hx hb hX hbl hbA hS v2 dL_law_681 ?_
  refine lv_aload_n hx hb dL_law_682 rfl (lv_at hl 0 rfl) ?_
  refine lv_iload_n hx hb dL_law_683 rfl (lv_at hl 3 rfl) ?_
  refine lv_iconst (v := 3) hx hb dL_law_684 (by decide) ?_
  refine lv_iadd hx hb dL_law_685 ?_
  refine va_sld hx hb hX hbl hbA hS v3 dL_law_686 ?_
  obtain ⟨ok1, ok2, e1, hRel⟩ := hop (xs ((nI i) + (1 : Int32)).toNatClampNeg) (xs ((nI i) + (2 : Int32)).toNatClampNeg) (xs ((nI i) + (3 : Int32)).toNatClampNeg) X Y a b hRel
  replace e1 : (nX_ahead a X (xs ((nI i) + (1 : Int32)).toNatClampNeg) (xs ((nI i) + (2 : Int32)).toNatClampNeg) (xs ((nI i) + (3 : Int32)).toNatClampNeg)).1 = (nY_ahead b Y (xs ((nI i) + (1 : Int32)).toNatClampNeg) (xs ((nI i) + (2 : Int32)).toNatClampNeg) (xs ((nI i) + (3 : Int32)).toNatClampNeg)).1 := e1
  replace hRel : Rel (nX_ahead a X (xs ((nI i) + (1 : Int32)).toNatClampNeg) (xs ((nI i) + (2 : Int32)).toNatClampNeg) (xs ((nI i) + (3 : Int32)).toNatClampNeg)).2 (nY_ahead b Y (xs ((nI i) + (1 : Int32)).toNatClampNeg) (xs ((nI i) + (2 : Int32)).toNatClampNeg) (xs ((nI i) + (3 : Int32)).toNatClampNeg)).2 := hRel
  refine cxI (As := [.int (xs ((nI i) + (1 : Int32)).toNatClampNeg), .int (xs ((nI i) + (2 : Int32)).toNatClampNeg), .int (xs ((nI i) + (3 : Int32)).toNatClampNeg)]) (rest := []) hx hb hml hown up hG hP hD hS hA k_L_89 (lnX_ahead (l := l) (D := D) (cy := cy) a X (xs ((nI i) + (1 : Int32)).toNatClampNeg) (xs ((nI i) + (2 : Int32)).toNatClampNeg) (xs ((nI i) + (3 : Int32)).toNatClampNeg) H.size ok1) ⟨Nat.le_of_ble_eq_true rfl, Nat.le_of_ble_eq_true rfl⟩ (ci := 11) rfl rfl rfl rfl hl.1 rfl (Nat.le_of_ble_eq_true rfl) ⟨Nat.le_of_ble_eq_true rfl, Nat.le_of_ble_eq_true rfl⟩ dL_law_687 (fun r1 u1 H locs f1 hP hD hS => ?_)
  rw [← f1] at e1 hRel
  replace hP := P_swap hP
  replace hD := D_swap hD
  refine lv_aload_n hx hb dL_law_690 rfl (lv_at hl 2 rfl) ?_
  refine lv_aload_n hx hb dL_law_691 rfl (lv_at hl 0 rfl) ?_
  refine lv_iload_n hx hb dL_law_692 rfl (lv_at hl 3 rfl) ?_
  refine lv_iconst (v := 1) hx hb dL_law_693 (by decide) ?_
  refine lv_iadd hx hb dL_law_694 ?_
  refine va_sld hx hb hX hbl hbA hS v1 dL_law_695 ?_
  refine lv_aload_n hx hb dL_law_696 rfl (lv_at hl 0 rfl) ?_
  refine lv_iload_n hx hb dL_law_697 rfl (lv_at hl 3 rfl) ?_
  refine lv_iconst (v := 2) hx hb dL_law_698 (by decide) ?_
  refine lv_iadd hx hb dL_law_699 ?_
  refine va_sld hx hb hX hbl hbA hS v2 dL_law_700 ?_
  refine lv_aload_n hx hb dL_law_701 rfl (lv_at hl 0 rfl) ?_
  refine lv_iload_n hx hb dL_law_702 rfl (lv_at hl 3 rfl) ?_
  refine lv_iconst (v := 3) hx hb dL_law_703 (by decide) ?_
  refine lv_iadd hx hb dL_law_704 ?_
  refine va_sld hx hb hX hbl hbA hS v3 dL_law_705 ?_
  refine cxI (As := [.int (xs ((nI i) + (1 : Int32)).toNatClampNeg), .int (xs ((nI i) + (2 : Int32)).toNatClampNeg), .int (xs ((nI i) + (3 : Int32)).toNatClampNeg)]) (rest := [.int r1]) hx hb hml hown up hG hP hD hS hA k_L_92 (lnY_ahead (l := l) (D := D) (cy := cy) b Y (xs ((nI i) + (1 : Int32)).toNatClampNeg) (xs ((nI i) + (2 : Int32)).toNatClampNeg) (xs ((nI i) + (3 : Int32)).toNatClampNeg) H.size ok2) ⟨Nat.le_of_ble_eq_true rfl, Nat.le_of_ble_eq_true rfl⟩ (ci := 12) rfl rfl rfl rfl hl.1 rfl (Nat.le_of_ble_eq_true rfl) ⟨Nat.le_of_ble_eq_true rfl, Nat.le_of_ble_eq_true rfl⟩ dL_law_706 (fun r2 u2 H locs f2 hP hD hS => ?_)
  rw [← f2] at e1 hRel
  replace hP := P_swap hP
  replace hD := D_swap hD
  refine lv_icmp_eq (tgt := 1575) hx hb dL_law_709 (by decide) (fun _ => ?_) (fun q => absurd e1 q)
  exact hc a u1 b u2 H locs ls hl hP hD hS hRel
set_option maxHeartbeats 4000000 in
set_option maxRecDepth 100000 in
theorem lc_outside {Rel : Bd → Bd → Prop} {p : Program} {l : Launch} {e : Env} {s : State} {m : MethodId} {below : List Frame} {meth : Method} {c : Code} {D : va_G} {cy : Nat → ClassId} {sb L i : Nat} {xs : Nat → Int32} {QQ : State → Prop} (hx : p.tables.exec = Jvm.exec) (hb : c.code = code) (hml : c.maxLocals = 4) (hown : s.vm.findClass RL = some m.cls) (up : ∀ w ∈ LW, w.before #[Value.ref sb] s = true) (hG : GW D cy s) (hX : va_X sb L xs s s.heap) (hbl : sb < s.heap.size) (hi : i + 6 ≤ L) (hL : L ≤ 384) (hop : Op_outside Rel) (hc : LCont Rel p l e s m below meth c D cy sb i QQ 1575) : LCont Rel p l e s m below meth c D cy sb i QQ 714 := by
  intro a X b Y H locs ls hl hP hD hS hRel
  have hA : ∀ q : Nat, s.heap.size ≤ q → LA s q := fun _ h => h
  have hbA : ¬ LA s sb := Nat.not_le.mpr hbl
  have v1 : vp_in (nI i + (1 : Int32)) L := by rw [show nI i + (1 : Int32) = nI (i + 1) from nI_add i 1]; exact vp_in_nI (by omega) (by omega)
  have v2 : vp_in (nI i + (2 : Int32)) L := by rw [show nI i + (2 : Int32) = nI (i + 2) from nI_add i 2]; exact vp_in_nI (by omega) (by omega)
  have v3 : vp_in (nI i + (3 : Int32)) L := by rw [show nI i + (3 : Int32) = nI (i + 3) from nI_add i 3]; exact vp_in_nI (by omega) (by omega)
  have v4 : vp_in (nI i + (4 : Int32)) L := by rw [show nI i + (4 : Int32) = nI (i + 4) from nI_add i 4]; exact vp_in_nI (by omega) (by omega)
  have v5 : vp_in (nI i + (5 : Int32)) L := by rw [show nI i + (5 : Int32) = nI (i + 5) from nI_add i 5]; exact vp_in_nI (by omega) (by omega)
  refine lv_aload_n hx hb dL_law_714 rfl (lv_at hl 1 rfl) ?_
  refine lv_aload_n hx hb dL_law_715 rfl (lv_at hl 0 rfl) ?_
  refine lv_iload_n hx hb dL_law_716 rfl (lv_at hl 3 rfl) ?_
  refine lv_iconst (v := 1) hx hb dL_law_717 (by decide) ?_
  refine lv_iadd hx hb dL_law_718 ?_
  refine va_sld hx hb hX hbl hbA hS v1 dL_law_719 ?_
  refine lv_aload_n hx hb dL_law_720 rfl (lv_at hl 0 rfl) ?_
  refine lv_iload_n hx hb dL_law_721 rfl (lv_at hl 3 rfl) ?_
  refine lv_iconst (v := 2) hx hb dL_law_722 (by decide) ?_
  refine lv_iadd hx hb dL_law_723 ?_
  refine va_sld hx hb hX hbl hbA hS v2 dL_law_724 ?_
  refine lv_aload_n hx hb dL_law_725 rfl (lv_at hl 0 rfl) ?_
  refine lv_iload_n hx hb dL_law_726 rfl (lv_at hl 3 rfl) ?_
  refine lv_iconst (v := 3) hx hb dL_law_727 (by decide) ?_
  refine lv_iadd hx hb dL_law_728 ?_
  refine va_sld hx hb hX hbl hbA hS v3 dL_law_729 ?_
  obtain ⟨ok1, ok2, e1, hRel⟩ := hop (xs ((nI i) + (1 : Int32)).toNatClampNeg) (xs ((nI i) + (2 : Int32)).toNatClampNeg) (xs ((nI i) + (3 : Int32)).toNatClampNeg) X Y a b hRel
  replace e1 : (nX_outside a X (xs ((nI i) + (1 : Int32)).toNatClampNeg) (xs ((nI i) + (2 : Int32)).toNatClampNeg) (xs ((nI i) + (3 : Int32)).toNatClampNeg)).1 = (nY_outside b Y (xs ((nI i) + (1 : Int32)).toNatClampNeg) (xs ((nI i) + (2 : Int32)).toNatClampNeg) (xs ((nI i) + (3 : Int32)).toNatClampNeg)).1 := e1
  replace hRel : Rel (nX_outside a X (xs ((nI i) + (1 : Int32)).toNatClampNeg) (xs ((nI i) + (2 : Int32)).toNatClampNeg) (xs ((nI i) + (3 : Int32)).toNatClampNeg)).2 (nY_outside b Y (xs ((nI i) + (1 : Int32)).toNatClampNeg) (xs ((nI i) + (2 : Int32)).toNatClampNeg) (xs ((nI i) + (3 : Int32)).toNatClampNeg)).2 := hRel
  refine cxI (As := [.int (xs ((nI i) + (1 : Int32)).toNatClampNeg), .int (xs ((nI i) + (2 : Int32)).toNatClampNeg), .int (xs ((nI i) + (3 : Int32)).toNatClampNeg)]) (rest := []) hx hb hml hown up hG hP hD hS hA k_L_93 (lnX_outside (l := l) (D := D) (cy := cy) a X (xs ((nI i) + (1 : Int32)).toNatClampNeg) (xs ((nI i) + (2 : Int32)).toNatClampNeg) (xs ((nI i) + (3 : Int32)).toNatClampNeg) H.size ok1) ⟨Nat.le_of_ble_eq_true rfl, Nat.le_of_ble_eq_true rfl⟩ (ci := 11) rfl rfl rfl rfl hl.1 rfl (Nat.le_of_ble_eq_true rfl) ⟨Nat.le_of_ble_eq_true rfl, Nat.le_of_ble_eq_true rfl⟩ dL_law_730 (fun r1 u1 H locs f1 hP hD hS => ?_)
  rw [← f1] at e1 hRel
  replace hP := P_swap hP
  replace hD := D_swap hD
  refine lv_aload_n hx hb dL_law_733 rfl (lv_at hl 2 rfl) ?_
  refine lv_aload_n hx hb dL_law_734 rfl (lv_at hl 0 rfl) ?_
  refine lv_iload_n hx hb dL_law_735 rfl (lv_at hl 3 rfl) ?_
  refine lv_iconst (v := 1) hx hb dL_law_736 (by decide) ?_
  refine lv_iadd hx hb dL_law_737 ?_
  refine va_sld hx hb hX hbl hbA hS v1 dL_law_738 ?_
  refine lv_aload_n hx hb dL_law_739 rfl (lv_at hl 0 rfl) ?_
  refine lv_iload_n hx hb dL_law_740 rfl (lv_at hl 3 rfl) ?_
  refine lv_iconst (v := 2) hx hb dL_law_741 (by decide) ?_
  refine lv_iadd hx hb dL_law_742 ?_
  refine va_sld hx hb hX hbl hbA hS v2 dL_law_743 ?_
  refine lv_aload_n hx hb dL_law_744 rfl (lv_at hl 0 rfl) ?_
  refine lv_iload_n hx hb dL_law_745 rfl (lv_at hl 3 rfl) ?_
  refine lv_iconst (v := 3) hx hb dL_law_746 (by decide) ?_
  refine lv_iadd hx hb dL_law_747 ?_
  refine va_sld hx hb hX hbl hbA hS v3 dL_law_748 ?_
  refine cxI (As := [.int (xs ((nI i) + (1 : Int32)).toNatClampNeg), .int (xs ((nI i) + (2 : Int32)).toNatClampNeg), .int (xs ((nI i) + (3 : Int32)).toNatClampNeg)]) (rest := [.int r1]) hx hb hml hown up hG hP hD hS hA k_L_96 (lnY_outside (l := l) (D := D) (cy := cy) b Y (xs ((nI i) + (1 : Int32)).toNatClampNeg) (xs ((nI i) + (2 : Int32)).toNatClampNeg) (xs ((nI i) + (3 : Int32)).toNatClampNeg) H.size ok2) ⟨Nat.le_of_ble_eq_true rfl, Nat.le_of_ble_eq_true rfl⟩ (ci := 12) rfl rfl rfl rfl hl.1 rfl (Nat.le_of_ble_eq_true rfl) ⟨Nat.le_of_ble_eq_true rfl, Nat.le_of_ble_eq_true rfl⟩ dL_law_749 (fun r2 u2 H locs f2 hP hD hS => ?_)
  rw [← f2] at e1 hRel
  replace hP := P_swap hP
  replace hD := D_swap hD
  refine lv_icmp_eq (tgt := 1575) hx hb dL_law_752 (by decide) (fun _ => ?_) (fun q => absurd e1 q)
  exact hc a u1 b u2 H locs ls hl hP hD hS hRel
set_option maxHeartbeats 4000000 in
set_option maxRecDepth 100000 in
theorem lc_ever {Rel : Bd → Bd → Prop} {p : Program} {l : Launch} {e : Env} {s : State} {m : MethodId} {below : List Frame} {meth : Method} {c : Code} {D : va_G} {cy : Nat → ClassId} {sb L i : Nat} {xs : Nat → Int32} {QQ : State → Prop} (hx : p.tables.exec = Jvm.exec) (hb : c.code = code) (hml : c.maxLocals = 4) (hown : s.vm.findClass RL = some m.cls) (up : ∀ w ∈ LW, w.before #[Value.ref sb] s = true) (hG : GW D cy s) (hX : va_X sb L xs s s.heap) (hbl : sb < s.heap.size) (hi : i + 6 ≤ L) (hL : L ≤ 384) (hop : Op_ever Rel) (hc : LCont Rel p l e s m below meth c D cy sb i QQ 1575) : LCont Rel p l e s m below meth c D cy sb i QQ 757 := by
  intro a X b Y H locs ls hl hP hD hS hRel
  have hA : ∀ q : Nat, s.heap.size ≤ q → LA s q := fun _ h => h
  have hbA : ¬ LA s sb := Nat.not_le.mpr hbl
  have v1 : vp_in (nI i + (1 : Int32)) L := by rw [show nI i + (1 : Int32) = nI (i + 1) from nI_add i 1]; exact vp_in_nI (by omega) (by omega)
  have v2 : vp_in (nI i + (2 : Int32)) L := by rw [show nI i + (2 : Int32) = nI (i + 2) from nI_add i 2]; exact vp_in_nI (by omega) (by omega)
  have v3 : vp_in (nI i + (3 : Int32)) L := by rw [show nI i + (3 : Int32) = nI (i + 3) from nI_add i 3]; exact vp_in_nI (by omega) (by omega)
  have v4 : vp_in (nI i + (4 : Int32)) L := by rw [show nI i + (4 : Int32) = nI (i + 4) from nI_add i 4]; exact vp_in_nI (by omega) (by omega)
  have v5 : vp_in (nI i + (5 : Int32)) L := by rw [show nI i + (5 : Int32) = nI (i + 5) from nI_add i 5]; exact vp_in_nI (by omega) (by omega)
  refine lv_aload_n hx hb dL_law_757 rfl (lv_at hl 1 rfl) ?_
  refine lv_aload_n hx hb dL_law_758 rfl (lv_at hl 0 rfl) ?_
  refine lv_iload_n hx hb dL_law_759 rfl (lv_at hl 3 rfl) ?_
  refine lv_iconst (v := 1) hx hb dL_law_760 (by decide) ?_
  refine lv_iadd hx hb dL_law_761 ?_
  refine va_sld hx hb hX hbl hbA hS v1 dL_law_762 ?_
  refine lv_aload_n hx hb dL_law_763 rfl (lv_at hl 0 rfl) ?_
  refine lv_iload_n hx hb dL_law_764 rfl (lv_at hl 3 rfl) ?_
  refine lv_iconst (v := 2) hx hb dL_law_765 (by decide) ?_
  refine lv_iadd hx hb dL_law_766 ?_
  refine va_sld hx hb hX hbl hbA hS v2 dL_law_767 ?_
  refine lv_aload_n hx hb dL_law_768 rfl (lv_at hl 0 rfl) ?_
  refine lv_iload_n hx hb dL_law_769 rfl (lv_at hl 3 rfl) ?_
  refine lv_iconst (v := 3) hx hb dL_law_770 (by decide) ?_
  refine lv_iadd hx hb dL_law_771 ?_
  refine va_sld hx hb hX hbl hbA hS v3 dL_law_772 ?_
  obtain ⟨ok1, ok2, e1, hRel⟩ := hop (xs ((nI i) + (1 : Int32)).toNatClampNeg) (xs ((nI i) + (2 : Int32)).toNatClampNeg) (xs ((nI i) + (3 : Int32)).toNatClampNeg) X Y a b hRel
  replace e1 : (nX_ever a X (xs ((nI i) + (1 : Int32)).toNatClampNeg) (xs ((nI i) + (2 : Int32)).toNatClampNeg) (xs ((nI i) + (3 : Int32)).toNatClampNeg)).1 = (nY_ever b Y (xs ((nI i) + (1 : Int32)).toNatClampNeg) (xs ((nI i) + (2 : Int32)).toNatClampNeg) (xs ((nI i) + (3 : Int32)).toNatClampNeg)).1 := e1
  replace hRel : Rel (nX_ever a X (xs ((nI i) + (1 : Int32)).toNatClampNeg) (xs ((nI i) + (2 : Int32)).toNatClampNeg) (xs ((nI i) + (3 : Int32)).toNatClampNeg)).2 (nY_ever b Y (xs ((nI i) + (1 : Int32)).toNatClampNeg) (xs ((nI i) + (2 : Int32)).toNatClampNeg) (xs ((nI i) + (3 : Int32)).toNatClampNeg)).2 := hRel
  refine cxI (As := [.int (xs ((nI i) + (1 : Int32)).toNatClampNeg), .int (xs ((nI i) + (2 : Int32)).toNatClampNeg), .int (xs ((nI i) + (3 : Int32)).toNatClampNeg)]) (rest := []) hx hb hml hown up hG hP hD hS hA k_L_97 (lnX_ever (l := l) (D := D) (cy := cy) a X (xs ((nI i) + (1 : Int32)).toNatClampNeg) (xs ((nI i) + (2 : Int32)).toNatClampNeg) (xs ((nI i) + (3 : Int32)).toNatClampNeg) H.size ok1) ⟨Nat.le_of_ble_eq_true rfl, Nat.le_of_ble_eq_true rfl⟩ (ci := 11) rfl rfl rfl rfl hl.1 rfl (Nat.le_of_ble_eq_true rfl) ⟨Nat.le_of_ble_eq_true rfl, Nat.le_of_ble_eq_true rfl⟩ dL_law_773 (fun r1 u1 H locs f1 hP hD hS => ?_)
  rw [← f1] at e1 hRel
  replace hP := P_swap hP
  replace hD := D_swap hD
  refine lv_aload_n hx hb dL_law_776 rfl (lv_at hl 2 rfl) ?_
  refine lv_aload_n hx hb dL_law_777 rfl (lv_at hl 0 rfl) ?_
  refine lv_iload_n hx hb dL_law_778 rfl (lv_at hl 3 rfl) ?_
  refine lv_iconst (v := 1) hx hb dL_law_779 (by decide) ?_
  refine lv_iadd hx hb dL_law_780 ?_
  refine va_sld hx hb hX hbl hbA hS v1 dL_law_781 ?_
  refine lv_aload_n hx hb dL_law_782 rfl (lv_at hl 0 rfl) ?_
  refine lv_iload_n hx hb dL_law_783 rfl (lv_at hl 3 rfl) ?_
  refine lv_iconst (v := 2) hx hb dL_law_784 (by decide) ?_
  refine lv_iadd hx hb dL_law_785 ?_
  refine va_sld hx hb hX hbl hbA hS v2 dL_law_786 ?_
  refine lv_aload_n hx hb dL_law_787 rfl (lv_at hl 0 rfl) ?_
  refine lv_iload_n hx hb dL_law_788 rfl (lv_at hl 3 rfl) ?_
  refine lv_iconst (v := 3) hx hb dL_law_789 (by decide) ?_
  refine lv_iadd hx hb dL_law_790 ?_
  refine va_sld hx hb hX hbl hbA hS v3 dL_law_791 ?_
  refine cxI (As := [.int (xs ((nI i) + (1 : Int32)).toNatClampNeg), .int (xs ((nI i) + (2 : Int32)).toNatClampNeg), .int (xs ((nI i) + (3 : Int32)).toNatClampNeg)]) (rest := [.int r1]) hx hb hml hown up hG hP hD hS hA k_L_100 (lnY_ever (l := l) (D := D) (cy := cy) b Y (xs ((nI i) + (1 : Int32)).toNatClampNeg) (xs ((nI i) + (2 : Int32)).toNatClampNeg) (xs ((nI i) + (3 : Int32)).toNatClampNeg) H.size ok2) ⟨Nat.le_of_ble_eq_true rfl, Nat.le_of_ble_eq_true rfl⟩ (ci := 12) rfl rfl rfl rfl hl.1 rfl (Nat.le_of_ble_eq_true rfl) ⟨Nat.le_of_ble_eq_true rfl, Nat.le_of_ble_eq_true rfl⟩ dL_law_792 (fun r2 u2 H locs f2 hP hD hS => ?_)
  rw [← f2] at e1 hRel
  replace hP := P_swap hP
  replace hD := D_swap hD
  refine lv_icmp_eq (tgt := 1575) hx hb dL_law_795 (by decide) (fun _ => ?_) (fun q => absurd e1 q)
  exact hc a u1 b u2 H locs ls hl hP hD hS hRel
set_option maxHeartbeats 4000000 in
set_option maxRecDepth 100000 in
theorem lc_never {Rel : Bd → Bd → Prop} {p : Program} {l : Launch} {e : Env} {s : State} {m : MethodId} {below : List Frame} {meth : Method} {c : Code} {D : va_G} {cy : Nat → ClassId} {sb L i : Nat} {xs : Nat → Int32} {QQ : State → Prop} (hx : p.tables.exec = Jvm.exec) (hb : c.code = code) (hml : c.maxLocals = 4) (hown : s.vm.findClass RL = some m.cls) (up : ∀ w ∈ LW, w.before #[Value.ref sb] s = true) (hG : GW D cy s) (hX : va_X sb L xs s s.heap) (hbl : sb < s.heap.size) (hi : i + 6 ≤ L) (hL : L ≤ 384) (hop : Op_never Rel) (hc : LCont Rel p l e s m below meth c D cy sb i QQ 1575) : LCont Rel p l e s m below meth c D cy sb i QQ 800 := by
  intro a X b Y H locs ls hl hP hD hS hRel
  have hA : ∀ q : Nat, s.heap.size ≤ q → LA s q := fun _ h => h
  have hbA : ¬ LA s sb := Nat.not_le.mpr hbl
  have v1 : vp_in (nI i + (1 : Int32)) L := by rw [show nI i + (1 : Int32) = nI (i + 1) from nI_add i 1]; exact vp_in_nI (by omega) (by omega)
  have v2 : vp_in (nI i + (2 : Int32)) L := by rw [show nI i + (2 : Int32) = nI (i + 2) from nI_add i 2]; exact vp_in_nI (by omega) (by omega)
  have v3 : vp_in (nI i + (3 : Int32)) L := by rw [show nI i + (3 : Int32) = nI (i + 3) from nI_add i 3]; exact vp_in_nI (by omega) (by omega)
  have v4 : vp_in (nI i + (4 : Int32)) L := by rw [show nI i + (4 : Int32) = nI (i + 4) from nI_add i 4]; exact vp_in_nI (by omega) (by omega)
  have v5 : vp_in (nI i + (5 : Int32)) L := by rw [show nI i + (5 : Int32) = nI (i + 5) from nI_add i 5]; exact vp_in_nI (by omega) (by omega)
  refine lv_aload_n hx hb dL_law_800 rfl (lv_at hl 1 rfl) ?_
  refine lv_aload_n hx hb dL_law_801 rfl (lv_at hl 0 rfl) ?_
  refine lv_iload_n hx hb dL_law_802 rfl (lv_at hl 3 rfl) ?_
  refine lv_iconst (v := 1) hx hb dL_law_803 (by decide) ?_
  refine lv_iadd hx hb dL_law_804 ?_
  refine va_sld hx hb hX hbl hbA hS v1 dL_law_805 ?_
  refine lv_aload_n hx hb dL_law_806 rfl (lv_at hl 0 rfl) ?_
  refine lv_iload_n hx hb dL_law_807 rfl (lv_at hl 3 rfl) ?_
  refine lv_iconst (v := 2) hx hb dL_law_808 (by decide) ?_
  refine lv_iadd hx hb dL_law_809 ?_
  refine va_sld hx hb hX hbl hbA hS v2 dL_law_810 ?_
  obtain ⟨ok1, ok2, e1, hRel⟩ := hop (xs ((nI i) + (1 : Int32)).toNatClampNeg) (xs ((nI i) + (2 : Int32)).toNatClampNeg) X Y a b hRel
  replace e1 : (nX_never a X (xs ((nI i) + (1 : Int32)).toNatClampNeg) (xs ((nI i) + (2 : Int32)).toNatClampNeg)).1 = (nY_never b Y (xs ((nI i) + (1 : Int32)).toNatClampNeg) (xs ((nI i) + (2 : Int32)).toNatClampNeg)).1 := e1
  replace hRel : Rel (nX_never a X (xs ((nI i) + (1 : Int32)).toNatClampNeg) (xs ((nI i) + (2 : Int32)).toNatClampNeg)).2 (nY_never b Y (xs ((nI i) + (1 : Int32)).toNatClampNeg) (xs ((nI i) + (2 : Int32)).toNatClampNeg)).2 := hRel
  refine cxI (As := [.int (xs ((nI i) + (1 : Int32)).toNatClampNeg), .int (xs ((nI i) + (2 : Int32)).toNatClampNeg)]) (rest := []) hx hb hml hown up hG hP hD hS hA k_L_101 (lnX_never (l := l) (D := D) (cy := cy) a X (xs ((nI i) + (1 : Int32)).toNatClampNeg) (xs ((nI i) + (2 : Int32)).toNatClampNeg) H.size ok1) ⟨Nat.le_of_ble_eq_true rfl, Nat.le_of_ble_eq_true rfl⟩ (ci := 11) rfl rfl rfl rfl hl.1 rfl (Nat.le_of_ble_eq_true rfl) ⟨Nat.le_of_ble_eq_true rfl, Nat.le_of_ble_eq_true rfl⟩ dL_law_811 (fun r1 u1 H locs f1 hP hD hS => ?_)
  rw [← f1] at e1 hRel
  replace hP := P_swap hP
  replace hD := D_swap hD
  refine lv_aload_n hx hb dL_law_814 rfl (lv_at hl 2 rfl) ?_
  refine lv_aload_n hx hb dL_law_815 rfl (lv_at hl 0 rfl) ?_
  refine lv_iload_n hx hb dL_law_816 rfl (lv_at hl 3 rfl) ?_
  refine lv_iconst (v := 1) hx hb dL_law_817 (by decide) ?_
  refine lv_iadd hx hb dL_law_818 ?_
  refine va_sld hx hb hX hbl hbA hS v1 dL_law_819 ?_
  refine lv_aload_n hx hb dL_law_820 rfl (lv_at hl 0 rfl) ?_
  refine lv_iload_n hx hb dL_law_821 rfl (lv_at hl 3 rfl) ?_
  refine lv_iconst (v := 2) hx hb dL_law_822 (by decide) ?_
  refine lv_iadd hx hb dL_law_823 ?_
  refine va_sld hx hb hX hbl hbA hS v2 dL_law_824 ?_
  refine cxI (As := [.int (xs ((nI i) + (1 : Int32)).toNatClampNeg), .int (xs ((nI i) + (2 : Int32)).toNatClampNeg)]) (rest := [.int r1]) hx hb hml hown up hG hP hD hS hA k_L_104 (lnY_never (l := l) (D := D) (cy := cy) b Y (xs ((nI i) + (1 : Int32)).toNatClampNeg) (xs ((nI i) + (2 : Int32)).toNatClampNeg) H.size ok2) ⟨Nat.le_of_ble_eq_true rfl, Nat.le_of_ble_eq_true rfl⟩ (ci := 12) rfl rfl rfl rfl hl.1 rfl (Nat.le_of_ble_eq_true rfl) ⟨Nat.le_of_ble_eq_true rfl, Nat.le_of_ble_eq_true rfl⟩ dL_law_825 (fun r2 u2 H locs f2 hP hD hS => ?_)
  rw [← f2] at e1 hRel
  replace hP := P_swap hP
  replace hD := D_swap hD
  refine lv_icmp_eq (tgt := 1575) hx hb dL_law_828 (by decide) (fun _ => ?_) (fun q => absurd e1 q)
  exact hc a u1 b u2 H locs ls hl hP hD hS hRel
set_option maxHeartbeats 4000000 in
set_option maxRecDepth 100000 in
theorem lc_tell {Rel : Bd → Bd → Prop} {p : Program} {l : Launch} {e : Env} {s : State} {m : MethodId} {below : List Frame} {meth : Method} {c : Code} {D : va_G} {cy : Nat → ClassId} {sb L i : Nat} {xs : Nat → Int32} {QQ : State → Prop} (hx : p.tables.exec = Jvm.exec) (hb : c.code = code) (hml : c.maxLocals = 4) (hown : s.vm.findClass RL = some m.cls) (up : ∀ w ∈ LW, w.before #[Value.ref sb] s = true) (hG : GW D cy s) (hX : va_X sb L xs s s.heap) (hbl : sb < s.heap.size) (hi : i + 6 ≤ L) (hL : L ≤ 384) (hop : Op_tell Rel) (hc : LCont Rel p l e s m below meth c D cy sb i QQ 1575) : LCont Rel p l e s m below meth c D cy sb i QQ 833 := by
  intro a X b Y H locs ls hl hP hD hS hRel
  have hA : ∀ q : Nat, s.heap.size ≤ q → LA s q := fun _ h => h
  have hbA : ¬ LA s sb := Nat.not_le.mpr hbl
  have v1 : vp_in (nI i + (1 : Int32)) L := by rw [show nI i + (1 : Int32) = nI (i + 1) from nI_add i 1]; exact vp_in_nI (by omega) (by omega)
  have v2 : vp_in (nI i + (2 : Int32)) L := by rw [show nI i + (2 : Int32) = nI (i + 2) from nI_add i 2]; exact vp_in_nI (by omega) (by omega)
  have v3 : vp_in (nI i + (3 : Int32)) L := by rw [show nI i + (3 : Int32) = nI (i + 3) from nI_add i 3]; exact vp_in_nI (by omega) (by omega)
  have v4 : vp_in (nI i + (4 : Int32)) L := by rw [show nI i + (4 : Int32) = nI (i + 4) from nI_add i 4]; exact vp_in_nI (by omega) (by omega)
  have v5 : vp_in (nI i + (5 : Int32)) L := by rw [show nI i + (5 : Int32) = nI (i + 5) from nI_add i 5]; exact vp_in_nI (by omega) (by omega)
  refine lv_aload_n hx hb dL_law_833 rfl (lv_at hl 1 rfl) ?_
  refine lv_aload_n hx hb dL_law_834 rfl (lv_at hl 0 rfl) ?_
  refine lv_iload_n hx hb dL_law_835 rfl (lv_at hl 3 rfl) ?_
  refine lv_iconst (v := 1) hx hb dL_law_836 (by decide) ?_
  refine lv_iadd hx hb dL_law_837 ?_
  refine va_sld hx hb hX hbl hbA hS v1 dL_law_838 ?_
  refine lv_aload_n hx hb dL_law_839 rfl (lv_at hl 0 rfl) ?_
  refine lv_iload_n hx hb dL_law_840 rfl (lv_at hl 3 rfl) ?_
  refine lv_iconst (v := 2) hx hb dL_law_841 (by decide) ?_
  refine lv_iadd hx hb dL_law_842 ?_
  refine va_sld hx hb hX hbl hbA hS v2 dL_law_843 ?_
  obtain ⟨ok1, ok2, e1, hRel⟩ := hop (xs ((nI i) + (1 : Int32)).toNatClampNeg) (xs ((nI i) + (2 : Int32)).toNatClampNeg) X Y a b hRel
  replace e1 : (nX_tell a X (xs ((nI i) + (1 : Int32)).toNatClampNeg) (xs ((nI i) + (2 : Int32)).toNatClampNeg)).1 = (nY_tell b Y (xs ((nI i) + (1 : Int32)).toNatClampNeg) (xs ((nI i) + (2 : Int32)).toNatClampNeg)).1 := e1
  replace hRel : Rel (nX_tell a X (xs ((nI i) + (1 : Int32)).toNatClampNeg) (xs ((nI i) + (2 : Int32)).toNatClampNeg)).2 (nY_tell b Y (xs ((nI i) + (1 : Int32)).toNatClampNeg) (xs ((nI i) + (2 : Int32)).toNatClampNeg)).2 := hRel
  refine cxI (As := [.int (xs ((nI i) + (1 : Int32)).toNatClampNeg), .int (xs ((nI i) + (2 : Int32)).toNatClampNeg)]) (rest := []) hx hb hml hown up hG hP hD hS hA k_L_105 (lnX_tell (l := l) (D := D) (cy := cy) a X (xs ((nI i) + (1 : Int32)).toNatClampNeg) (xs ((nI i) + (2 : Int32)).toNatClampNeg) H.size ok1) ⟨Nat.le_of_ble_eq_true rfl, Nat.le_of_ble_eq_true rfl⟩ (ci := 11) rfl rfl rfl rfl hl.1 rfl (Nat.le_of_ble_eq_true rfl) ⟨Nat.le_of_ble_eq_true rfl, Nat.le_of_ble_eq_true rfl⟩ dL_law_844 (fun r1 u1 H locs f1 hP hD hS => ?_)
  rw [← f1] at e1 hRel
  replace hP := P_swap hP
  replace hD := D_swap hD
  refine lv_aload_n hx hb dL_law_847 rfl (lv_at hl 2 rfl) ?_
  refine lv_aload_n hx hb dL_law_848 rfl (lv_at hl 0 rfl) ?_
  refine lv_iload_n hx hb dL_law_849 rfl (lv_at hl 3 rfl) ?_
  refine lv_iconst (v := 1) hx hb dL_law_850 (by decide) ?_
  refine lv_iadd hx hb dL_law_851 ?_
  refine va_sld hx hb hX hbl hbA hS v1 dL_law_852 ?_
  refine lv_aload_n hx hb dL_law_853 rfl (lv_at hl 0 rfl) ?_
  refine lv_iload_n hx hb dL_law_854 rfl (lv_at hl 3 rfl) ?_
  refine lv_iconst (v := 2) hx hb dL_law_855 (by decide) ?_
  refine lv_iadd hx hb dL_law_856 ?_
  refine va_sld hx hb hX hbl hbA hS v2 dL_law_857 ?_
  refine cxI (As := [.int (xs ((nI i) + (1 : Int32)).toNatClampNeg), .int (xs ((nI i) + (2 : Int32)).toNatClampNeg)]) (rest := [.int r1]) hx hb hml hown up hG hP hD hS hA k_L_108 (lnY_tell (l := l) (D := D) (cy := cy) b Y (xs ((nI i) + (1 : Int32)).toNatClampNeg) (xs ((nI i) + (2 : Int32)).toNatClampNeg) H.size ok2) ⟨Nat.le_of_ble_eq_true rfl, Nat.le_of_ble_eq_true rfl⟩ (ci := 12) rfl rfl rfl rfl hl.1 rfl (Nat.le_of_ble_eq_true rfl) ⟨Nat.le_of_ble_eq_true rfl, Nat.le_of_ble_eq_true rfl⟩ dL_law_858 (fun r2 u2 H locs f2 hP hD hS => ?_)
  rw [← f2] at e1 hRel
  replace hP := P_swap hP
  replace hD := D_swap hD
  refine lv_icmp_eq (tgt := 1575) hx hb dL_law_861 (by decide) (fun _ => ?_) (fun q => absurd e1 q)
  exact hc a u1 b u2 H locs ls hl hP hD hS hRel
set_option maxHeartbeats 4000000 in
set_option maxRecDepth 100000 in
theorem lc_judge {Rel : Bd → Bd → Prop} {p : Program} {l : Launch} {e : Env} {s : State} {m : MethodId} {below : List Frame} {meth : Method} {c : Code} {D : va_G} {cy : Nat → ClassId} {sb L i : Nat} {xs : Nat → Int32} {QQ : State → Prop} (hx : p.tables.exec = Jvm.exec) (hb : c.code = code) (hml : c.maxLocals = 4) (hown : s.vm.findClass RL = some m.cls) (up : ∀ w ∈ LW, w.before #[Value.ref sb] s = true) (hG : GW D cy s) (hX : va_X sb L xs s s.heap) (hbl : sb < s.heap.size) (hi : i + 6 ≤ L) (hL : L ≤ 384) (hop : Op_judge Rel) (hc : LCont Rel p l e s m below meth c D cy sb i QQ 1575) : LCont Rel p l e s m below meth c D cy sb i QQ 866 := by
  intro a X b Y H locs ls hl hP hD hS hRel
  have hA : ∀ q : Nat, s.heap.size ≤ q → LA s q := fun _ h => h
  have hbA : ¬ LA s sb := Nat.not_le.mpr hbl
  have v1 : vp_in (nI i + (1 : Int32)) L := by rw [show nI i + (1 : Int32) = nI (i + 1) from nI_add i 1]; exact vp_in_nI (by omega) (by omega)
  have v2 : vp_in (nI i + (2 : Int32)) L := by rw [show nI i + (2 : Int32) = nI (i + 2) from nI_add i 2]; exact vp_in_nI (by omega) (by omega)
  have v3 : vp_in (nI i + (3 : Int32)) L := by rw [show nI i + (3 : Int32) = nI (i + 3) from nI_add i 3]; exact vp_in_nI (by omega) (by omega)
  have v4 : vp_in (nI i + (4 : Int32)) L := by rw [show nI i + (4 : Int32) = nI (i + 4) from nI_add i 4]; exact vp_in_nI (by omega) (by omega)
  have v5 : vp_in (nI i + (5 : Int32)) L := by rw [show nI i + (5 : Int32) = nI (i + 5) from nI_add i 5]; exact vp_in_nI (by omega) (by omega)
  refine lv_aload_n hx hb dL_law_866 rfl (lv_at hl 1 rfl) ?_
  refine lv_aload_n hx hb dL_law_867 rfl (lv_at hl 0 rfl) ?_
  refine lv_iload_n hx hb dL_law_868 rfl (lv_at hl 3 rfl) ?_
  refine lv_iconst (v := 1) hx hb dL_law_869 (by decide) ?_
  refine lv_iadd hx hb dL_law_870 ?_
  refine va_sld hx hb hX hbl hbA hS v1 dL_law_871 ?_
  refine lv_aload_n hx hb dL_law_872 rfl (lv_at hl 0 rfl) ?_
  refine lv_iload_n hx hb dL_law_873 rfl (lv_at hl 3 rfl) ?_
  refine lv_iconst (v := 2) hx hb dL_law_874 (by decide) ?_
  refine lv_iadd hx hb dL_law_875 ?_
  refine va_sld hx hb hX hbl hbA hS v2 dL_law_876 ?_
  obtain ⟨ok1, ok2, e1, hRel⟩ := hop (xs ((nI i) + (1 : Int32)).toNatClampNeg) (xs ((nI i) + (2 : Int32)).toNatClampNeg) X Y a b hRel
  replace e1 : (nX_judge a X (xs ((nI i) + (1 : Int32)).toNatClampNeg) (xs ((nI i) + (2 : Int32)).toNatClampNeg)).1 = (nY_judge b Y (xs ((nI i) + (1 : Int32)).toNatClampNeg) (xs ((nI i) + (2 : Int32)).toNatClampNeg)).1 := e1
  replace hRel : Rel (nX_judge a X (xs ((nI i) + (1 : Int32)).toNatClampNeg) (xs ((nI i) + (2 : Int32)).toNatClampNeg)).2 (nY_judge b Y (xs ((nI i) + (1 : Int32)).toNatClampNeg) (xs ((nI i) + (2 : Int32)).toNatClampNeg)).2 := hRel
  refine cxI (As := [.int (xs ((nI i) + (1 : Int32)).toNatClampNeg), .int (xs ((nI i) + (2 : Int32)).toNatClampNeg)]) (rest := []) hx hb hml hown up hG hP hD hS hA k_L_109 (lnX_judge (l := l) (D := D) (cy := cy) a X (xs ((nI i) + (1 : Int32)).toNatClampNeg) (xs ((nI i) + (2 : Int32)).toNatClampNeg) H.size ok1) ⟨Nat.le_of_ble_eq_true rfl, Nat.le_of_ble_eq_true rfl⟩ (ci := 11) rfl rfl rfl rfl hl.1 rfl (Nat.le_of_ble_eq_true rfl) ⟨Nat.le_of_ble_eq_true rfl, Nat.le_of_ble_eq_true rfl⟩ dL_law_877 (fun r1 u1 H locs f1 hP hD hS => ?_)
  rw [← f1] at e1 hRel
  replace hP := P_swap hP
  replace hD := D_swap hD
  refine lv_aload_n hx hb dL_law_880 rfl (lv_at hl 2 rfl) ?_
  refine lv_aload_n hx hb dL_law_881 rfl (lv_at hl 0 rfl) ?_
  refine lv_iload_n hx hb dL_law_882 rfl (lv_at hl 3 rfl) ?_
  refine lv_iconst (v := 1) hx hb dL_law_883 (by decide) ?_
  refine lv_iadd hx hb dL_law_884 ?_
  refine va_sld hx hb hX hbl hbA hS v1 dL_law_885 ?_
  refine lv_aload_n hx hb dL_law_886 rfl (lv_at hl 0 rfl) ?_
  refine lv_iload_n hx hb dL_law_887 rfl (lv_at hl 3 rfl) ?_
  refine lv_iconst (v := 2) hx hb dL_law_888 (by decide) ?_
  refine lv_iadd hx hb dL_law_889 ?_
  refine va_sld hx hb hX hbl hbA hS v2 dL_law_890 ?_
  refine cxI (As := [.int (xs ((nI i) + (1 : Int32)).toNatClampNeg), .int (xs ((nI i) + (2 : Int32)).toNatClampNeg)]) (rest := [.int r1]) hx hb hml hown up hG hP hD hS hA k_L_112 (lnY_judge (l := l) (D := D) (cy := cy) b Y (xs ((nI i) + (1 : Int32)).toNatClampNeg) (xs ((nI i) + (2 : Int32)).toNatClampNeg) H.size ok2) ⟨Nat.le_of_ble_eq_true rfl, Nat.le_of_ble_eq_true rfl⟩ (ci := 12) rfl rfl rfl rfl hl.1 rfl (Nat.le_of_ble_eq_true rfl) ⟨Nat.le_of_ble_eq_true rfl, Nat.le_of_ble_eq_true rfl⟩ dL_law_891 (fun r2 u2 H locs f2 hP hD hS => ?_)
  rw [← f2] at e1 hRel
  replace hP := P_swap hP
  replace hD := D_swap hD
  refine lv_icmp_eq (tgt := 1575) hx hb dL_law_894 (by decide) (fun _ => ?_) (fun q => absurd e1 q)
  exact hc a u1 b u2 H locs ls hl hP hD hS hRel
set_option maxHeartbeats 4000000 in
set_option maxRecDepth 100000 in
theorem lc_find {Rel : Bd → Bd → Prop} {p : Program} {l : Launch} {e : Env} {s : State} {m : MethodId} {below : List Frame} {meth : Method} {c : Code} {D : va_G} {cy : Nat → ClassId} {sb L i : Nat} {xs : Nat → Int32} {QQ : State → Prop} (hx : p.tables.exec = Jvm.exec) (hb : c.code = code) (hml : c.maxLocals = 4) (hown : s.vm.findClass RL = some m.cls) (up : ∀ w ∈ LW, w.before #[Value.ref sb] s = true) (hG : GW D cy s) (hX : va_X sb L xs s s.heap) (hbl : sb < s.heap.size) (hi : i + 6 ≤ L) (hL : L ≤ 384) (hop : Op_find Rel) (hc : LCont Rel p l e s m below meth c D cy sb i QQ 1575) : LCont Rel p l e s m below meth c D cy sb i QQ 899 := by
  intro a X b Y H locs ls hl hP hD hS hRel
  have hA : ∀ q : Nat, s.heap.size ≤ q → LA s q := fun _ h => h
  have hbA : ¬ LA s sb := Nat.not_le.mpr hbl
  have v1 : vp_in (nI i + (1 : Int32)) L := by rw [show nI i + (1 : Int32) = nI (i + 1) from nI_add i 1]; exact vp_in_nI (by omega) (by omega)
  have v2 : vp_in (nI i + (2 : Int32)) L := by rw [show nI i + (2 : Int32) = nI (i + 2) from nI_add i 2]; exact vp_in_nI (by omega) (by omega)
  have v3 : vp_in (nI i + (3 : Int32)) L := by rw [show nI i + (3 : Int32) = nI (i + 3) from nI_add i 3]; exact vp_in_nI (by omega) (by omega)
  have v4 : vp_in (nI i + (4 : Int32)) L := by rw [show nI i + (4 : Int32) = nI (i + 4) from nI_add i 4]; exact vp_in_nI (by omega) (by omega)
  have v5 : vp_in (nI i + (5 : Int32)) L := by rw [show nI i + (5 : Int32) = nI (i + 5) from nI_add i 5]; exact vp_in_nI (by omega) (by omega)
  refine lv_aload_n hx hb dL_law_899 rfl (lv_at hl 1 rfl) ?_
  refine lv_aload_n hx hb dL_law_900 rfl (lv_at hl 0 rfl) ?_
  refine lv_iload_n hx hb dL_law_901 rfl (lv_at hl 3 rfl) ?_
  refine lv_iconst (v := 1) hx hb dL_law_902 (by decide) ?_
  refine lv_iadd hx hb dL_law_903 ?_
  refine va_sld hx hb hX hbl hbA hS v1 dL_law_904 ?_
  refine lv_aload_n hx hb dL_law_905 rfl (lv_at hl 0 rfl) ?_
  refine lv_iload_n hx hb dL_law_906 rfl (lv_at hl 3 rfl) ?_
  refine lv_iconst (v := 2) hx hb dL_law_907 (by decide) ?_
  refine lv_iadd hx hb dL_law_908 ?_
  refine va_sld hx hb hX hbl hbA hS v2 dL_law_909 ?_
  obtain ⟨ok1, ok2, e1, hRel⟩ := hop (xs ((nI i) + (1 : Int32)).toNatClampNeg) (xs ((nI i) + (2 : Int32)).toNatClampNeg) X Y a b hRel
  replace e1 : (nX_find a X (xs ((nI i) + (1 : Int32)).toNatClampNeg) (xs ((nI i) + (2 : Int32)).toNatClampNeg)).1 = (nY_find b Y (xs ((nI i) + (1 : Int32)).toNatClampNeg) (xs ((nI i) + (2 : Int32)).toNatClampNeg)).1 := e1
  replace hRel : Rel (nX_find a X (xs ((nI i) + (1 : Int32)).toNatClampNeg) (xs ((nI i) + (2 : Int32)).toNatClampNeg)).2 (nY_find b Y (xs ((nI i) + (1 : Int32)).toNatClampNeg) (xs ((nI i) + (2 : Int32)).toNatClampNeg)).2 := hRel
  refine cxI (As := [.int (xs ((nI i) + (1 : Int32)).toNatClampNeg), .int (xs ((nI i) + (2 : Int32)).toNatClampNeg)]) (rest := []) hx hb hml hown up hG hP hD hS hA k_L_113 (lnX_find (l := l) (D := D) (cy := cy) a X (xs ((nI i) + (1 : Int32)).toNatClampNeg) (xs ((nI i) + (2 : Int32)).toNatClampNeg) H.size ok1) ⟨Nat.le_of_ble_eq_true rfl, Nat.le_of_ble_eq_true rfl⟩ (ci := 11) rfl rfl rfl rfl hl.1 rfl (Nat.le_of_ble_eq_true rfl) ⟨Nat.le_of_ble_eq_true rfl, Nat.le_of_ble_eq_true rfl⟩ dL_law_910 (fun r1 u1 H locs f1 hP hD hS => ?_)
  rw [← f1] at e1 hRel
  replace hP := P_swap hP
  replace hD := D_swap hD
  refine lv_aload_n hx hb dL_law_913 rfl (lv_at hl 2 rfl) ?_
  refine lv_aload_n hx hb dL_law_914 rfl (lv_at hl 0 rfl) ?_
  refine lv_iload_n hx hb dL_law_915 rfl (lv_at hl 3 rfl) ?_
  refine lv_iconst (v := 1) hx hb dL_law_916 (by decide) ?_
  refine lv_iadd hx hb dL_law_917 ?_
  refine va_sld hx hb hX hbl hbA hS v1 dL_law_918 ?_
  refine lv_aload_n hx hb dL_law_919 rfl (lv_at hl 0 rfl) ?_
  refine lv_iload_n hx hb dL_law_920 rfl (lv_at hl 3 rfl) ?_
  refine lv_iconst (v := 2) hx hb dL_law_921 (by decide) ?_
  refine lv_iadd hx hb dL_law_922 ?_
  refine va_sld hx hb hX hbl hbA hS v2 dL_law_923 ?_
  refine cxI (As := [.int (xs ((nI i) + (1 : Int32)).toNatClampNeg), .int (xs ((nI i) + (2 : Int32)).toNatClampNeg)]) (rest := [.int r1]) hx hb hml hown up hG hP hD hS hA k_L_116 (lnY_find (l := l) (D := D) (cy := cy) b Y (xs ((nI i) + (1 : Int32)).toNatClampNeg) (xs ((nI i) + (2 : Int32)).toNatClampNeg) H.size ok2) ⟨Nat.le_of_ble_eq_true rfl, Nat.le_of_ble_eq_true rfl⟩ (ci := 12) rfl rfl rfl rfl hl.1 rfl (Nat.le_of_ble_eq_true rfl) ⟨Nat.le_of_ble_eq_true rfl, Nat.le_of_ble_eq_true rfl⟩ dL_law_924 (fun r2 u2 H locs f2 hP hD hS => ?_)
  rw [← f2] at e1 hRel
  replace hP := P_swap hP
  replace hD := D_swap hD
  refine lv_icmp_eq (tgt := 1575) hx hb dL_law_927 (by decide) (fun _ => ?_) (fun q => absurd e1 q)
  exact hc a u1 b u2 H locs ls hl hP hD hS hRel
set_option maxHeartbeats 4000000 in
set_option maxRecDepth 100000 in
theorem lc_from {Rel : Bd → Bd → Prop} {p : Program} {l : Launch} {e : Env} {s : State} {m : MethodId} {below : List Frame} {meth : Method} {c : Code} {D : va_G} {cy : Nat → ClassId} {sb L i : Nat} {xs : Nat → Int32} {QQ : State → Prop} (hx : p.tables.exec = Jvm.exec) (hb : c.code = code) (hml : c.maxLocals = 4) (hown : s.vm.findClass RL = some m.cls) (up : ∀ w ∈ LW, w.before #[Value.ref sb] s = true) (hG : GW D cy s) (hX : va_X sb L xs s s.heap) (hbl : sb < s.heap.size) (hi : i + 6 ≤ L) (hL : L ≤ 384) (hop : Op_from Rel) (hc : LCont Rel p l e s m below meth c D cy sb i QQ 1575) : LCont Rel p l e s m below meth c D cy sb i QQ 932 := by
  intro a X b Y H locs ls hl hP hD hS hRel
  have hA : ∀ q : Nat, s.heap.size ≤ q → LA s q := fun _ h => h
  have hbA : ¬ LA s sb := Nat.not_le.mpr hbl
  have v1 : vp_in (nI i + (1 : Int32)) L := by rw [show nI i + (1 : Int32) = nI (i + 1) from nI_add i 1]; exact vp_in_nI (by omega) (by omega)
  have v2 : vp_in (nI i + (2 : Int32)) L := by rw [show nI i + (2 : Int32) = nI (i + 2) from nI_add i 2]; exact vp_in_nI (by omega) (by omega)
  have v3 : vp_in (nI i + (3 : Int32)) L := by rw [show nI i + (3 : Int32) = nI (i + 3) from nI_add i 3]; exact vp_in_nI (by omega) (by omega)
  have v4 : vp_in (nI i + (4 : Int32)) L := by rw [show nI i + (4 : Int32) = nI (i + 4) from nI_add i 4]; exact vp_in_nI (by omega) (by omega)
  have v5 : vp_in (nI i + (5 : Int32)) L := by rw [show nI i + (5 : Int32) = nI (i + 5) from nI_add i 5]; exact vp_in_nI (by omega) (by omega)
  refine lv_aload_n hx hb dL_law_932 rfl (lv_at hl 1 rfl) ?_
  refine lv_aload_n hx hb dL_law_933 rfl (lv_at hl 0 rfl) ?_
  refine lv_iload_n hx hb dL_law_934 rfl (lv_at hl 3 rfl) ?_
  refine lv_iconst (v := 1) hx hb dL_law_935 (by decide) ?_
  refine lv_iadd hx hb dL_law_936 ?_
  refine va_sld hx hb hX hbl hbA hS v1 dL_law_937 ?_
  refine lv_aload_n hx hb dL_law_938 rfl (lv_at hl 0 rfl) ?_
  refine lv_iload_n hx hb dL_law_939 rfl (lv_at hl 3 rfl) ?_
  refine lv_iconst (v := 2) hx hb dL_law_940 (by decide) ?_
  refine lv_iadd hx hb dL_law_941 ?_
  refine va_sld hx hb hX hbl hbA hS v2 dL_law_942 ?_
  obtain ⟨ok1, ok2, e1, hRel⟩ := hop (xs ((nI i) + (1 : Int32)).toNatClampNeg) (xs ((nI i) + (2 : Int32)).toNatClampNeg) X Y a b hRel
  replace e1 : (nX_from a X (xs ((nI i) + (1 : Int32)).toNatClampNeg) (xs ((nI i) + (2 : Int32)).toNatClampNeg)).1 = (nY_from b Y (xs ((nI i) + (1 : Int32)).toNatClampNeg) (xs ((nI i) + (2 : Int32)).toNatClampNeg)).1 := e1
  replace hRel : Rel (nX_from a X (xs ((nI i) + (1 : Int32)).toNatClampNeg) (xs ((nI i) + (2 : Int32)).toNatClampNeg)).2 (nY_from b Y (xs ((nI i) + (1 : Int32)).toNatClampNeg) (xs ((nI i) + (2 : Int32)).toNatClampNeg)).2 := hRel
  refine cxI (As := [.int (xs ((nI i) + (1 : Int32)).toNatClampNeg), .int (xs ((nI i) + (2 : Int32)).toNatClampNeg)]) (rest := []) hx hb hml hown up hG hP hD hS hA k_L_117 (lnX_from (l := l) (D := D) (cy := cy) a X (xs ((nI i) + (1 : Int32)).toNatClampNeg) (xs ((nI i) + (2 : Int32)).toNatClampNeg) H.size ok1) ⟨Nat.le_of_ble_eq_true rfl, Nat.le_of_ble_eq_true rfl⟩ (ci := 11) rfl rfl rfl rfl hl.1 rfl (Nat.le_of_ble_eq_true rfl) ⟨Nat.le_of_ble_eq_true rfl, Nat.le_of_ble_eq_true rfl⟩ dL_law_943 (fun r1 u1 H locs f1 hP hD hS => ?_)
  rw [← f1] at e1 hRel
  replace hP := P_swap hP
  replace hD := D_swap hD
  refine lv_aload_n hx hb dL_law_946 rfl (lv_at hl 2 rfl) ?_
  refine lv_aload_n hx hb dL_law_947 rfl (lv_at hl 0 rfl) ?_
  refine lv_iload_n hx hb dL_law_948 rfl (lv_at hl 3 rfl) ?_
  refine lv_iconst (v := 1) hx hb dL_law_949 (by decide) ?_
  refine lv_iadd hx hb dL_law_950 ?_
  refine va_sld hx hb hX hbl hbA hS v1 dL_law_951 ?_
  refine lv_aload_n hx hb dL_law_952 rfl (lv_at hl 0 rfl) ?_
  refine lv_iload_n hx hb dL_law_953 rfl (lv_at hl 3 rfl) ?_
  refine lv_iconst (v := 2) hx hb dL_law_954 (by decide) ?_
  refine lv_iadd hx hb dL_law_955 ?_
  refine va_sld hx hb hX hbl hbA hS v2 dL_law_956 ?_
  refine cxI (As := [.int (xs ((nI i) + (1 : Int32)).toNatClampNeg), .int (xs ((nI i) + (2 : Int32)).toNatClampNeg)]) (rest := [.int r1]) hx hb hml hown up hG hP hD hS hA k_L_120 (lnY_from (l := l) (D := D) (cy := cy) b Y (xs ((nI i) + (1 : Int32)).toNatClampNeg) (xs ((nI i) + (2 : Int32)).toNatClampNeg) H.size ok2) ⟨Nat.le_of_ble_eq_true rfl, Nat.le_of_ble_eq_true rfl⟩ (ci := 12) rfl rfl rfl rfl hl.1 rfl (Nat.le_of_ble_eq_true rfl) ⟨Nat.le_of_ble_eq_true rfl, Nat.le_of_ble_eq_true rfl⟩ dL_law_957 (fun r2 u2 H locs f2 hP hD hS => ?_)
  rw [← f2] at e1 hRel
  replace hP := P_swap hP
  replace hD := D_swap hD
  refine lv_icmp_eq (tgt := 1575) hx hb dL_law_960 (by decide) (fun _ => ?_) (fun q => absurd e1 q)
  exact hc a u1 b u2 H locs ls hl hP hD hS hRel
set_option maxHeartbeats 4000000 in
set_option maxRecDepth 100000 in
theorem lc_way {Rel : Bd → Bd → Prop} {p : Program} {l : Launch} {e : Env} {s : State} {m : MethodId} {below : List Frame} {meth : Method} {c : Code} {D : va_G} {cy : Nat → ClassId} {sb L i : Nat} {xs : Nat → Int32} {QQ : State → Prop} (hx : p.tables.exec = Jvm.exec) (hb : c.code = code) (hml : c.maxLocals = 4) (hown : s.vm.findClass RL = some m.cls) (up : ∀ w ∈ LW, w.before #[Value.ref sb] s = true) (hG : GW D cy s) (hX : va_X sb L xs s s.heap) (hbl : sb < s.heap.size) (hi : i + 6 ≤ L) (hL : L ≤ 384) (hop : Op_way Rel) (hc : LCont Rel p l e s m below meth c D cy sb i QQ 1575) : LCont Rel p l e s m below meth c D cy sb i QQ 965 := by
  intro a X b Y H locs ls hl hP hD hS hRel
  have hA : ∀ q : Nat, s.heap.size ≤ q → LA s q := fun _ h => h
  have hbA : ¬ LA s sb := Nat.not_le.mpr hbl
  have v1 : vp_in (nI i + (1 : Int32)) L := by rw [show nI i + (1 : Int32) = nI (i + 1) from nI_add i 1]; exact vp_in_nI (by omega) (by omega)
  have v2 : vp_in (nI i + (2 : Int32)) L := by rw [show nI i + (2 : Int32) = nI (i + 2) from nI_add i 2]; exact vp_in_nI (by omega) (by omega)
  have v3 : vp_in (nI i + (3 : Int32)) L := by rw [show nI i + (3 : Int32) = nI (i + 3) from nI_add i 3]; exact vp_in_nI (by omega) (by omega)
  have v4 : vp_in (nI i + (4 : Int32)) L := by rw [show nI i + (4 : Int32) = nI (i + 4) from nI_add i 4]; exact vp_in_nI (by omega) (by omega)
  have v5 : vp_in (nI i + (5 : Int32)) L := by rw [show nI i + (5 : Int32) = nI (i + 5) from nI_add i 5]; exact vp_in_nI (by omega) (by omega)
  refine lv_aload_n hx hb dL_law_965 rfl (lv_at hl 1 rfl) ?_
  refine lv_aload_n hx hb dL_law_966 rfl (lv_at hl 0 rfl) ?_
  refine lv_iload_n hx hb dL_law_967 rfl (lv_at hl 3 rfl) ?_
  refine lv_iconst (v := 1) hx hb dL_law_968 (by decide) ?_
  refine lv_iadd hx hb dL_law_969 ?_
  refine va_sld hx hb hX hbl hbA hS v1 dL_law_970 ?_
  refine lv_aload_n hx hb dL_law_971 rfl (lv_at hl 0 rfl) ?_
  refine lv_iload_n hx hb dL_law_972 rfl (lv_at hl 3 rfl) ?_
  refine lv_iconst (v := 2) hx hb dL_law_973 (by decide) ?_
  refine lv_iadd hx hb dL_law_974 ?_
  refine va_sld hx hb hX hbl hbA hS v2 dL_law_975 ?_
  refine lv_aload_n hx hb dL_law_976 rfl (lv_at hl 0 rfl) ?_
  refine lv_iload_n hx hb dL_law_977 rfl (lv_at hl 3 rfl) ?_
  refine lv_iconst (v := 3) hx hb dL_law_978 (by decide) ?_
  refine lv_iadd hx hb dL_law_979 ?_
  refine va_sld hx hb hX hbl hbA hS v3 dL_law_980 ?_
  obtain ⟨ok1, ok2, e1, hRel⟩ := hop (xs ((nI i) + (1 : Int32)).toNatClampNeg) (xs ((nI i) + (2 : Int32)).toNatClampNeg) (xs ((nI i) + (3 : Int32)).toNatClampNeg) X Y a b hRel
  replace e1 : (nX_way a X (xs ((nI i) + (1 : Int32)).toNatClampNeg) (xs ((nI i) + (2 : Int32)).toNatClampNeg) (xs ((nI i) + (3 : Int32)).toNatClampNeg)).1 = (nY_way b Y (xs ((nI i) + (1 : Int32)).toNatClampNeg) (xs ((nI i) + (2 : Int32)).toNatClampNeg) (xs ((nI i) + (3 : Int32)).toNatClampNeg)).1 := e1
  replace hRel : Rel (nX_way a X (xs ((nI i) + (1 : Int32)).toNatClampNeg) (xs ((nI i) + (2 : Int32)).toNatClampNeg) (xs ((nI i) + (3 : Int32)).toNatClampNeg)).2 (nY_way b Y (xs ((nI i) + (1 : Int32)).toNatClampNeg) (xs ((nI i) + (2 : Int32)).toNatClampNeg) (xs ((nI i) + (3 : Int32)).toNatClampNeg)).2 := hRel
  refine cxI (As := [.int (xs ((nI i) + (1 : Int32)).toNatClampNeg), .int (xs ((nI i) + (2 : Int32)).toNatClampNeg), .int (xs ((nI i) + (3 : Int32)).toNatClampNeg)]) (rest := []) hx hb hml hown up hG hP hD hS hA k_L_121 (lnX_way (l := l) (D := D) (cy := cy) a X (xs ((nI i) + (1 : Int32)).toNatClampNeg) (xs ((nI i) + (2 : Int32)).toNatClampNeg) (xs ((nI i) + (3 : Int32)).toNatClampNeg) H.size ok1) ⟨Nat.le_of_ble_eq_true rfl, Nat.le_of_ble_eq_true rfl⟩ (ci := 11) rfl rfl rfl rfl hl.1 rfl (Nat.le_of_ble_eq_true rfl) ⟨Nat.le_of_ble_eq_true rfl, Nat.le_of_ble_eq_true rfl⟩ dL_law_981 (fun r1 u1 H locs f1 hP hD hS => ?_)
  rw [← f1] at e1 hRel
  replace hP := P_swap hP
  replace hD := D_swap hD
  refine lv_aload_n hx hb dL_law_984 rfl (lv_at hl 2 rfl) ?_
  refine lv_aload_n hx hb dL_law_985 rfl (lv_at hl 0 rfl) ?_
  refine lv_iload_n hx hb dL_law_986 rfl (lv_at hl 3 rfl) ?_
  refine lv_iconst (v := 1) hx hb dL_law_987 (by decide) ?_
  refine lv_iadd hx hb dL_law_988 ?_
  refine va_sld hx hb hX hbl hbA hS v1 dL_law_989 ?_
  refine lv_aload_n hx hb dL_law_990 rfl (lv_at hl 0 rfl) ?_
  refine lv_iload_n hx hb dL_law_991 rfl (lv_at hl 3 rfl) ?_
  refine lv_iconst (v := 2) hx hb dL_law_992 (by decide) ?_
  refine lv_iadd hx hb dL_law_993 ?_
  refine va_sld hx hb hX hbl hbA hS v2 dL_law_994 ?_
  refine lv_aload_n hx hb dL_law_995 rfl (lv_at hl 0 rfl) ?_
  refine lv_iload_n hx hb dL_law_996 rfl (lv_at hl 3 rfl) ?_
  refine lv_iconst (v := 3) hx hb dL_law_997 (by decide) ?_
  refine lv_iadd hx hb dL_law_998 ?_
  refine va_sld hx hb hX hbl hbA hS v3 dL_law_999 ?_
  refine cxI (As := [.int (xs ((nI i) + (1 : Int32)).toNatClampNeg), .int (xs ((nI i) + (2 : Int32)).toNatClampNeg), .int (xs ((nI i) + (3 : Int32)).toNatClampNeg)]) (rest := [.int r1]) hx hb hml hown up hG hP hD hS hA k_L_124 (lnY_way (l := l) (D := D) (cy := cy) b Y (xs ((nI i) + (1 : Int32)).toNatClampNeg) (xs ((nI i) + (2 : Int32)).toNatClampNeg) (xs ((nI i) + (3 : Int32)).toNatClampNeg) H.size ok2) ⟨Nat.le_of_ble_eq_true rfl, Nat.le_of_ble_eq_true rfl⟩ (ci := 12) rfl rfl rfl rfl hl.1 rfl (Nat.le_of_ble_eq_true rfl) ⟨Nat.le_of_ble_eq_true rfl, Nat.le_of_ble_eq_true rfl⟩ dL_law_1000 (fun r2 u2 H locs f2 hP hD hS => ?_)
  rw [← f2] at e1 hRel
  replace hP := P_swap hP
  replace hD := D_swap hD
  refine lv_icmp_eq (tgt := 1575) hx hb dL_law_1003 (by decide) (fun _ => ?_) (fun q => absurd e1 q)
  exact hc a u1 b u2 H locs ls hl hP hD hS hRel
set_option maxHeartbeats 4000000 in
set_option maxRecDepth 100000 in
theorem lc_bar {Rel : Bd → Bd → Prop} {p : Program} {l : Launch} {e : Env} {s : State} {m : MethodId} {below : List Frame} {meth : Method} {c : Code} {D : va_G} {cy : Nat → ClassId} {sb L i : Nat} {xs : Nat → Int32} {QQ : State → Prop} (hx : p.tables.exec = Jvm.exec) (hb : c.code = code) (hml : c.maxLocals = 4) (hown : s.vm.findClass RL = some m.cls) (up : ∀ w ∈ LW, w.before #[Value.ref sb] s = true) (hG : GW D cy s) (hX : va_X sb L xs s s.heap) (hbl : sb < s.heap.size) (hi : i + 6 ≤ L) (hL : L ≤ 384) (hop : Op_bar Rel) (hc : LCont Rel p l e s m below meth c D cy sb i QQ 1575) : LCont Rel p l e s m below meth c D cy sb i QQ 1008 := by
  intro a X b Y H locs ls hl hP hD hS hRel
  have hA : ∀ q : Nat, s.heap.size ≤ q → LA s q := fun _ h => h
  have hbA : ¬ LA s sb := Nat.not_le.mpr hbl
  have v1 : vp_in (nI i + (1 : Int32)) L := by rw [show nI i + (1 : Int32) = nI (i + 1) from nI_add i 1]; exact vp_in_nI (by omega) (by omega)
  have v2 : vp_in (nI i + (2 : Int32)) L := by rw [show nI i + (2 : Int32) = nI (i + 2) from nI_add i 2]; exact vp_in_nI (by omega) (by omega)
  have v3 : vp_in (nI i + (3 : Int32)) L := by rw [show nI i + (3 : Int32) = nI (i + 3) from nI_add i 3]; exact vp_in_nI (by omega) (by omega)
  have v4 : vp_in (nI i + (4 : Int32)) L := by rw [show nI i + (4 : Int32) = nI (i + 4) from nI_add i 4]; exact vp_in_nI (by omega) (by omega)
  have v5 : vp_in (nI i + (5 : Int32)) L := by rw [show nI i + (5 : Int32) = nI (i + 5) from nI_add i 5]; exact vp_in_nI (by omega) (by omega)
  refine lv_aload_n hx hb dL_law_1008 rfl (lv_at hl 1 rfl) ?_
  obtain ⟨ok1, ok2, e1, hRel⟩ := hop X Y a b hRel
  replace e1 : (nX_bar a X).1 = (nY_bar b Y).1 := e1
  replace hRel : Rel (nX_bar a X).2 (nY_bar b Y).2 := hRel
  refine cxI (As := []) (rest := []) hx hb hml hown up hG hP hD hS hA k_L_125 (lnX_bar (l := l) (D := D) (cy := cy) a X H.size ok1) ⟨Nat.le_of_ble_eq_true rfl, Nat.le_of_ble_eq_true rfl⟩ (ci := 11) rfl rfl rfl rfl hl.1 rfl (Nat.le_of_ble_eq_true rfl) ⟨Nat.le_of_ble_eq_true rfl, Nat.le_of_ble_eq_true rfl⟩ dL_law_1009 (fun r1 u1 H locs f1 hP hD hS => ?_)
  rw [← f1] at e1 hRel
  replace hP := P_swap hP
  replace hD := D_swap hD
  refine lv_aload_n hx hb dL_law_1012 rfl (lv_at hl 2 rfl) ?_
  refine cxI (As := []) (rest := [.int r1]) hx hb hml hown up hG hP hD hS hA k_L_128 (lnY_bar (l := l) (D := D) (cy := cy) b Y H.size ok2) ⟨Nat.le_of_ble_eq_true rfl, Nat.le_of_ble_eq_true rfl⟩ (ci := 12) rfl rfl rfl rfl hl.1 rfl (Nat.le_of_ble_eq_true rfl) ⟨Nat.le_of_ble_eq_true rfl, Nat.le_of_ble_eq_true rfl⟩ dL_law_1013 (fun r2 u2 H locs f2 hP hD hS => ?_)
  rw [← f2] at e1 hRel
  replace hP := P_swap hP
  replace hD := D_swap hD
  refine lv_icmp_eq (tgt := 1575) hx hb dL_law_1016 (by decide) (fun _ => ?_) (fun q => absurd e1 q)
  exact hc a u1 b u2 H locs ls hl hP hD hS hRel
set_option maxHeartbeats 4000000 in
set_option maxRecDepth 100000 in
theorem lc_brief {Rel : Bd → Bd → Prop} {p : Program} {l : Launch} {e : Env} {s : State} {m : MethodId} {below : List Frame} {meth : Method} {c : Code} {D : va_G} {cy : Nat → ClassId} {sb L i : Nat} {xs : Nat → Int32} {QQ : State → Prop} (hx : p.tables.exec = Jvm.exec) (hb : c.code = code) (hml : c.maxLocals = 4) (hown : s.vm.findClass RL = some m.cls) (up : ∀ w ∈ LW, w.before #[Value.ref sb] s = true) (hG : GW D cy s) (hX : va_X sb L xs s s.heap) (hbl : sb < s.heap.size) (hi : i + 6 ≤ L) (hL : L ≤ 384) (hop : Op_brief Rel) (hc : LCont Rel p l e s m below meth c D cy sb i QQ 1575) : LCont Rel p l e s m below meth c D cy sb i QQ 1021 := by
  intro a X b Y H locs ls hl hP hD hS hRel
  have hA : ∀ q : Nat, s.heap.size ≤ q → LA s q := fun _ h => h
  have hbA : ¬ LA s sb := Nat.not_le.mpr hbl
  have v1 : vp_in (nI i + (1 : Int32)) L := by rw [show nI i + (1 : Int32) = nI (i + 1) from nI_add i 1]; exact vp_in_nI (by omega) (by omega)
  have v2 : vp_in (nI i + (2 : Int32)) L := by rw [show nI i + (2 : Int32) = nI (i + 2) from nI_add i 2]; exact vp_in_nI (by omega) (by omega)
  have v3 : vp_in (nI i + (3 : Int32)) L := by rw [show nI i + (3 : Int32) = nI (i + 3) from nI_add i 3]; exact vp_in_nI (by omega) (by omega)
  have v4 : vp_in (nI i + (4 : Int32)) L := by rw [show nI i + (4 : Int32) = nI (i + 4) from nI_add i 4]; exact vp_in_nI (by omega) (by omega)
  have v5 : vp_in (nI i + (5 : Int32)) L := by rw [show nI i + (5 : Int32) = nI (i + 5) from nI_add i 5]; exact vp_in_nI (by omega) (by omega)
  refine lv_aload_n hx hb dL_law_1021 rfl (lv_at hl 1 rfl) ?_
  refine lv_aload_n hx hb dL_law_1022 rfl (lv_at hl 0 rfl) ?_
  refine lv_iload_n hx hb dL_law_1023 rfl (lv_at hl 3 rfl) ?_
  refine lv_iconst (v := 1) hx hb dL_law_1024 (by decide) ?_
  refine lv_iadd hx hb dL_law_1025 ?_
  refine va_sld hx hb hX hbl hbA hS v1 dL_law_1026 ?_
  refine lv_aload_n hx hb dL_law_1027 rfl (lv_at hl 0 rfl) ?_
  refine lv_iload_n hx hb dL_law_1028 rfl (lv_at hl 3 rfl) ?_
  refine lv_iconst (v := 2) hx hb dL_law_1029 (by decide) ?_
  refine lv_iadd hx hb dL_law_1030 ?_
  refine va_sld hx hb hX hbl hbA hS v2 dL_law_1031 ?_
  refine lv_aload_n hx hb dL_law_1032 rfl (lv_at hl 0 rfl) ?_
  refine lv_iload_n hx hb dL_law_1033 rfl (lv_at hl 3 rfl) ?_
  refine lv_iconst (v := 3) hx hb dL_law_1034 (by decide) ?_
  refine lv_iadd hx hb dL_law_1035 ?_
  refine va_sld hx hb hX hbl hbA hS v3 dL_law_1036 ?_
  obtain ⟨ok1, ok2, e1, hRel⟩ := hop (xs ((nI i) + (1 : Int32)).toNatClampNeg) (xs ((nI i) + (2 : Int32)).toNatClampNeg) (xs ((nI i) + (3 : Int32)).toNatClampNeg) X Y a b hRel
  replace e1 : (nX_brief a X (xs ((nI i) + (1 : Int32)).toNatClampNeg) (xs ((nI i) + (2 : Int32)).toNatClampNeg) (xs ((nI i) + (3 : Int32)).toNatClampNeg)).1 = (nY_brief b Y (xs ((nI i) + (1 : Int32)).toNatClampNeg) (xs ((nI i) + (2 : Int32)).toNatClampNeg) (xs ((nI i) + (3 : Int32)).toNatClampNeg)).1 := e1
  replace hRel : Rel (nX_brief a X (xs ((nI i) + (1 : Int32)).toNatClampNeg) (xs ((nI i) + (2 : Int32)).toNatClampNeg) (xs ((nI i) + (3 : Int32)).toNatClampNeg)).2 (nY_brief b Y (xs ((nI i) + (1 : Int32)).toNatClampNeg) (xs ((nI i) + (2 : Int32)).toNatClampNeg) (xs ((nI i) + (3 : Int32)).toNatClampNeg)).2 := hRel
  refine cxI (As := [.int (xs ((nI i) + (1 : Int32)).toNatClampNeg), .int (xs ((nI i) + (2 : Int32)).toNatClampNeg), .int (xs ((nI i) + (3 : Int32)).toNatClampNeg)]) (rest := []) hx hb hml hown up hG hP hD hS hA k_L_129 (lnX_brief (l := l) (D := D) (cy := cy) a X (xs ((nI i) + (1 : Int32)).toNatClampNeg) (xs ((nI i) + (2 : Int32)).toNatClampNeg) (xs ((nI i) + (3 : Int32)).toNatClampNeg) H.size ok1) ⟨Nat.le_of_ble_eq_true rfl, Nat.le_of_ble_eq_true rfl⟩ (ci := 11) rfl rfl rfl rfl hl.1 rfl (Nat.le_of_ble_eq_true rfl) ⟨Nat.le_of_ble_eq_true rfl, Nat.le_of_ble_eq_true rfl⟩ dL_law_1037 (fun r1 u1 H locs f1 hP hD hS => ?_)
  rw [← f1] at e1 hRel
  replace hP := P_swap hP
  replace hD := D_swap hD
  refine lv_aload_n hx hb dL_law_1040 rfl (lv_at hl 2 rfl) ?_
  refine lv_aload_n hx hb dL_law_1041 rfl (lv_at hl 0 rfl) ?_
  refine lv_iload_n hx hb dL_law_1042 rfl (lv_at hl 3 rfl) ?_
  refine lv_iconst (v := 1) hx hb dL_law_1043 (by decide) ?_
  refine lv_iadd hx hb dL_law_1044 ?_
  refine va_sld hx hb hX hbl hbA hS v1 dL_law_1045 ?_
  refine lv_aload_n hx hb dL_law_1046 rfl (lv_at hl 0 rfl) ?_
  refine lv_iload_n hx hb dL_law_1047 rfl (lv_at hl 3 rfl) ?_
  refine lv_iconst (v := 2) hx hb dL_law_1048 (by decide) ?_
  refine lv_iadd hx hb dL_law_1049 ?_
  refine va_sld hx hb hX hbl hbA hS v2 dL_law_1050 ?_
  refine lv_aload_n hx hb dL_law_1051 rfl (lv_at hl 0 rfl) ?_
  refine lv_iload_n hx hb dL_law_1052 rfl (lv_at hl 3 rfl) ?_
  refine lv_iconst (v := 3) hx hb dL_law_1053 (by decide) ?_
  refine lv_iadd hx hb dL_law_1054 ?_
  refine va_sld hx hb hX hbl hbA hS v3 dL_law_1055 ?_
  refine cxI (As := [.int (xs ((nI i) + (1 : Int32)).toNatClampNeg), .int (xs ((nI i) + (2 : Int32)).toNatClampNeg), .int (xs ((nI i) + (3 : Int32)).toNatClampNeg)]) (rest := [.int r1]) hx hb hml hown up hG hP hD hS hA k_L_132 (lnY_brief (l := l) (D := D) (cy := cy) b Y (xs ((nI i) + (1 : Int32)).toNatClampNeg) (xs ((nI i) + (2 : Int32)).toNatClampNeg) (xs ((nI i) + (3 : Int32)).toNatClampNeg) H.size ok2) ⟨Nat.le_of_ble_eq_true rfl, Nat.le_of_ble_eq_true rfl⟩ (ci := 12) rfl rfl rfl rfl hl.1 rfl (Nat.le_of_ble_eq_true rfl) ⟨Nat.le_of_ble_eq_true rfl, Nat.le_of_ble_eq_true rfl⟩ dL_law_1056 (fun r2 u2 H locs f2 hP hD hS => ?_)
  rw [← f2] at e1 hRel
  replace hP := P_swap hP
  replace hD := D_swap hD
  refine lv_icmp_eq (tgt := 1575) hx hb dL_law_1059 (by decide) (fun _ => ?_) (fun q => absurd e1 q)
  exact hc a u1 b u2 H locs ls hl hP hD hS hRel
set_option maxHeartbeats 4000000 in
set_option maxRecDepth 100000 in
theorem lc_briefPrice {Rel : Bd → Bd → Prop} {p : Program} {l : Launch} {e : Env} {s : State} {m : MethodId} {below : List Frame} {meth : Method} {c : Code} {D : va_G} {cy : Nat → ClassId} {sb L i : Nat} {xs : Nat → Int32} {QQ : State → Prop} (hx : p.tables.exec = Jvm.exec) (hb : c.code = code) (hml : c.maxLocals = 4) (hown : s.vm.findClass RL = some m.cls) (up : ∀ w ∈ LW, w.before #[Value.ref sb] s = true) (hG : GW D cy s) (hX : va_X sb L xs s s.heap) (hbl : sb < s.heap.size) (hi : i + 6 ≤ L) (hL : L ≤ 384) (hop : Op_briefPrice Rel) (hc : LCont Rel p l e s m below meth c D cy sb i QQ 1575) : LCont Rel p l e s m below meth c D cy sb i QQ 1064 := by
  intro a X b Y H locs ls hl hP hD hS hRel
  have hA : ∀ q : Nat, s.heap.size ≤ q → LA s q := fun _ h => h
  have hbA : ¬ LA s sb := Nat.not_le.mpr hbl
  have v1 : vp_in (nI i + (1 : Int32)) L := by rw [show nI i + (1 : Int32) = nI (i + 1) from nI_add i 1]; exact vp_in_nI (by omega) (by omega)
  have v2 : vp_in (nI i + (2 : Int32)) L := by rw [show nI i + (2 : Int32) = nI (i + 2) from nI_add i 2]; exact vp_in_nI (by omega) (by omega)
  have v3 : vp_in (nI i + (3 : Int32)) L := by rw [show nI i + (3 : Int32) = nI (i + 3) from nI_add i 3]; exact vp_in_nI (by omega) (by omega)
  have v4 : vp_in (nI i + (4 : Int32)) L := by rw [show nI i + (4 : Int32) = nI (i + 4) from nI_add i 4]; exact vp_in_nI (by omega) (by omega)
  have v5 : vp_in (nI i + (5 : Int32)) L := by rw [show nI i + (5 : Int32) = nI (i + 5) from nI_add i 5]; exact vp_in_nI (by omega) (by omega)
  by_cases t_0 : (xs ((nI i) + (4 : Int32)).toNatClampNeg) = 0
  · refine lv_aload_n hx hb dL_law_1064 rfl (lv_at hl 1 rfl) ?_
    refine lv_aload_n hx hb dL_law_1065 rfl (lv_at hl 0 rfl) ?_
    refine lv_iload_n hx hb dL_law_1066 rfl (lv_at hl 3 rfl) ?_
    refine lv_iconst (v := 1) hx hb dL_law_1067 (by decide) ?_
    refine lv_iadd hx hb dL_law_1068 ?_
    refine va_sld hx hb hX hbl hbA hS v1 dL_law_1069 ?_
    refine lv_aload_n hx hb dL_law_1070 rfl (lv_at hl 0 rfl) ?_
    refine lv_iload_n hx hb dL_law_1071 rfl (lv_at hl 3 rfl) ?_
    refine lv_iconst (v := 2) hx hb dL_law_1072 (by decide) ?_
    refine lv_iadd hx hb dL_law_1073 ?_
    refine va_sld hx hb hX hbl hbA hS v2 dL_law_1074 ?_
    refine lv_aload_n hx hb dL_law_1075 rfl (lv_at hl 0 rfl) ?_
    refine lv_iload_n hx hb dL_law_1076 rfl (lv_at hl 3 rfl) ?_
    refine lv_iconst (v := 3) hx hb dL_law_1077 (by decide) ?_
    refine lv_iadd hx hb dL_law_1078 ?_
    refine va_sld hx hb hX hbl hbA hS v3 dL_law_1079 ?_
    refine lv_aload_n hx hb dL_law_1080 rfl (lv_at hl 0 rfl) ?_
    refine lv_iload_n hx hb dL_law_1081 rfl (lv_at hl 3 rfl) ?_
    refine lv_iconst (v := 4) hx hb dL_law_1082 (by decide) ?_
    refine lv_iadd hx hb dL_law_1083 ?_
    refine va_sld hx hb hX hbl hbA hS v4 dL_law_1084 ?_
    refine lv_if_eq (tgt := 1092) hx hb dL_law_1085 (by decide) (fun _ => ?_) (fun q => absurd t_0 q)
    refine lv_iconst (v := 0) hx hb dL_law_1092 (by decide) ?_
    obtain ⟨ok1, ok2, e1, hRel⟩ := hop (xs ((nI i) + (1 : Int32)).toNatClampNeg) (xs ((nI i) + (2 : Int32)).toNatClampNeg) (xs ((nI i) + (3 : Int32)).toNatClampNeg) (0 : Int32) X Y a b hRel
    replace e1 : (nX_briefPrice a X (xs ((nI i) + (1 : Int32)).toNatClampNeg) (xs ((nI i) + (2 : Int32)).toNatClampNeg) (xs ((nI i) + (3 : Int32)).toNatClampNeg) (0 : Int32)).1 = (nY_briefPrice b Y (xs ((nI i) + (1 : Int32)).toNatClampNeg) (xs ((nI i) + (2 : Int32)).toNatClampNeg) (xs ((nI i) + (3 : Int32)).toNatClampNeg) (0 : Int32)).1 := e1
    replace hRel : Rel (nX_briefPrice a X (xs ((nI i) + (1 : Int32)).toNatClampNeg) (xs ((nI i) + (2 : Int32)).toNatClampNeg) (xs ((nI i) + (3 : Int32)).toNatClampNeg) (0 : Int32)).2 (nY_briefPrice b Y (xs ((nI i) + (1 : Int32)).toNatClampNeg) (xs ((nI i) + (2 : Int32)).toNatClampNeg) (xs ((nI i) + (3 : Int32)).toNatClampNeg) (0 : Int32)).2 := hRel
    refine cxL (As := [.int (xs ((nI i) + (1 : Int32)).toNatClampNeg), .int (xs ((nI i) + (2 : Int32)).toNatClampNeg), .int (xs ((nI i) + (3 : Int32)).toNatClampNeg), .int (0 : Int32)]) (rest := []) hx hb hml hown up hG hP hD hS hA k_L_133 (lnX_briefPrice (l := l) (D := D) (cy := cy) a X (xs ((nI i) + (1 : Int32)).toNatClampNeg) (xs ((nI i) + (2 : Int32)).toNatClampNeg) (xs ((nI i) + (3 : Int32)).toNatClampNeg) (0 : Int32) H.size ok1) ⟨Nat.le_of_ble_eq_true rfl, Nat.le_of_ble_eq_true rfl⟩ (ci := 11) rfl rfl rfl rfl hl.1 rfl (Nat.le_of_ble_eq_true rfl) ⟨Nat.le_of_ble_eq_true rfl, Nat.le_of_ble_eq_true rfl⟩ dL_law_1093 (fun r1 u1 H locs f1 hP hD hS => ?_)
    rw [← f1] at e1 hRel
    replace hP := P_swap hP
    replace hD := D_swap hD
    refine lv_aload_n hx hb dL_law_1096 rfl (lv_at hl 2 rfl) ?_
    refine lv_aload_n hx hb dL_law_1097 rfl (lv_at hl 0 rfl) ?_
    refine lv_iload_n hx hb dL_law_1098 rfl (lv_at hl 3 rfl) ?_
    refine lv_iconst (v := 1) hx hb dL_law_1099 (by decide) ?_
    refine lv_iadd hx hb dL_law_1100 ?_
    refine va_sld hx hb hX hbl hbA hS v1 dL_law_1101 ?_
    refine lv_aload_n hx hb dL_law_1102 rfl (lv_at hl 0 rfl) ?_
    refine lv_iload_n hx hb dL_law_1103 rfl (lv_at hl 3 rfl) ?_
    refine lv_iconst (v := 2) hx hb dL_law_1104 (by decide) ?_
    refine lv_iadd hx hb dL_law_1105 ?_
    refine va_sld hx hb hX hbl hbA hS v2 dL_law_1106 ?_
    refine lv_aload_n hx hb dL_law_1107 rfl (lv_at hl 0 rfl) ?_
    refine lv_iload_n hx hb dL_law_1108 rfl (lv_at hl 3 rfl) ?_
    refine lv_iconst (v := 3) hx hb dL_law_1109 (by decide) ?_
    refine lv_iadd hx hb dL_law_1110 ?_
    refine va_sld hx hb hX hbl hbA hS v3 dL_law_1111 ?_
    refine lv_aload_n hx hb dL_law_1112 rfl (lv_at hl 0 rfl) ?_
    refine lv_iload_n hx hb dL_law_1113 rfl (lv_at hl 3 rfl) ?_
    refine lv_iconst (v := 4) hx hb dL_law_1114 (by decide) ?_
    refine lv_iadd hx hb dL_law_1115 ?_
    refine va_sld hx hb hX hbl hbA hS v4 dL_law_1116 ?_
    refine lv_if_eq (tgt := 1124) hx hb dL_law_1117 (by decide) (fun _ => ?_) (fun q => absurd t_0 q)
    refine lv_iconst (v := 0) hx hb dL_law_1124 (by decide) ?_
    refine cxL (As := [.int (xs ((nI i) + (1 : Int32)).toNatClampNeg), .int (xs ((nI i) + (2 : Int32)).toNatClampNeg), .int (xs ((nI i) + (3 : Int32)).toNatClampNeg), .int (0 : Int32)]) (rest := [.long r1]) hx hb hml hown up hG hP hD hS hA k_L_137 (lnY_briefPrice (l := l) (D := D) (cy := cy) b Y (xs ((nI i) + (1 : Int32)).toNatClampNeg) (xs ((nI i) + (2 : Int32)).toNatClampNeg) (xs ((nI i) + (3 : Int32)).toNatClampNeg) (0 : Int32) H.size ok2) ⟨Nat.le_of_ble_eq_true rfl, Nat.le_of_ble_eq_true rfl⟩ (ci := 12) rfl rfl rfl rfl hl.1 rfl (Nat.le_of_ble_eq_true rfl) ⟨Nat.le_of_ble_eq_true rfl, Nat.le_of_ble_eq_true rfl⟩ dL_law_1125 (fun r2 u2 H locs f2 hP hD hS => ?_)
    rw [← f2] at e1 hRel
    replace hP := P_swap hP
    replace hD := D_swap hD
    refine W.lcmp hx hb dL_law_1128 ?_
    refine lv_if_eq (tgt := 1575) hx hb dL_law_1129 (by decide) (fun _ => ?_) (fun q => absurd (by rw [show r1 = r2 from e1]; exact lg_self _) q)
    exact hc a u1 b u2 H locs ls hl hP hD hS hRel
  · refine lv_aload_n hx hb dL_law_1064 rfl (lv_at hl 1 rfl) ?_
    refine lv_aload_n hx hb dL_law_1065 rfl (lv_at hl 0 rfl) ?_
    refine lv_iload_n hx hb dL_law_1066 rfl (lv_at hl 3 rfl) ?_
    refine lv_iconst (v := 1) hx hb dL_law_1067 (by decide) ?_
    refine lv_iadd hx hb dL_law_1068 ?_
    refine va_sld hx hb hX hbl hbA hS v1 dL_law_1069 ?_
    refine lv_aload_n hx hb dL_law_1070 rfl (lv_at hl 0 rfl) ?_
    refine lv_iload_n hx hb dL_law_1071 rfl (lv_at hl 3 rfl) ?_
    refine lv_iconst (v := 2) hx hb dL_law_1072 (by decide) ?_
    refine lv_iadd hx hb dL_law_1073 ?_
    refine va_sld hx hb hX hbl hbA hS v2 dL_law_1074 ?_
    refine lv_aload_n hx hb dL_law_1075 rfl (lv_at hl 0 rfl) ?_
    refine lv_iload_n hx hb dL_law_1076 rfl (lv_at hl 3 rfl) ?_
    refine lv_iconst (v := 3) hx hb dL_law_1077 (by decide) ?_
    refine lv_iadd hx hb dL_law_1078 ?_
    refine va_sld hx hb hX hbl hbA hS v3 dL_law_1079 ?_
    refine lv_aload_n hx hb dL_law_1080 rfl (lv_at hl 0 rfl) ?_
    refine lv_iload_n hx hb dL_law_1081 rfl (lv_at hl 3 rfl) ?_
    refine lv_iconst (v := 4) hx hb dL_law_1082 (by decide) ?_
    refine lv_iadd hx hb dL_law_1083 ?_
    refine va_sld hx hb hX hbl hbA hS v4 dL_law_1084 ?_
    refine lv_if_eq (tgt := 1092) hx hb dL_law_1085 (by decide) (fun q => absurd q t_0) (fun _ => ?_)
    refine lv_iconst (v := 1) hx hb dL_law_1088 (by decide) ?_
    refine lv_goto (tgt := 1093) hx hb dL_law_1089 (by decide) ?_
    obtain ⟨ok1, ok2, e1, hRel⟩ := hop (xs ((nI i) + (1 : Int32)).toNatClampNeg) (xs ((nI i) + (2 : Int32)).toNatClampNeg) (xs ((nI i) + (3 : Int32)).toNatClampNeg) (1 : Int32) X Y a b hRel
    replace e1 : (nX_briefPrice a X (xs ((nI i) + (1 : Int32)).toNatClampNeg) (xs ((nI i) + (2 : Int32)).toNatClampNeg) (xs ((nI i) + (3 : Int32)).toNatClampNeg) (1 : Int32)).1 = (nY_briefPrice b Y (xs ((nI i) + (1 : Int32)).toNatClampNeg) (xs ((nI i) + (2 : Int32)).toNatClampNeg) (xs ((nI i) + (3 : Int32)).toNatClampNeg) (1 : Int32)).1 := e1
    replace hRel : Rel (nX_briefPrice a X (xs ((nI i) + (1 : Int32)).toNatClampNeg) (xs ((nI i) + (2 : Int32)).toNatClampNeg) (xs ((nI i) + (3 : Int32)).toNatClampNeg) (1 : Int32)).2 (nY_briefPrice b Y (xs ((nI i) + (1 : Int32)).toNatClampNeg) (xs ((nI i) + (2 : Int32)).toNatClampNeg) (xs ((nI i) + (3 : Int32)).toNatClampNeg) (1 : Int32)).2 := hRel
    refine cxL (As := [.int (xs ((nI i) + (1 : Int32)).toNatClampNeg), .int (xs ((nI i) + (2 : Int32)).toNatClampNeg), .int (xs ((nI i) + (3 : Int32)).toNatClampNeg), .int (1 : Int32)]) (rest := []) hx hb hml hown up hG hP hD hS hA k_L_133 (lnX_briefPrice (l := l) (D := D) (cy := cy) a X (xs ((nI i) + (1 : Int32)).toNatClampNeg) (xs ((nI i) + (2 : Int32)).toNatClampNeg) (xs ((nI i) + (3 : Int32)).toNatClampNeg) (1 : Int32) H.size ok1) ⟨Nat.le_of_ble_eq_true rfl, Nat.le_of_ble_eq_true rfl⟩ (ci := 11) rfl rfl rfl rfl hl.1 rfl (Nat.le_of_ble_eq_true rfl) ⟨Nat.le_of_ble_eq_true rfl, Nat.le_of_ble_eq_true rfl⟩ dL_law_1093 (fun r1 u1 H locs f1 hP hD hS => ?_)
    rw [← f1] at e1 hRel
    replace hP := P_swap hP
    replace hD := D_swap hD
    refine lv_aload_n hx hb dL_law_1096 rfl (lv_at hl 2 rfl) ?_
    refine lv_aload_n hx hb dL_law_1097 rfl (lv_at hl 0 rfl) ?_
    refine lv_iload_n hx hb dL_law_1098 rfl (lv_at hl 3 rfl) ?_
    refine lv_iconst (v := 1) hx hb dL_law_1099 (by decide) ?_
    refine lv_iadd hx hb dL_law_1100 ?_
    refine va_sld hx hb hX hbl hbA hS v1 dL_law_1101 ?_
    refine lv_aload_n hx hb dL_law_1102 rfl (lv_at hl 0 rfl) ?_
    refine lv_iload_n hx hb dL_law_1103 rfl (lv_at hl 3 rfl) ?_
    refine lv_iconst (v := 2) hx hb dL_law_1104 (by decide) ?_
    refine lv_iadd hx hb dL_law_1105 ?_
    refine va_sld hx hb hX hbl hbA hS v2 dL_law_1106 ?_
    refine lv_aload_n hx hb dL_law_1107 rfl (lv_at hl 0 rfl) ?_
    refine lv_iload_n hx hb dL_law_1108 rfl (lv_at hl 3 rfl) ?_
    refine lv_iconst (v := 3) hx hb dL_law_1109 (by decide) ?_
    refine lv_iadd hx hb dL_law_1110 ?_
    refine va_sld hx hb hX hbl hbA hS v3 dL_law_1111 ?_
    refine lv_aload_n hx hb dL_law_1112 rfl (lv_at hl 0 rfl) ?_
    refine lv_iload_n hx hb dL_law_1113 rfl (lv_at hl 3 rfl) ?_
    refine lv_iconst (v := 4) hx hb dL_law_1114 (by decide) ?_
    refine lv_iadd hx hb dL_law_1115 ?_
    refine va_sld hx hb hX hbl hbA hS v4 dL_law_1116 ?_
    refine lv_if_eq (tgt := 1124) hx hb dL_law_1117 (by decide) (fun q => absurd q t_0) (fun _ => ?_)
    refine lv_iconst (v := 1) hx hb dL_law_1120 (by decide) ?_
    refine lv_goto (tgt := 1125) hx hb dL_law_1121 (by decide) ?_
    refine cxL (As := [.int (xs ((nI i) + (1 : Int32)).toNatClampNeg), .int (xs ((nI i) + (2 : Int32)).toNatClampNeg), .int (xs ((nI i) + (3 : Int32)).toNatClampNeg), .int (1 : Int32)]) (rest := [.long r1]) hx hb hml hown up hG hP hD hS hA k_L_137 (lnY_briefPrice (l := l) (D := D) (cy := cy) b Y (xs ((nI i) + (1 : Int32)).toNatClampNeg) (xs ((nI i) + (2 : Int32)).toNatClampNeg) (xs ((nI i) + (3 : Int32)).toNatClampNeg) (1 : Int32) H.size ok2) ⟨Nat.le_of_ble_eq_true rfl, Nat.le_of_ble_eq_true rfl⟩ (ci := 12) rfl rfl rfl rfl hl.1 rfl (Nat.le_of_ble_eq_true rfl) ⟨Nat.le_of_ble_eq_true rfl, Nat.le_of_ble_eq_true rfl⟩ dL_law_1125 (fun r2 u2 H locs f2 hP hD hS => ?_)
    rw [← f2] at e1 hRel
    replace hP := P_swap hP
    replace hD := D_swap hD
    refine W.lcmp hx hb dL_law_1128 ?_
    refine lv_if_eq (tgt := 1575) hx hb dL_law_1129 (by decide) (fun _ => ?_) (fun q => absurd (by rw [show r1 = r2 from e1]; exact lg_self _) q)
    exact hc a u1 b u2 H locs ls hl hP hD hS hRel
set_option maxHeartbeats 4000000 in
set_option maxRecDepth 100000 in
theorem lc_put {Rel : Bd → Bd → Prop} {p : Program} {l : Launch} {e : Env} {s : State} {m : MethodId} {below : List Frame} {meth : Method} {c : Code} {D : va_G} {cy : Nat → ClassId} {sb L i : Nat} {xs : Nat → Int32} {QQ : State → Prop} (hx : p.tables.exec = Jvm.exec) (hb : c.code = code) (hml : c.maxLocals = 4) (hown : s.vm.findClass RL = some m.cls) (up : ∀ w ∈ LW, w.before #[Value.ref sb] s = true) (hG : GW D cy s) (hX : va_X sb L xs s s.heap) (hbl : sb < s.heap.size) (hi : i + 6 ≤ L) (hL : L ≤ 384) (hop : Op_put Rel) (hc : LCont Rel p l e s m below meth c D cy sb i QQ 1575) : LCont Rel p l e s m below meth c D cy sb i QQ 1134 := by
  intro a X b Y H locs ls hl hP hD hS hRel
  have hA : ∀ q : Nat, s.heap.size ≤ q → LA s q := fun _ h => h
  have hbA : ¬ LA s sb := Nat.not_le.mpr hbl
  have v1 : vp_in (nI i + (1 : Int32)) L := by rw [show nI i + (1 : Int32) = nI (i + 1) from nI_add i 1]; exact vp_in_nI (by omega) (by omega)
  have v2 : vp_in (nI i + (2 : Int32)) L := by rw [show nI i + (2 : Int32) = nI (i + 2) from nI_add i 2]; exact vp_in_nI (by omega) (by omega)
  have v3 : vp_in (nI i + (3 : Int32)) L := by rw [show nI i + (3 : Int32) = nI (i + 3) from nI_add i 3]; exact vp_in_nI (by omega) (by omega)
  have v4 : vp_in (nI i + (4 : Int32)) L := by rw [show nI i + (4 : Int32) = nI (i + 4) from nI_add i 4]; exact vp_in_nI (by omega) (by omega)
  have v5 : vp_in (nI i + (5 : Int32)) L := by rw [show nI i + (5 : Int32) = nI (i + 5) from nI_add i 5]; exact vp_in_nI (by omega) (by omega)
  refine lv_aload_n hx hb dL_law_1134 rfl (lv_at hl 1 rfl) ?_
  refine lv_aload_n hx hb dL_law_1135 rfl (lv_at hl 0 rfl) ?_
  refine lv_iload_n hx hb dL_law_1136 rfl (lv_at hl 3 rfl) ?_
  refine lv_iconst (v := 1) hx hb dL_law_1137 (by decide) ?_
  refine lv_iadd hx hb dL_law_1138 ?_
  refine va_sld hx hb hX hbl hbA hS v1 dL_law_1139 ?_
  refine lv_aload_n hx hb dL_law_1140 rfl (lv_at hl 0 rfl) ?_
  refine lv_iload_n hx hb dL_law_1141 rfl (lv_at hl 3 rfl) ?_
  refine lv_iconst (v := 2) hx hb dL_law_1142 (by decide) ?_
  refine lv_iadd hx hb dL_law_1143 ?_
  refine va_sld hx hb hX hbl hbA hS v2 dL_law_1144 ?_
  obtain ⟨ok1, ok2, e1, hRel⟩ := hop (xs ((nI i) + (1 : Int32)).toNatClampNeg) (xs ((nI i) + (2 : Int32)).toNatClampNeg) X Y a b hRel
  replace e1 : (nX_put a X (xs ((nI i) + (1 : Int32)).toNatClampNeg) (xs ((nI i) + (2 : Int32)).toNatClampNeg)).1 = (nY_put b Y (xs ((nI i) + (1 : Int32)).toNatClampNeg) (xs ((nI i) + (2 : Int32)).toNatClampNeg)).1 := e1
  replace hRel : Rel (nX_put a X (xs ((nI i) + (1 : Int32)).toNatClampNeg) (xs ((nI i) + (2 : Int32)).toNatClampNeg)).2 (nY_put b Y (xs ((nI i) + (1 : Int32)).toNatClampNeg) (xs ((nI i) + (2 : Int32)).toNatClampNeg)).2 := hRel
  refine cxI (As := [.int (xs ((nI i) + (1 : Int32)).toNatClampNeg), .int (xs ((nI i) + (2 : Int32)).toNatClampNeg)]) (rest := []) hx hb hml hown up hG hP hD hS hA k_L_138 (lnX_put (l := l) (D := D) (cy := cy) a X (xs ((nI i) + (1 : Int32)).toNatClampNeg) (xs ((nI i) + (2 : Int32)).toNatClampNeg) H.size ok1) ⟨Nat.le_of_ble_eq_true rfl, Nat.le_of_ble_eq_true rfl⟩ (ci := 11) rfl rfl rfl rfl hl.1 rfl (Nat.le_of_ble_eq_true rfl) ⟨Nat.le_of_ble_eq_true rfl, Nat.le_of_ble_eq_true rfl⟩ dL_law_1145 (fun r1 u1 H locs f1 hP hD hS => ?_)
  rw [← f1] at e1 hRel
  replace hP := P_swap hP
  replace hD := D_swap hD
  refine lv_aload_n hx hb dL_law_1148 rfl (lv_at hl 2 rfl) ?_
  refine lv_aload_n hx hb dL_law_1149 rfl (lv_at hl 0 rfl) ?_
  refine lv_iload_n hx hb dL_law_1150 rfl (lv_at hl 3 rfl) ?_
  refine lv_iconst (v := 1) hx hb dL_law_1151 (by decide) ?_
  refine lv_iadd hx hb dL_law_1152 ?_
  refine va_sld hx hb hX hbl hbA hS v1 dL_law_1153 ?_
  refine lv_aload_n hx hb dL_law_1154 rfl (lv_at hl 0 rfl) ?_
  refine lv_iload_n hx hb dL_law_1155 rfl (lv_at hl 3 rfl) ?_
  refine lv_iconst (v := 2) hx hb dL_law_1156 (by decide) ?_
  refine lv_iadd hx hb dL_law_1157 ?_
  refine va_sld hx hb hX hbl hbA hS v2 dL_law_1158 ?_
  refine cxI (As := [.int (xs ((nI i) + (1 : Int32)).toNatClampNeg), .int (xs ((nI i) + (2 : Int32)).toNatClampNeg)]) (rest := [.int r1]) hx hb hml hown up hG hP hD hS hA k_L_141 (lnY_put (l := l) (D := D) (cy := cy) b Y (xs ((nI i) + (1 : Int32)).toNatClampNeg) (xs ((nI i) + (2 : Int32)).toNatClampNeg) H.size ok2) ⟨Nat.le_of_ble_eq_true rfl, Nat.le_of_ble_eq_true rfl⟩ (ci := 12) rfl rfl rfl rfl hl.1 rfl (Nat.le_of_ble_eq_true rfl) ⟨Nat.le_of_ble_eq_true rfl, Nat.le_of_ble_eq_true rfl⟩ dL_law_1159 (fun r2 u2 H locs f2 hP hD hS => ?_)
  rw [← f2] at e1 hRel
  replace hP := P_swap hP
  replace hD := D_swap hD
  refine lv_icmp_eq (tgt := 1575) hx hb dL_law_1162 (by decide) (fun _ => ?_) (fun q => absurd e1 q)
  exact hc a u1 b u2 H locs ls hl hP hD hS hRel
set_option maxHeartbeats 4000000 in
set_option maxRecDepth 100000 in
theorem lc_keys {Rel : Bd → Bd → Prop} {p : Program} {l : Launch} {e : Env} {s : State} {m : MethodId} {below : List Frame} {meth : Method} {c : Code} {D : va_G} {cy : Nat → ClassId} {sb L i : Nat} {xs : Nat → Int32} {QQ : State → Prop} (hx : p.tables.exec = Jvm.exec) (hb : c.code = code) (hml : c.maxLocals = 4) (hown : s.vm.findClass RL = some m.cls) (up : ∀ w ∈ LW, w.before #[Value.ref sb] s = true) (hG : GW D cy s) (hX : va_X sb L xs s s.heap) (hbl : sb < s.heap.size) (hi : i + 6 ≤ L) (hL : L ≤ 384) (hop : Op_keys Rel) (hc : LCont Rel p l e s m below meth c D cy sb i QQ 1575) : LCont Rel p l e s m below meth c D cy sb i QQ 1167 := by
  intro a X b Y H locs ls hl hP hD hS hRel
  have hA : ∀ q : Nat, s.heap.size ≤ q → LA s q := fun _ h => h
  have hbA : ¬ LA s sb := Nat.not_le.mpr hbl
  have v1 : vp_in (nI i + (1 : Int32)) L := by rw [show nI i + (1 : Int32) = nI (i + 1) from nI_add i 1]; exact vp_in_nI (by omega) (by omega)
  have v2 : vp_in (nI i + (2 : Int32)) L := by rw [show nI i + (2 : Int32) = nI (i + 2) from nI_add i 2]; exact vp_in_nI (by omega) (by omega)
  have v3 : vp_in (nI i + (3 : Int32)) L := by rw [show nI i + (3 : Int32) = nI (i + 3) from nI_add i 3]; exact vp_in_nI (by omega) (by omega)
  have v4 : vp_in (nI i + (4 : Int32)) L := by rw [show nI i + (4 : Int32) = nI (i + 4) from nI_add i 4]; exact vp_in_nI (by omega) (by omega)
  have v5 : vp_in (nI i + (5 : Int32)) L := by rw [show nI i + (5 : Int32) = nI (i + 5) from nI_add i 5]; exact vp_in_nI (by omega) (by omega)
  refine lv_aload_n hx hb dL_law_1167 rfl (lv_at hl 1 rfl) ?_
  refine lv_aload_n hx hb dL_law_1168 rfl (lv_at hl 0 rfl) ?_
  refine lv_iload_n hx hb dL_law_1169 rfl (lv_at hl 3 rfl) ?_
  refine lv_iconst (v := 1) hx hb dL_law_1170 (by decide) ?_
  refine lv_iadd hx hb dL_law_1171 ?_
  refine va_sld hx hb hX hbl hbA hS v1 dL_law_1172 ?_
  refine lv_aload_n hx hb dL_law_1173 rfl (lv_at hl 0 rfl) ?_
  refine lv_iload_n hx hb dL_law_1174 rfl (lv_at hl 3 rfl) ?_
  refine lv_iconst (v := 2) hx hb dL_law_1175 (by decide) ?_
  refine lv_iadd hx hb dL_law_1176 ?_
  refine va_sld hx hb hX hbl hbA hS v2 dL_law_1177 ?_
  obtain ⟨ok1, ok2, e1, hRel⟩ := hop (xs ((nI i) + (1 : Int32)).toNatClampNeg) (xs ((nI i) + (2 : Int32)).toNatClampNeg) X Y a b hRel
  replace e1 : (nX_keys a X (xs ((nI i) + (1 : Int32)).toNatClampNeg) (xs ((nI i) + (2 : Int32)).toNatClampNeg)).1 = (nY_keys b Y (xs ((nI i) + (1 : Int32)).toNatClampNeg) (xs ((nI i) + (2 : Int32)).toNatClampNeg)).1 := e1
  replace hRel : Rel (nX_keys a X (xs ((nI i) + (1 : Int32)).toNatClampNeg) (xs ((nI i) + (2 : Int32)).toNatClampNeg)).2 (nY_keys b Y (xs ((nI i) + (1 : Int32)).toNatClampNeg) (xs ((nI i) + (2 : Int32)).toNatClampNeg)).2 := hRel
  refine cxI (As := [.int (xs ((nI i) + (1 : Int32)).toNatClampNeg), .int (xs ((nI i) + (2 : Int32)).toNatClampNeg)]) (rest := []) hx hb hml hown up hG hP hD hS hA k_L_142 (lnX_keys (l := l) (D := D) (cy := cy) a X (xs ((nI i) + (1 : Int32)).toNatClampNeg) (xs ((nI i) + (2 : Int32)).toNatClampNeg) H.size ok1) ⟨Nat.le_of_ble_eq_true rfl, Nat.le_of_ble_eq_true rfl⟩ (ci := 11) rfl rfl rfl rfl hl.1 rfl (Nat.le_of_ble_eq_true rfl) ⟨Nat.le_of_ble_eq_true rfl, Nat.le_of_ble_eq_true rfl⟩ dL_law_1178 (fun r1 u1 H locs f1 hP hD hS => ?_)
  rw [← f1] at e1 hRel
  replace hP := P_swap hP
  replace hD := D_swap hD
  refine lv_aload_n hx hb dL_law_1181 rfl (lv_at hl 2 rfl) ?_
  refine lv_aload_n hx hb dL_law_1182 rfl (lv_at hl 0 rfl) ?_
  refine lv_iload_n hx hb dL_law_1183 rfl (lv_at hl 3 rfl) ?_
  refine lv_iconst (v := 1) hx hb dL_law_1184 (by decide) ?_
  refine lv_iadd hx hb dL_law_1185 ?_
  refine va_sld hx hb hX hbl hbA hS v1 dL_law_1186 ?_
  refine lv_aload_n hx hb dL_law_1187 rfl (lv_at hl 0 rfl) ?_
  refine lv_iload_n hx hb dL_law_1188 rfl (lv_at hl 3 rfl) ?_
  refine lv_iconst (v := 2) hx hb dL_law_1189 (by decide) ?_
  refine lv_iadd hx hb dL_law_1190 ?_
  refine va_sld hx hb hX hbl hbA hS v2 dL_law_1191 ?_
  refine cxI (As := [.int (xs ((nI i) + (1 : Int32)).toNatClampNeg), .int (xs ((nI i) + (2 : Int32)).toNatClampNeg)]) (rest := [.int r1]) hx hb hml hown up hG hP hD hS hA k_L_145 (lnY_keys (l := l) (D := D) (cy := cy) b Y (xs ((nI i) + (1 : Int32)).toNatClampNeg) (xs ((nI i) + (2 : Int32)).toNatClampNeg) H.size ok2) ⟨Nat.le_of_ble_eq_true rfl, Nat.le_of_ble_eq_true rfl⟩ (ci := 12) rfl rfl rfl rfl hl.1 rfl (Nat.le_of_ble_eq_true rfl) ⟨Nat.le_of_ble_eq_true rfl, Nat.le_of_ble_eq_true rfl⟩ dL_law_1192 (fun r2 u2 H locs f2 hP hD hS => ?_)
  rw [← f2] at e1 hRel
  replace hP := P_swap hP
  replace hD := D_swap hD
  refine lv_icmp_eq (tgt := 1575) hx hb dL_law_1195 (by decide) (fun _ => ?_) (fun q => absurd e1 q)
  exact hc a u1 b u2 H locs ls hl hP hD hS hRel
set_option maxHeartbeats 4000000 in
set_option maxRecDepth 100000 in
theorem lc_move {Rel : Bd → Bd → Prop} {p : Program} {l : Launch} {e : Env} {s : State} {m : MethodId} {below : List Frame} {meth : Method} {c : Code} {D : va_G} {cy : Nat → ClassId} {sb L i : Nat} {xs : Nat → Int32} {QQ : State → Prop} (hx : p.tables.exec = Jvm.exec) (hb : c.code = code) (hml : c.maxLocals = 4) (hown : s.vm.findClass RL = some m.cls) (up : ∀ w ∈ LW, w.before #[Value.ref sb] s = true) (hG : GW D cy s) (hX : va_X sb L xs s s.heap) (hbl : sb < s.heap.size) (hi : i + 6 ≤ L) (hL : L ≤ 384) {tS : Nat} (hZ : va_Z "BoathouseKey" "MOVES" "[I" (.ref tS) (LA s) s s.heap) (hT : va_T .int tS 4 mvV (LA s) s s.heap) (hop : Op_move Rel) (hc : LCont Rel p l e s m below meth c D cy sb i QQ 1575) : LCont Rel p l e s m below meth c D cy sb i QQ 1200 := by
  intro a X b Y H locs ls hl hP hD hS hRel
  have hA : ∀ q : Nat, s.heap.size ≤ q → LA s q := fun _ h => h
  have hbA : ¬ LA s sb := Nat.not_le.mpr hbl
  have v1 : vp_in (nI i + (1 : Int32)) L := by rw [show nI i + (1 : Int32) = nI (i + 1) from nI_add i 1]; exact vp_in_nI (by omega) (by omega)
  have v2 : vp_in (nI i + (2 : Int32)) L := by rw [show nI i + (2 : Int32) = nI (i + 2) from nI_add i 2]; exact vp_in_nI (by omega) (by omega)
  have v3 : vp_in (nI i + (3 : Int32)) L := by rw [show nI i + (3 : Int32) = nI (i + 3) from nI_add i 3]; exact vp_in_nI (by omega) (by omega)
  have v4 : vp_in (nI i + (4 : Int32)) L := by rw [show nI i + (4 : Int32) = nI (i + 4) from nI_add i 4]; exact vp_in_nI (by omega) (by omega)
  have v5 : vp_in (nI i + (5 : Int32)) L := by rw [show nI i + (5 : Int32) = nI (i + 5) from nI_add i 5]; exact vp_in_nI (by omega) (by omega)
  refine lv_aload_n hx hb dL_law_1200 rfl (lv_at hl 1 rfl) ?_
  refine lv_aload_n hx hb dL_law_1201 rfl (lv_at hl 0 rfl) ?_
  refine lv_iload_n hx hb dL_law_1202 rfl (lv_at hl 3 rfl) ?_
  refine lv_iconst (v := 1) hx hb dL_law_1203 (by decide) ?_
  refine lv_iadd hx hb dL_law_1204 ?_
  refine va_sld hx hb hX hbl hbA hS v1 dL_law_1205 ?_
  refine lv_aload_n hx hb dL_law_1206 rfl (lv_at hl 0 rfl) ?_
  refine lv_iload_n hx hb dL_law_1207 rfl (lv_at hl 3 rfl) ?_
  refine lv_iconst (v := 2) hx hb dL_law_1208 (by decide) ?_
  refine lv_iadd hx hb dL_law_1209 ?_
  refine va_sld hx hb hX hbl hbA hS v2 dL_law_1210 ?_
  obtain ⟨ok1, ok2, e1, hRel⟩ := hop (xs ((nI i) + (1 : Int32)).toNatClampNeg) (xs ((nI i) + (2 : Int32)).toNatClampNeg) X Y a b hRel
  replace e1 : (nX_move a X (xs ((nI i) + (1 : Int32)).toNatClampNeg) (xs ((nI i) + (2 : Int32)).toNatClampNeg)).1 = (nY_move b Y (xs ((nI i) + (1 : Int32)).toNatClampNeg) (xs ((nI i) + (2 : Int32)).toNatClampNeg)).1 := e1
  replace hRel : Rel (nX_move a X (xs ((nI i) + (1 : Int32)).toNatClampNeg) (xs ((nI i) + (2 : Int32)).toNatClampNeg)).2 (nY_move b Y (xs ((nI i) + (1 : Int32)).toNatClampNeg) (xs ((nI i) + (2 : Int32)).toNatClampNeg)).2 := hRel
  refine cxZ (As := [.int (xs ((nI i) + (1 : Int32)).toNatClampNeg), .int (xs ((nI i) + (2 : Int32)).toNatClampNeg)]) (rest := []) hx hb hml hown up hG hP hD hS hA hZ hT k_L_146 (lnX_move (l := l) (D := D) (cy := cy) a X (xs ((nI i) + (1 : Int32)).toNatClampNeg) (xs ((nI i) + (2 : Int32)).toNatClampNeg) H.size ok1) ⟨Nat.le_of_ble_eq_true rfl, Nat.le_of_ble_eq_true rfl⟩ (ci := 11) rfl rfl rfl rfl hl.1 rfl (Nat.le_of_ble_eq_true rfl) ⟨Nat.le_of_ble_eq_true rfl, Nat.le_of_ble_eq_true rfl⟩ dL_law_1211 (fun r1 u1 H locs f1 hP hD hS => ?_)
  rw [← f1] at e1 hRel
  replace hP := P_swap hP
  replace hD := D_swap hD
  refine lv_aload_n hx hb dL_law_1214 rfl (lv_at hl 2 rfl) ?_
  refine lv_aload_n hx hb dL_law_1215 rfl (lv_at hl 0 rfl) ?_
  refine lv_iload_n hx hb dL_law_1216 rfl (lv_at hl 3 rfl) ?_
  refine lv_iconst (v := 1) hx hb dL_law_1217 (by decide) ?_
  refine lv_iadd hx hb dL_law_1218 ?_
  refine va_sld hx hb hX hbl hbA hS v1 dL_law_1219 ?_
  refine lv_aload_n hx hb dL_law_1220 rfl (lv_at hl 0 rfl) ?_
  refine lv_iload_n hx hb dL_law_1221 rfl (lv_at hl 3 rfl) ?_
  refine lv_iconst (v := 2) hx hb dL_law_1222 (by decide) ?_
  refine lv_iadd hx hb dL_law_1223 ?_
  refine va_sld hx hb hX hbl hbA hS v2 dL_law_1224 ?_
  refine cxI (As := [.int (xs ((nI i) + (1 : Int32)).toNatClampNeg), .int (xs ((nI i) + (2 : Int32)).toNatClampNeg)]) (rest := [.int r1]) hx hb hml hown up hG hP hD hS hA k_L_149 (lnY_move (l := l) (D := D) (cy := cy) b Y (xs ((nI i) + (1 : Int32)).toNatClampNeg) (xs ((nI i) + (2 : Int32)).toNatClampNeg) H.size ok2) ⟨Nat.le_of_ble_eq_true rfl, Nat.le_of_ble_eq_true rfl⟩ (ci := 12) rfl rfl rfl rfl hl.1 rfl (Nat.le_of_ble_eq_true rfl) ⟨Nat.le_of_ble_eq_true rfl, Nat.le_of_ble_eq_true rfl⟩ dL_law_1225 (fun r2 u2 H locs f2 hP hD hS => ?_)
  rw [← f2] at e1 hRel
  replace hP := P_swap hP
  replace hD := D_swap hD
  refine lv_icmp_eq (tgt := 1575) hx hb dL_law_1228 (by decide) (fun _ => ?_) (fun q => absurd e1 q)
  exact hc a u1 b u2 H locs ls hl hP hD hS hRel
set_option maxHeartbeats 4000000 in
set_option maxRecDepth 100000 in
theorem lc_fits {Rel : Bd → Bd → Prop} {p : Program} {l : Launch} {e : Env} {s : State} {m : MethodId} {below : List Frame} {meth : Method} {c : Code} {D : va_G} {cy : Nat → ClassId} {sb L i : Nat} {xs : Nat → Int32} {QQ : State → Prop} (hx : p.tables.exec = Jvm.exec) (hb : c.code = code) (hml : c.maxLocals = 4) (hown : s.vm.findClass RL = some m.cls) (up : ∀ w ∈ LW, w.before #[Value.ref sb] s = true) (hG : GW D cy s) (hX : va_X sb L xs s s.heap) (hbl : sb < s.heap.size) (hi : i + 6 ≤ L) (hL : L ≤ 384) (hop : Op_fits Rel) (hc : LCont Rel p l e s m below meth c D cy sb i QQ 1575) : LCont Rel p l e s m below meth c D cy sb i QQ 1233 := by
  intro a X b Y H locs ls hl hP hD hS hRel
  have hA : ∀ q : Nat, s.heap.size ≤ q → LA s q := fun _ h => h
  have hbA : ¬ LA s sb := Nat.not_le.mpr hbl
  have v1 : vp_in (nI i + (1 : Int32)) L := by rw [show nI i + (1 : Int32) = nI (i + 1) from nI_add i 1]; exact vp_in_nI (by omega) (by omega)
  have v2 : vp_in (nI i + (2 : Int32)) L := by rw [show nI i + (2 : Int32) = nI (i + 2) from nI_add i 2]; exact vp_in_nI (by omega) (by omega)
  have v3 : vp_in (nI i + (3 : Int32)) L := by rw [show nI i + (3 : Int32) = nI (i + 3) from nI_add i 3]; exact vp_in_nI (by omega) (by omega)
  have v4 : vp_in (nI i + (4 : Int32)) L := by rw [show nI i + (4 : Int32) = nI (i + 4) from nI_add i 4]; exact vp_in_nI (by omega) (by omega)
  have v5 : vp_in (nI i + (5 : Int32)) L := by rw [show nI i + (5 : Int32) = nI (i + 5) from nI_add i 5]; exact vp_in_nI (by omega) (by omega)
  refine lv_aload_n hx hb dL_law_1233 rfl (lv_at hl 1 rfl) ?_
  refine lv_aload_n hx hb dL_law_1234 rfl (lv_at hl 0 rfl) ?_
  refine lv_iload_n hx hb dL_law_1235 rfl (lv_at hl 3 rfl) ?_
  refine lv_iconst (v := 1) hx hb dL_law_1236 (by decide) ?_
  refine lv_iadd hx hb dL_law_1237 ?_
  refine va_sld hx hb hX hbl hbA hS v1 dL_law_1238 ?_
  refine lv_aload_n hx hb dL_law_1239 rfl (lv_at hl 0 rfl) ?_
  refine lv_iload_n hx hb dL_law_1240 rfl (lv_at hl 3 rfl) ?_
  refine lv_iconst (v := 2) hx hb dL_law_1241 (by decide) ?_
  refine lv_iadd hx hb dL_law_1242 ?_
  refine va_sld hx hb hX hbl hbA hS v2 dL_law_1243 ?_
  obtain ⟨ok1, ok2, e1, hRel⟩ := hop (xs ((nI i) + (1 : Int32)).toNatClampNeg) (xs ((nI i) + (2 : Int32)).toNatClampNeg) X Y a b hRel
  replace e1 : (nX_fits a X (xs ((nI i) + (1 : Int32)).toNatClampNeg) (xs ((nI i) + (2 : Int32)).toNatClampNeg)).1 = (nY_fits b Y (xs ((nI i) + (1 : Int32)).toNatClampNeg) (xs ((nI i) + (2 : Int32)).toNatClampNeg)).1 := e1
  replace hRel : Rel (nX_fits a X (xs ((nI i) + (1 : Int32)).toNatClampNeg) (xs ((nI i) + (2 : Int32)).toNatClampNeg)).2 (nY_fits b Y (xs ((nI i) + (1 : Int32)).toNatClampNeg) (xs ((nI i) + (2 : Int32)).toNatClampNeg)).2 := hRel
  refine cxI (As := [.int (xs ((nI i) + (1 : Int32)).toNatClampNeg), .int (xs ((nI i) + (2 : Int32)).toNatClampNeg)]) (rest := []) hx hb hml hown up hG hP hD hS hA k_L_150 (lnX_fits (l := l) (D := D) (cy := cy) a X (xs ((nI i) + (1 : Int32)).toNatClampNeg) (xs ((nI i) + (2 : Int32)).toNatClampNeg) H.size ok1) ⟨Nat.le_of_ble_eq_true rfl, Nat.le_of_ble_eq_true rfl⟩ (ci := 11) rfl rfl rfl rfl hl.1 rfl (Nat.le_of_ble_eq_true rfl) ⟨Nat.le_of_ble_eq_true rfl, Nat.le_of_ble_eq_true rfl⟩ dL_law_1244 (fun r1 u1 H locs f1 hP hD hS => ?_)
  rw [← f1] at e1 hRel
  replace hP := P_swap hP
  replace hD := D_swap hD
  refine lv_aload_n hx hb dL_law_1247 rfl (lv_at hl 2 rfl) ?_
  refine lv_aload_n hx hb dL_law_1248 rfl (lv_at hl 0 rfl) ?_
  refine lv_iload_n hx hb dL_law_1249 rfl (lv_at hl 3 rfl) ?_
  refine lv_iconst (v := 1) hx hb dL_law_1250 (by decide) ?_
  refine lv_iadd hx hb dL_law_1251 ?_
  refine va_sld hx hb hX hbl hbA hS v1 dL_law_1252 ?_
  refine lv_aload_n hx hb dL_law_1253 rfl (lv_at hl 0 rfl) ?_
  refine lv_iload_n hx hb dL_law_1254 rfl (lv_at hl 3 rfl) ?_
  refine lv_iconst (v := 2) hx hb dL_law_1255 (by decide) ?_
  refine lv_iadd hx hb dL_law_1256 ?_
  refine va_sld hx hb hX hbl hbA hS v2 dL_law_1257 ?_
  refine cxI (As := [.int (xs ((nI i) + (1 : Int32)).toNatClampNeg), .int (xs ((nI i) + (2 : Int32)).toNatClampNeg)]) (rest := [.int r1]) hx hb hml hown up hG hP hD hS hA k_L_153 (lnY_fits (l := l) (D := D) (cy := cy) b Y (xs ((nI i) + (1 : Int32)).toNatClampNeg) (xs ((nI i) + (2 : Int32)).toNatClampNeg) H.size ok2) ⟨Nat.le_of_ble_eq_true rfl, Nat.le_of_ble_eq_true rfl⟩ (ci := 12) rfl rfl rfl rfl hl.1 rfl (Nat.le_of_ble_eq_true rfl) ⟨Nat.le_of_ble_eq_true rfl, Nat.le_of_ble_eq_true rfl⟩ dL_law_1258 (fun r2 u2 H locs f2 hP hD hS => ?_)
  rw [← f2] at e1 hRel
  replace hP := P_swap hP
  replace hD := D_swap hD
  refine lv_icmp_eq (tgt := 1575) hx hb dL_law_1261 (by decide) (fun _ => ?_) (fun q => absurd e1 q)
  exact hc a u1 b u2 H locs ls hl hP hD hS hRel
set_option maxHeartbeats 4000000 in
set_option maxRecDepth 100000 in
theorem lc_shift {Rel : Bd → Bd → Prop} {p : Program} {l : Launch} {e : Env} {s : State} {m : MethodId} {below : List Frame} {meth : Method} {c : Code} {D : va_G} {cy : Nat → ClassId} {sb L i : Nat} {xs : Nat → Int32} {QQ : State → Prop} (hx : p.tables.exec = Jvm.exec) (hb : c.code = code) (hml : c.maxLocals = 4) (hown : s.vm.findClass RL = some m.cls) (up : ∀ w ∈ LW, w.before #[Value.ref sb] s = true) (hG : GW D cy s) (hX : va_X sb L xs s s.heap) (hbl : sb < s.heap.size) (hi : i + 6 ≤ L) (hL : L ≤ 384) (hop : Op_shift Rel) (hc : LCont Rel p l e s m below meth c D cy sb i QQ 1575) : LCont Rel p l e s m below meth c D cy sb i QQ 1266 := by
  intro a X b Y H locs ls hl hP hD hS hRel
  have hA : ∀ q : Nat, s.heap.size ≤ q → LA s q := fun _ h => h
  have hbA : ¬ LA s sb := Nat.not_le.mpr hbl
  have v1 : vp_in (nI i + (1 : Int32)) L := by rw [show nI i + (1 : Int32) = nI (i + 1) from nI_add i 1]; exact vp_in_nI (by omega) (by omega)
  have v2 : vp_in (nI i + (2 : Int32)) L := by rw [show nI i + (2 : Int32) = nI (i + 2) from nI_add i 2]; exact vp_in_nI (by omega) (by omega)
  have v3 : vp_in (nI i + (3 : Int32)) L := by rw [show nI i + (3 : Int32) = nI (i + 3) from nI_add i 3]; exact vp_in_nI (by omega) (by omega)
  have v4 : vp_in (nI i + (4 : Int32)) L := by rw [show nI i + (4 : Int32) = nI (i + 4) from nI_add i 4]; exact vp_in_nI (by omega) (by omega)
  have v5 : vp_in (nI i + (5 : Int32)) L := by rw [show nI i + (5 : Int32) = nI (i + 5) from nI_add i 5]; exact vp_in_nI (by omega) (by omega)
  refine lv_aload_n hx hb dL_law_1266 rfl (lv_at hl 1 rfl) ?_
  refine lv_aload_n hx hb dL_law_1267 rfl (lv_at hl 0 rfl) ?_
  refine lv_iload_n hx hb dL_law_1268 rfl (lv_at hl 3 rfl) ?_
  refine lv_iconst (v := 1) hx hb dL_law_1269 (by decide) ?_
  refine lv_iadd hx hb dL_law_1270 ?_
  refine va_sld hx hb hX hbl hbA hS v1 dL_law_1271 ?_
  refine lv_aload_n hx hb dL_law_1272 rfl (lv_at hl 0 rfl) ?_
  refine lv_iload_n hx hb dL_law_1273 rfl (lv_at hl 3 rfl) ?_
  refine lv_iconst (v := 2) hx hb dL_law_1274 (by decide) ?_
  refine lv_iadd hx hb dL_law_1275 ?_
  refine va_sld hx hb hX hbl hbA hS v2 dL_law_1276 ?_
  obtain ⟨ok1, ok2, e1, hRel⟩ := hop (xs ((nI i) + (1 : Int32)).toNatClampNeg) (xs ((nI i) + (2 : Int32)).toNatClampNeg) X Y a b hRel
  replace e1 : (nX_shift a X (xs ((nI i) + (1 : Int32)).toNatClampNeg) (xs ((nI i) + (2 : Int32)).toNatClampNeg)).1 = (nY_shift b Y (xs ((nI i) + (1 : Int32)).toNatClampNeg) (xs ((nI i) + (2 : Int32)).toNatClampNeg)).1 := e1
  replace hRel : Rel (nX_shift a X (xs ((nI i) + (1 : Int32)).toNatClampNeg) (xs ((nI i) + (2 : Int32)).toNatClampNeg)).2 (nY_shift b Y (xs ((nI i) + (1 : Int32)).toNatClampNeg) (xs ((nI i) + (2 : Int32)).toNatClampNeg)).2 := hRel
  refine cxI (As := [.int (xs ((nI i) + (1 : Int32)).toNatClampNeg), .int (xs ((nI i) + (2 : Int32)).toNatClampNeg)]) (rest := []) hx hb hml hown up hG hP hD hS hA k_L_154 (lnX_shift (l := l) (D := D) (cy := cy) a X (xs ((nI i) + (1 : Int32)).toNatClampNeg) (xs ((nI i) + (2 : Int32)).toNatClampNeg) H.size ok1) ⟨Nat.le_of_ble_eq_true rfl, Nat.le_of_ble_eq_true rfl⟩ (ci := 11) rfl rfl rfl rfl hl.1 rfl (Nat.le_of_ble_eq_true rfl) ⟨Nat.le_of_ble_eq_true rfl, Nat.le_of_ble_eq_true rfl⟩ dL_law_1277 (fun r1 u1 H locs f1 hP hD hS => ?_)
  rw [← f1] at e1 hRel
  replace hP := P_swap hP
  replace hD := D_swap hD
  refine lv_aload_n hx hb dL_law_1280 rfl (lv_at hl 2 rfl) ?_
  refine lv_aload_n hx hb dL_law_1281 rfl (lv_at hl 0 rfl) ?_
  refine lv_iload_n hx hb dL_law_1282 rfl (lv_at hl 3 rfl) ?_
  refine lv_iconst (v := 1) hx hb dL_law_1283 (by decide) ?_
  refine lv_iadd hx hb dL_law_1284 ?_
  refine va_sld hx hb hX hbl hbA hS v1 dL_law_1285 ?_
  refine lv_aload_n hx hb dL_law_1286 rfl (lv_at hl 0 rfl) ?_
  refine lv_iload_n hx hb dL_law_1287 rfl (lv_at hl 3 rfl) ?_
  refine lv_iconst (v := 2) hx hb dL_law_1288 (by decide) ?_
  refine lv_iadd hx hb dL_law_1289 ?_
  refine va_sld hx hb hX hbl hbA hS v2 dL_law_1290 ?_
  refine cxI (As := [.int (xs ((nI i) + (1 : Int32)).toNatClampNeg), .int (xs ((nI i) + (2 : Int32)).toNatClampNeg)]) (rest := [.int r1]) hx hb hml hown up hG hP hD hS hA k_L_157 (lnY_shift (l := l) (D := D) (cy := cy) b Y (xs ((nI i) + (1 : Int32)).toNatClampNeg) (xs ((nI i) + (2 : Int32)).toNatClampNeg) H.size ok2) ⟨Nat.le_of_ble_eq_true rfl, Nat.le_of_ble_eq_true rfl⟩ (ci := 12) rfl rfl rfl rfl hl.1 rfl (Nat.le_of_ble_eq_true rfl) ⟨Nat.le_of_ble_eq_true rfl, Nat.le_of_ble_eq_true rfl⟩ dL_law_1291 (fun r2 u2 H locs f2 hP hD hS => ?_)
  rw [← f2] at e1 hRel
  replace hP := P_swap hP
  replace hD := D_swap hD
  refine lv_icmp_eq (tgt := 1575) hx hb dL_law_1294 (by decide) (fun _ => ?_) (fun q => absurd e1 q)
  exact hc a u1 b u2 H locs ls hl hP hD hS hRel
set_option maxHeartbeats 4000000 in
set_option maxRecDepth 100000 in
theorem lc_mean {Rel : Bd → Bd → Prop} {p : Program} {l : Launch} {e : Env} {s : State} {m : MethodId} {below : List Frame} {meth : Method} {c : Code} {D : va_G} {cy : Nat → ClassId} {sb L i : Nat} {xs : Nat → Int32} {QQ : State → Prop} (hx : p.tables.exec = Jvm.exec) (hb : c.code = code) (hml : c.maxLocals = 4) (hown : s.vm.findClass RL = some m.cls) (up : ∀ w ∈ LW, w.before #[Value.ref sb] s = true) (hG : GW D cy s) (hX : va_X sb L xs s s.heap) (hbl : sb < s.heap.size) (hi : i + 6 ≤ L) (hL : L ≤ 384) (hop : Op_mean Rel) (hc : LCont Rel p l e s m below meth c D cy sb i QQ 1575) : LCont Rel p l e s m below meth c D cy sb i QQ 1299 := by
  intro a X b Y H locs ls hl hP hD hS hRel
  have hA : ∀ q : Nat, s.heap.size ≤ q → LA s q := fun _ h => h
  have hbA : ¬ LA s sb := Nat.not_le.mpr hbl
  have v1 : vp_in (nI i + (1 : Int32)) L := by rw [show nI i + (1 : Int32) = nI (i + 1) from nI_add i 1]; exact vp_in_nI (by omega) (by omega)
  have v2 : vp_in (nI i + (2 : Int32)) L := by rw [show nI i + (2 : Int32) = nI (i + 2) from nI_add i 2]; exact vp_in_nI (by omega) (by omega)
  have v3 : vp_in (nI i + (3 : Int32)) L := by rw [show nI i + (3 : Int32) = nI (i + 3) from nI_add i 3]; exact vp_in_nI (by omega) (by omega)
  have v4 : vp_in (nI i + (4 : Int32)) L := by rw [show nI i + (4 : Int32) = nI (i + 4) from nI_add i 4]; exact vp_in_nI (by omega) (by omega)
  have v5 : vp_in (nI i + (5 : Int32)) L := by rw [show nI i + (5 : Int32) = nI (i + 5) from nI_add i 5]; exact vp_in_nI (by omega) (by omega)
  by_cases t_0 : (xs ((nI i) + (3 : Int32)).toNatClampNeg) = 0
  · refine lv_aload_n hx hb dL_law_1299 rfl (lv_at hl 1 rfl) ?_
    refine lv_aload_n hx hb dL_law_1300 rfl (lv_at hl 0 rfl) ?_
    refine lv_iload_n hx hb dL_law_1301 rfl (lv_at hl 3 rfl) ?_
    refine lv_iconst (v := 1) hx hb dL_law_1302 (by decide) ?_
    refine lv_iadd hx hb dL_law_1303 ?_
    refine va_sld hx hb hX hbl hbA hS v1 dL_law_1304 ?_
    refine lv_aload_n hx hb dL_law_1305 rfl (lv_at hl 0 rfl) ?_
    refine lv_iload_n hx hb dL_law_1306 rfl (lv_at hl 3 rfl) ?_
    refine lv_iconst (v := 2) hx hb dL_law_1307 (by decide) ?_
    refine lv_iadd hx hb dL_law_1308 ?_
    refine va_sld hx hb hX hbl hbA hS v2 dL_law_1309 ?_
    refine lv_aload_n hx hb dL_law_1310 rfl (lv_at hl 0 rfl) ?_
    refine lv_iload_n hx hb dL_law_1311 rfl (lv_at hl 3 rfl) ?_
    refine lv_iconst (v := 3) hx hb dL_law_1312 (by decide) ?_
    refine lv_iadd hx hb dL_law_1313 ?_
    refine va_sld hx hb hX hbl hbA hS v3 dL_law_1314 ?_
    refine lv_if_eq (tgt := 1322) hx hb dL_law_1315 (by decide) (fun _ => ?_) (fun q => absurd t_0 q)
    refine lv_iconst (v := 0) hx hb dL_law_1322 (by decide) ?_
    obtain ⟨ok1, ok2, e1, hRel⟩ := hop (xs ((nI i) + (1 : Int32)).toNatClampNeg) (xs ((nI i) + (2 : Int32)).toNatClampNeg) (0 : Int32) X Y a b hRel
    replace e1 : (nX_mean a X (xs ((nI i) + (1 : Int32)).toNatClampNeg) (xs ((nI i) + (2 : Int32)).toNatClampNeg) (0 : Int32)).1 = (nY_mean b Y (xs ((nI i) + (1 : Int32)).toNatClampNeg) (xs ((nI i) + (2 : Int32)).toNatClampNeg) (0 : Int32)).1 := e1
    replace hRel : Rel (nX_mean a X (xs ((nI i) + (1 : Int32)).toNatClampNeg) (xs ((nI i) + (2 : Int32)).toNatClampNeg) (0 : Int32)).2 (nY_mean b Y (xs ((nI i) + (1 : Int32)).toNatClampNeg) (xs ((nI i) + (2 : Int32)).toNatClampNeg) (0 : Int32)).2 := hRel
    refine cxL (As := [.int (xs ((nI i) + (1 : Int32)).toNatClampNeg), .int (xs ((nI i) + (2 : Int32)).toNatClampNeg), .int (0 : Int32)]) (rest := []) hx hb hml hown up hG hP hD hS hA k_L_158 (lnX_mean (l := l) (D := D) (cy := cy) a X (xs ((nI i) + (1 : Int32)).toNatClampNeg) (xs ((nI i) + (2 : Int32)).toNatClampNeg) (0 : Int32) H.size ok1) ⟨Nat.le_of_ble_eq_true rfl, Nat.le_of_ble_eq_true rfl⟩ (ci := 11) rfl rfl rfl rfl hl.1 rfl (Nat.le_of_ble_eq_true rfl) ⟨Nat.le_of_ble_eq_true rfl, Nat.le_of_ble_eq_true rfl⟩ dL_law_1323 (fun r1 u1 H locs f1 hP hD hS => ?_)
    rw [← f1] at e1 hRel
    replace hP := P_swap hP
    replace hD := D_swap hD
    refine lv_aload_n hx hb dL_law_1326 rfl (lv_at hl 2 rfl) ?_
    refine lv_aload_n hx hb dL_law_1327 rfl (lv_at hl 0 rfl) ?_
    refine lv_iload_n hx hb dL_law_1328 rfl (lv_at hl 3 rfl) ?_
    refine lv_iconst (v := 1) hx hb dL_law_1329 (by decide) ?_
    refine lv_iadd hx hb dL_law_1330 ?_
    refine va_sld hx hb hX hbl hbA hS v1 dL_law_1331 ?_
    refine lv_aload_n hx hb dL_law_1332 rfl (lv_at hl 0 rfl) ?_
    refine lv_iload_n hx hb dL_law_1333 rfl (lv_at hl 3 rfl) ?_
    refine lv_iconst (v := 2) hx hb dL_law_1334 (by decide) ?_
    refine lv_iadd hx hb dL_law_1335 ?_
    refine va_sld hx hb hX hbl hbA hS v2 dL_law_1336 ?_
    refine lv_aload_n hx hb dL_law_1337 rfl (lv_at hl 0 rfl) ?_
    refine lv_iload_n hx hb dL_law_1338 rfl (lv_at hl 3 rfl) ?_
    refine lv_iconst (v := 3) hx hb dL_law_1339 (by decide) ?_
    refine lv_iadd hx hb dL_law_1340 ?_
    refine va_sld hx hb hX hbl hbA hS v3 dL_law_1341 ?_
    refine lv_if_eq (tgt := 1349) hx hb dL_law_1342 (by decide) (fun _ => ?_) (fun q => absurd t_0 q)
    refine lv_iconst (v := 0) hx hb dL_law_1349 (by decide) ?_
    refine cxL (As := [.int (xs ((nI i) + (1 : Int32)).toNatClampNeg), .int (xs ((nI i) + (2 : Int32)).toNatClampNeg), .int (0 : Int32)]) (rest := [.long r1]) hx hb hml hown up hG hP hD hS hA k_L_162 (lnY_mean (l := l) (D := D) (cy := cy) b Y (xs ((nI i) + (1 : Int32)).toNatClampNeg) (xs ((nI i) + (2 : Int32)).toNatClampNeg) (0 : Int32) H.size ok2) ⟨Nat.le_of_ble_eq_true rfl, Nat.le_of_ble_eq_true rfl⟩ (ci := 12) rfl rfl rfl rfl hl.1 rfl (Nat.le_of_ble_eq_true rfl) ⟨Nat.le_of_ble_eq_true rfl, Nat.le_of_ble_eq_true rfl⟩ dL_law_1350 (fun r2 u2 H locs f2 hP hD hS => ?_)
    rw [← f2] at e1 hRel
    replace hP := P_swap hP
    replace hD := D_swap hD
    refine W.lcmp hx hb dL_law_1353 ?_
    refine lv_if_eq (tgt := 1575) hx hb dL_law_1354 (by decide) (fun _ => ?_) (fun q => absurd (by rw [show r1 = r2 from e1]; exact lg_self _) q)
    exact hc a u1 b u2 H locs ls hl hP hD hS hRel
  · refine lv_aload_n hx hb dL_law_1299 rfl (lv_at hl 1 rfl) ?_
    refine lv_aload_n hx hb dL_law_1300 rfl (lv_at hl 0 rfl) ?_
    refine lv_iload_n hx hb dL_law_1301 rfl (lv_at hl 3 rfl) ?_
    refine lv_iconst (v := 1) hx hb dL_law_1302 (by decide) ?_
    refine lv_iadd hx hb dL_law_1303 ?_
    refine va_sld hx hb hX hbl hbA hS v1 dL_law_1304 ?_
    refine lv_aload_n hx hb dL_law_1305 rfl (lv_at hl 0 rfl) ?_
    refine lv_iload_n hx hb dL_law_1306 rfl (lv_at hl 3 rfl) ?_
    refine lv_iconst (v := 2) hx hb dL_law_1307 (by decide) ?_
    refine lv_iadd hx hb dL_law_1308 ?_
    refine va_sld hx hb hX hbl hbA hS v2 dL_law_1309 ?_
    refine lv_aload_n hx hb dL_law_1310 rfl (lv_at hl 0 rfl) ?_
    refine lv_iload_n hx hb dL_law_1311 rfl (lv_at hl 3 rfl) ?_
    refine lv_iconst (v := 3) hx hb dL_law_1312 (by decide) ?_
    refine lv_iadd hx hb dL_law_1313 ?_
    refine va_sld hx hb hX hbl hbA hS v3 dL_law_1314 ?_
    refine lv_if_eq (tgt := 1322) hx hb dL_law_1315 (by decide) (fun q => absurd q t_0) (fun _ => ?_)
    refine lv_iconst (v := 1) hx hb dL_law_1318 (by decide) ?_
    refine lv_goto (tgt := 1323) hx hb dL_law_1319 (by decide) ?_
    obtain ⟨ok1, ok2, e1, hRel⟩ := hop (xs ((nI i) + (1 : Int32)).toNatClampNeg) (xs ((nI i) + (2 : Int32)).toNatClampNeg) (1 : Int32) X Y a b hRel
    replace e1 : (nX_mean a X (xs ((nI i) + (1 : Int32)).toNatClampNeg) (xs ((nI i) + (2 : Int32)).toNatClampNeg) (1 : Int32)).1 = (nY_mean b Y (xs ((nI i) + (1 : Int32)).toNatClampNeg) (xs ((nI i) + (2 : Int32)).toNatClampNeg) (1 : Int32)).1 := e1
    replace hRel : Rel (nX_mean a X (xs ((nI i) + (1 : Int32)).toNatClampNeg) (xs ((nI i) + (2 : Int32)).toNatClampNeg) (1 : Int32)).2 (nY_mean b Y (xs ((nI i) + (1 : Int32)).toNatClampNeg) (xs ((nI i) + (2 : Int32)).toNatClampNeg) (1 : Int32)).2 := hRel
    refine cxL (As := [.int (xs ((nI i) + (1 : Int32)).toNatClampNeg), .int (xs ((nI i) + (2 : Int32)).toNatClampNeg), .int (1 : Int32)]) (rest := []) hx hb hml hown up hG hP hD hS hA k_L_158 (lnX_mean (l := l) (D := D) (cy := cy) a X (xs ((nI i) + (1 : Int32)).toNatClampNeg) (xs ((nI i) + (2 : Int32)).toNatClampNeg) (1 : Int32) H.size ok1) ⟨Nat.le_of_ble_eq_true rfl, Nat.le_of_ble_eq_true rfl⟩ (ci := 11) rfl rfl rfl rfl hl.1 rfl (Nat.le_of_ble_eq_true rfl) ⟨Nat.le_of_ble_eq_true rfl, Nat.le_of_ble_eq_true rfl⟩ dL_law_1323 (fun r1 u1 H locs f1 hP hD hS => ?_)
    rw [← f1] at e1 hRel
    replace hP := P_swap hP
    replace hD := D_swap hD
    refine lv_aload_n hx hb dL_law_1326 rfl (lv_at hl 2 rfl) ?_
    refine lv_aload_n hx hb dL_law_1327 rfl (lv_at hl 0 rfl) ?_
    refine lv_iload_n hx hb dL_law_1328 rfl (lv_at hl 3 rfl) ?_
    refine lv_iconst (v := 1) hx hb dL_law_1329 (by decide) ?_
    refine lv_iadd hx hb dL_law_1330 ?_
    refine va_sld hx hb hX hbl hbA hS v1 dL_law_1331 ?_
    refine lv_aload_n hx hb dL_law_1332 rfl (lv_at hl 0 rfl) ?_
    refine lv_iload_n hx hb dL_law_1333 rfl (lv_at hl 3 rfl) ?_
    refine lv_iconst (v := 2) hx hb dL_law_1334 (by decide) ?_
    refine lv_iadd hx hb dL_law_1335 ?_
    refine va_sld hx hb hX hbl hbA hS v2 dL_law_1336 ?_
    refine lv_aload_n hx hb dL_law_1337 rfl (lv_at hl 0 rfl) ?_
    refine lv_iload_n hx hb dL_law_1338 rfl (lv_at hl 3 rfl) ?_
    refine lv_iconst (v := 3) hx hb dL_law_1339 (by decide) ?_
    refine lv_iadd hx hb dL_law_1340 ?_
    refine va_sld hx hb hX hbl hbA hS v3 dL_law_1341 ?_
    refine lv_if_eq (tgt := 1349) hx hb dL_law_1342 (by decide) (fun q => absurd q t_0) (fun _ => ?_)
    refine lv_iconst (v := 1) hx hb dL_law_1345 (by decide) ?_
    refine lv_goto (tgt := 1350) hx hb dL_law_1346 (by decide) ?_
    refine cxL (As := [.int (xs ((nI i) + (1 : Int32)).toNatClampNeg), .int (xs ((nI i) + (2 : Int32)).toNatClampNeg), .int (1 : Int32)]) (rest := [.long r1]) hx hb hml hown up hG hP hD hS hA k_L_162 (lnY_mean (l := l) (D := D) (cy := cy) b Y (xs ((nI i) + (1 : Int32)).toNatClampNeg) (xs ((nI i) + (2 : Int32)).toNatClampNeg) (1 : Int32) H.size ok2) ⟨Nat.le_of_ble_eq_true rfl, Nat.le_of_ble_eq_true rfl⟩ (ci := 12) rfl rfl rfl rfl hl.1 rfl (Nat.le_of_ble_eq_true rfl) ⟨Nat.le_of_ble_eq_true rfl, Nat.le_of_ble_eq_true rfl⟩ dL_law_1350 (fun r2 u2 H locs f2 hP hD hS => ?_)
    rw [← f2] at e1 hRel
    replace hP := P_swap hP
    replace hD := D_swap hD
    refine W.lcmp hx hb dL_law_1353 ?_
    refine lv_if_eq (tgt := 1575) hx hb dL_law_1354 (by decide) (fun _ => ?_) (fun q => absurd (by rw [show r1 = r2 from e1]; exact lg_self _) q)
    exact hc a u1 b u2 H locs ls hl hP hD hS hRel
set_option maxHeartbeats 4000000 in
set_option maxRecDepth 100000 in
theorem lc_dry {Rel : Bd → Bd → Prop} {p : Program} {l : Launch} {e : Env} {s : State} {m : MethodId} {below : List Frame} {meth : Method} {c : Code} {D : va_G} {cy : Nat → ClassId} {sb L i : Nat} {xs : Nat → Int32} {QQ : State → Prop} (hx : p.tables.exec = Jvm.exec) (hb : c.code = code) (hml : c.maxLocals = 4) (hown : s.vm.findClass RL = some m.cls) (up : ∀ w ∈ LW, w.before #[Value.ref sb] s = true) (hG : GW D cy s) (hX : va_X sb L xs s s.heap) (hbl : sb < s.heap.size) (hi : i + 6 ≤ L) (hL : L ≤ 384) (hop : Op_dry Rel) (hc : LCont Rel p l e s m below meth c D cy sb i QQ 1575) : LCont Rel p l e s m below meth c D cy sb i QQ 1359 := by
  intro a X b Y H locs ls hl hP hD hS hRel
  have hA : ∀ q : Nat, s.heap.size ≤ q → LA s q := fun _ h => h
  have hbA : ¬ LA s sb := Nat.not_le.mpr hbl
  have v1 : vp_in (nI i + (1 : Int32)) L := by rw [show nI i + (1 : Int32) = nI (i + 1) from nI_add i 1]; exact vp_in_nI (by omega) (by omega)
  have v2 : vp_in (nI i + (2 : Int32)) L := by rw [show nI i + (2 : Int32) = nI (i + 2) from nI_add i 2]; exact vp_in_nI (by omega) (by omega)
  have v3 : vp_in (nI i + (3 : Int32)) L := by rw [show nI i + (3 : Int32) = nI (i + 3) from nI_add i 3]; exact vp_in_nI (by omega) (by omega)
  have v4 : vp_in (nI i + (4 : Int32)) L := by rw [show nI i + (4 : Int32) = nI (i + 4) from nI_add i 4]; exact vp_in_nI (by omega) (by omega)
  have v5 : vp_in (nI i + (5 : Int32)) L := by rw [show nI i + (5 : Int32) = nI (i + 5) from nI_add i 5]; exact vp_in_nI (by omega) (by omega)
  by_cases t_0 : (xs ((nI i) + (3 : Int32)).toNatClampNeg) = 0
  · refine lv_aload_n hx hb dL_law_1359 rfl (lv_at hl 1 rfl) ?_
    refine lv_aload_n hx hb dL_law_1360 rfl (lv_at hl 0 rfl) ?_
    refine lv_iload_n hx hb dL_law_1361 rfl (lv_at hl 3 rfl) ?_
    refine lv_iconst (v := 1) hx hb dL_law_1362 (by decide) ?_
    refine lv_iadd hx hb dL_law_1363 ?_
    refine va_sld hx hb hX hbl hbA hS v1 dL_law_1364 ?_
    refine lv_aload_n hx hb dL_law_1365 rfl (lv_at hl 0 rfl) ?_
    refine lv_iload_n hx hb dL_law_1366 rfl (lv_at hl 3 rfl) ?_
    refine lv_iconst (v := 2) hx hb dL_law_1367 (by decide) ?_
    refine lv_iadd hx hb dL_law_1368 ?_
    refine va_sld hx hb hX hbl hbA hS v2 dL_law_1369 ?_
    refine lv_aload_n hx hb dL_law_1370 rfl (lv_at hl 0 rfl) ?_
    refine lv_iload_n hx hb dL_law_1371 rfl (lv_at hl 3 rfl) ?_
    refine lv_iconst (v := 3) hx hb dL_law_1372 (by decide) ?_
    refine lv_iadd hx hb dL_law_1373 ?_
    refine va_sld hx hb hX hbl hbA hS v3 dL_law_1374 ?_
    refine lv_if_eq (tgt := 1382) hx hb dL_law_1375 (by decide) (fun _ => ?_) (fun q => absurd t_0 q)
    refine lv_iconst (v := 0) hx hb dL_law_1382 (by decide) ?_
    obtain ⟨ok1, ok2, e1, hRel⟩ := hop (xs ((nI i) + (1 : Int32)).toNatClampNeg) (xs ((nI i) + (2 : Int32)).toNatClampNeg) (0 : Int32) X Y a b hRel
    replace e1 : (nX_dry a X (xs ((nI i) + (1 : Int32)).toNatClampNeg) (xs ((nI i) + (2 : Int32)).toNatClampNeg) (0 : Int32)).1 = (nY_dry b Y (xs ((nI i) + (1 : Int32)).toNatClampNeg) (xs ((nI i) + (2 : Int32)).toNatClampNeg) (0 : Int32)).1 := e1
    replace hRel : Rel (nX_dry a X (xs ((nI i) + (1 : Int32)).toNatClampNeg) (xs ((nI i) + (2 : Int32)).toNatClampNeg) (0 : Int32)).2 (nY_dry b Y (xs ((nI i) + (1 : Int32)).toNatClampNeg) (xs ((nI i) + (2 : Int32)).toNatClampNeg) (0 : Int32)).2 := hRel
    refine cxL (As := [.int (xs ((nI i) + (1 : Int32)).toNatClampNeg), .int (xs ((nI i) + (2 : Int32)).toNatClampNeg), .int (0 : Int32)]) (rest := []) hx hb hml hown up hG hP hD hS hA k_L_163 (lnX_dry (l := l) (D := D) (cy := cy) a X (xs ((nI i) + (1 : Int32)).toNatClampNeg) (xs ((nI i) + (2 : Int32)).toNatClampNeg) (0 : Int32) H.size ok1) ⟨Nat.le_of_ble_eq_true rfl, Nat.le_of_ble_eq_true rfl⟩ (ci := 11) rfl rfl rfl rfl hl.1 rfl (Nat.le_of_ble_eq_true rfl) ⟨Nat.le_of_ble_eq_true rfl, Nat.le_of_ble_eq_true rfl⟩ dL_law_1383 (fun r1 u1 H locs f1 hP hD hS => ?_)
    rw [← f1] at e1 hRel
    replace hP := P_swap hP
    replace hD := D_swap hD
    refine lv_aload_n hx hb dL_law_1386 rfl (lv_at hl 2 rfl) ?_
    refine lv_aload_n hx hb dL_law_1387 rfl (lv_at hl 0 rfl) ?_
    refine lv_iload_n hx hb dL_law_1388 rfl (lv_at hl 3 rfl) ?_
    refine lv_iconst (v := 1) hx hb dL_law_1389 (by decide) ?_
    refine lv_iadd hx hb dL_law_1390 ?_
    refine va_sld hx hb hX hbl hbA hS v1 dL_law_1391 ?_
    refine lv_aload_n hx hb dL_law_1392 rfl (lv_at hl 0 rfl) ?_
    refine lv_iload_n hx hb dL_law_1393 rfl (lv_at hl 3 rfl) ?_
    refine lv_iconst (v := 2) hx hb dL_law_1394 (by decide) ?_
    refine lv_iadd hx hb dL_law_1395 ?_
    refine va_sld hx hb hX hbl hbA hS v2 dL_law_1396 ?_
    refine lv_aload_n hx hb dL_law_1397 rfl (lv_at hl 0 rfl) ?_
    refine lv_iload_n hx hb dL_law_1398 rfl (lv_at hl 3 rfl) ?_
    refine lv_iconst (v := 3) hx hb dL_law_1399 (by decide) ?_
    refine lv_iadd hx hb dL_law_1400 ?_
    refine va_sld hx hb hX hbl hbA hS v3 dL_law_1401 ?_
    refine lv_if_eq (tgt := 1409) hx hb dL_law_1402 (by decide) (fun _ => ?_) (fun q => absurd t_0 q)
    refine lv_iconst (v := 0) hx hb dL_law_1409 (by decide) ?_
    refine cxL (As := [.int (xs ((nI i) + (1 : Int32)).toNatClampNeg), .int (xs ((nI i) + (2 : Int32)).toNatClampNeg), .int (0 : Int32)]) (rest := [.long r1]) hx hb hml hown up hG hP hD hS hA k_L_166 (lnY_dry (l := l) (D := D) (cy := cy) b Y (xs ((nI i) + (1 : Int32)).toNatClampNeg) (xs ((nI i) + (2 : Int32)).toNatClampNeg) (0 : Int32) H.size ok2) ⟨Nat.le_of_ble_eq_true rfl, Nat.le_of_ble_eq_true rfl⟩ (ci := 12) rfl rfl rfl rfl hl.1 rfl (Nat.le_of_ble_eq_true rfl) ⟨Nat.le_of_ble_eq_true rfl, Nat.le_of_ble_eq_true rfl⟩ dL_law_1410 (fun r2 u2 H locs f2 hP hD hS => ?_)
    rw [← f2] at e1 hRel
    replace hP := P_swap hP
    replace hD := D_swap hD
    refine W.lcmp hx hb dL_law_1413 ?_
    refine lv_if_eq (tgt := 1575) hx hb dL_law_1414 (by decide) (fun _ => ?_) (fun q => absurd (by rw [show r1 = r2 from e1]; exact lg_self _) q)
    exact hc a u1 b u2 H locs ls hl hP hD hS hRel
  · refine lv_aload_n hx hb dL_law_1359 rfl (lv_at hl 1 rfl) ?_
    refine lv_aload_n hx hb dL_law_1360 rfl (lv_at hl 0 rfl) ?_
    refine lv_iload_n hx hb dL_law_1361 rfl (lv_at hl 3 rfl) ?_
    refine lv_iconst (v := 1) hx hb dL_law_1362 (by decide) ?_
    refine lv_iadd hx hb dL_law_1363 ?_
    refine va_sld hx hb hX hbl hbA hS v1 dL_law_1364 ?_
    refine lv_aload_n hx hb dL_law_1365 rfl (lv_at hl 0 rfl) ?_
    refine lv_iload_n hx hb dL_law_1366 rfl (lv_at hl 3 rfl) ?_
    refine lv_iconst (v := 2) hx hb dL_law_1367 (by decide) ?_
    refine lv_iadd hx hb dL_law_1368 ?_
    refine va_sld hx hb hX hbl hbA hS v2 dL_law_1369 ?_
    refine lv_aload_n hx hb dL_law_1370 rfl (lv_at hl 0 rfl) ?_
    refine lv_iload_n hx hb dL_law_1371 rfl (lv_at hl 3 rfl) ?_
    refine lv_iconst (v := 3) hx hb dL_law_1372 (by decide) ?_
    refine lv_iadd hx hb dL_law_1373 ?_
    refine va_sld hx hb hX hbl hbA hS v3 dL_law_1374 ?_
    refine lv_if_eq (tgt := 1382) hx hb dL_law_1375 (by decide) (fun q => absurd q t_0) (fun _ => ?_)
    refine lv_iconst (v := 1) hx hb dL_law_1378 (by decide) ?_
    refine lv_goto (tgt := 1383) hx hb dL_law_1379 (by decide) ?_
    obtain ⟨ok1, ok2, e1, hRel⟩ := hop (xs ((nI i) + (1 : Int32)).toNatClampNeg) (xs ((nI i) + (2 : Int32)).toNatClampNeg) (1 : Int32) X Y a b hRel
    replace e1 : (nX_dry a X (xs ((nI i) + (1 : Int32)).toNatClampNeg) (xs ((nI i) + (2 : Int32)).toNatClampNeg) (1 : Int32)).1 = (nY_dry b Y (xs ((nI i) + (1 : Int32)).toNatClampNeg) (xs ((nI i) + (2 : Int32)).toNatClampNeg) (1 : Int32)).1 := e1
    replace hRel : Rel (nX_dry a X (xs ((nI i) + (1 : Int32)).toNatClampNeg) (xs ((nI i) + (2 : Int32)).toNatClampNeg) (1 : Int32)).2 (nY_dry b Y (xs ((nI i) + (1 : Int32)).toNatClampNeg) (xs ((nI i) + (2 : Int32)).toNatClampNeg) (1 : Int32)).2 := hRel
    refine cxL (As := [.int (xs ((nI i) + (1 : Int32)).toNatClampNeg), .int (xs ((nI i) + (2 : Int32)).toNatClampNeg), .int (1 : Int32)]) (rest := []) hx hb hml hown up hG hP hD hS hA k_L_163 (lnX_dry (l := l) (D := D) (cy := cy) a X (xs ((nI i) + (1 : Int32)).toNatClampNeg) (xs ((nI i) + (2 : Int32)).toNatClampNeg) (1 : Int32) H.size ok1) ⟨Nat.le_of_ble_eq_true rfl, Nat.le_of_ble_eq_true rfl⟩ (ci := 11) rfl rfl rfl rfl hl.1 rfl (Nat.le_of_ble_eq_true rfl) ⟨Nat.le_of_ble_eq_true rfl, Nat.le_of_ble_eq_true rfl⟩ dL_law_1383 (fun r1 u1 H locs f1 hP hD hS => ?_)
    rw [← f1] at e1 hRel
    replace hP := P_swap hP
    replace hD := D_swap hD
    refine lv_aload_n hx hb dL_law_1386 rfl (lv_at hl 2 rfl) ?_
    refine lv_aload_n hx hb dL_law_1387 rfl (lv_at hl 0 rfl) ?_
    refine lv_iload_n hx hb dL_law_1388 rfl (lv_at hl 3 rfl) ?_
    refine lv_iconst (v := 1) hx hb dL_law_1389 (by decide) ?_
    refine lv_iadd hx hb dL_law_1390 ?_
    refine va_sld hx hb hX hbl hbA hS v1 dL_law_1391 ?_
    refine lv_aload_n hx hb dL_law_1392 rfl (lv_at hl 0 rfl) ?_
    refine lv_iload_n hx hb dL_law_1393 rfl (lv_at hl 3 rfl) ?_
    refine lv_iconst (v := 2) hx hb dL_law_1394 (by decide) ?_
    refine lv_iadd hx hb dL_law_1395 ?_
    refine va_sld hx hb hX hbl hbA hS v2 dL_law_1396 ?_
    refine lv_aload_n hx hb dL_law_1397 rfl (lv_at hl 0 rfl) ?_
    refine lv_iload_n hx hb dL_law_1398 rfl (lv_at hl 3 rfl) ?_
    refine lv_iconst (v := 3) hx hb dL_law_1399 (by decide) ?_
    refine lv_iadd hx hb dL_law_1400 ?_
    refine va_sld hx hb hX hbl hbA hS v3 dL_law_1401 ?_
    refine lv_if_eq (tgt := 1409) hx hb dL_law_1402 (by decide) (fun q => absurd q t_0) (fun _ => ?_)
    refine lv_iconst (v := 1) hx hb dL_law_1405 (by decide) ?_
    refine lv_goto (tgt := 1410) hx hb dL_law_1406 (by decide) ?_
    refine cxL (As := [.int (xs ((nI i) + (1 : Int32)).toNatClampNeg), .int (xs ((nI i) + (2 : Int32)).toNatClampNeg), .int (1 : Int32)]) (rest := [.long r1]) hx hb hml hown up hG hP hD hS hA k_L_166 (lnY_dry (l := l) (D := D) (cy := cy) b Y (xs ((nI i) + (1 : Int32)).toNatClampNeg) (xs ((nI i) + (2 : Int32)).toNatClampNeg) (1 : Int32) H.size ok2) ⟨Nat.le_of_ble_eq_true rfl, Nat.le_of_ble_eq_true rfl⟩ (ci := 12) rfl rfl rfl rfl hl.1 rfl (Nat.le_of_ble_eq_true rfl) ⟨Nat.le_of_ble_eq_true rfl, Nat.le_of_ble_eq_true rfl⟩ dL_law_1410 (fun r2 u2 H locs f2 hP hD hS => ?_)
    rw [← f2] at e1 hRel
    replace hP := P_swap hP
    replace hD := D_swap hD
    refine W.lcmp hx hb dL_law_1413 ?_
    refine lv_if_eq (tgt := 1575) hx hb dL_law_1414 (by decide) (fun _ => ?_) (fun q => absurd (by rw [show r1 = r2 from e1]; exact lg_self _) q)
    exact hc a u1 b u2 H locs ls hl hP hD hS hRel
set_option maxHeartbeats 4000000 in
set_option maxRecDepth 100000 in
theorem lc_chance {Rel : Bd → Bd → Prop} {p : Program} {l : Launch} {e : Env} {s : State} {m : MethodId} {below : List Frame} {meth : Method} {c : Code} {D : va_G} {cy : Nat → ClassId} {sb L i : Nat} {xs : Nat → Int32} {QQ : State → Prop} (hx : p.tables.exec = Jvm.exec) (hb : c.code = code) (hml : c.maxLocals = 4) (hown : s.vm.findClass RL = some m.cls) (up : ∀ w ∈ LW, w.before #[Value.ref sb] s = true) (hG : GW D cy s) (hX : va_X sb L xs s s.heap) (hbl : sb < s.heap.size) (hi : i + 6 ≤ L) (hL : L ≤ 384) (hop : Op_chance Rel) (hc : LCont Rel p l e s m below meth c D cy sb i QQ 1575) : LCont Rel p l e s m below meth c D cy sb i QQ 1419 := by
  intro a X b Y H locs ls hl hP hD hS hRel
  have hA : ∀ q : Nat, s.heap.size ≤ q → LA s q := fun _ h => h
  have hbA : ¬ LA s sb := Nat.not_le.mpr hbl
  have v1 : vp_in (nI i + (1 : Int32)) L := by rw [show nI i + (1 : Int32) = nI (i + 1) from nI_add i 1]; exact vp_in_nI (by omega) (by omega)
  have v2 : vp_in (nI i + (2 : Int32)) L := by rw [show nI i + (2 : Int32) = nI (i + 2) from nI_add i 2]; exact vp_in_nI (by omega) (by omega)
  have v3 : vp_in (nI i + (3 : Int32)) L := by rw [show nI i + (3 : Int32) = nI (i + 3) from nI_add i 3]; exact vp_in_nI (by omega) (by omega)
  have v4 : vp_in (nI i + (4 : Int32)) L := by rw [show nI i + (4 : Int32) = nI (i + 4) from nI_add i 4]; exact vp_in_nI (by omega) (by omega)
  have v5 : vp_in (nI i + (5 : Int32)) L := by rw [show nI i + (5 : Int32) = nI (i + 5) from nI_add i 5]; exact vp_in_nI (by omega) (by omega)
  by_cases t_0 : (xs ((nI i) + (5 : Int32)).toNatClampNeg) = 0
  · refine lv_aload_n hx hb dL_law_1419 rfl (lv_at hl 1 rfl) ?_
    refine lv_aload_n hx hb dL_law_1420 rfl (lv_at hl 0 rfl) ?_
    refine lv_iload_n hx hb dL_law_1421 rfl (lv_at hl 3 rfl) ?_
    refine lv_iconst (v := 1) hx hb dL_law_1422 (by decide) ?_
    refine lv_iadd hx hb dL_law_1423 ?_
    refine va_sld hx hb hX hbl hbA hS v1 dL_law_1424 ?_
    refine lv_aload_n hx hb dL_law_1425 rfl (lv_at hl 0 rfl) ?_
    refine lv_iload_n hx hb dL_law_1426 rfl (lv_at hl 3 rfl) ?_
    refine lv_iconst (v := 2) hx hb dL_law_1427 (by decide) ?_
    refine lv_iadd hx hb dL_law_1428 ?_
    refine va_sld hx hb hX hbl hbA hS v2 dL_law_1429 ?_
    refine lv_aload_n hx hb dL_law_1430 rfl (lv_at hl 0 rfl) ?_
    refine lv_iload_n hx hb dL_law_1431 rfl (lv_at hl 3 rfl) ?_
    refine lv_iconst (v := 3) hx hb dL_law_1432 (by decide) ?_
    refine lv_iadd hx hb dL_law_1433 ?_
    refine va_sld hx hb hX hbl hbA hS v3 dL_law_1434 ?_
    refine lv_aload_n hx hb dL_law_1435 rfl (lv_at hl 0 rfl) ?_
    refine lv_iload_n hx hb dL_law_1436 rfl (lv_at hl 3 rfl) ?_
    refine lv_iconst (v := 4) hx hb dL_law_1437 (by decide) ?_
    refine lv_iadd hx hb dL_law_1438 ?_
    refine va_sld hx hb hX hbl hbA hS v4 dL_law_1439 ?_
    refine lv_aload_n hx hb dL_law_1440 rfl (lv_at hl 0 rfl) ?_
    refine lv_iload_n hx hb dL_law_1441 rfl (lv_at hl 3 rfl) ?_
    refine lv_iconst (v := 5) hx hb dL_law_1442 (by decide) ?_
    refine lv_iadd hx hb dL_law_1443 ?_
    refine va_sld hx hb hX hbl hbA hS v5 dL_law_1444 ?_
    refine lv_if_eq (tgt := 1452) hx hb dL_law_1445 (by decide) (fun _ => ?_) (fun q => absurd t_0 q)
    refine lv_iconst (v := 0) hx hb dL_law_1452 (by decide) ?_
    obtain ⟨ok1, ok2, e1, hRel⟩ := hop (xs ((nI i) + (1 : Int32)).toNatClampNeg) (xs ((nI i) + (2 : Int32)).toNatClampNeg) (xs ((nI i) + (3 : Int32)).toNatClampNeg) (xs ((nI i) + (4 : Int32)).toNatClampNeg) (0 : Int32) X Y a b hRel
    replace e1 : (nX_chance a X (xs ((nI i) + (1 : Int32)).toNatClampNeg) (xs ((nI i) + (2 : Int32)).toNatClampNeg) (xs ((nI i) + (3 : Int32)).toNatClampNeg) (xs ((nI i) + (4 : Int32)).toNatClampNeg) (0 : Int32)).1 = (nY_chance b Y (xs ((nI i) + (1 : Int32)).toNatClampNeg) (xs ((nI i) + (2 : Int32)).toNatClampNeg) (xs ((nI i) + (3 : Int32)).toNatClampNeg) (xs ((nI i) + (4 : Int32)).toNatClampNeg) (0 : Int32)).1 := e1
    replace hRel : Rel (nX_chance a X (xs ((nI i) + (1 : Int32)).toNatClampNeg) (xs ((nI i) + (2 : Int32)).toNatClampNeg) (xs ((nI i) + (3 : Int32)).toNatClampNeg) (xs ((nI i) + (4 : Int32)).toNatClampNeg) (0 : Int32)).2 (nY_chance b Y (xs ((nI i) + (1 : Int32)).toNatClampNeg) (xs ((nI i) + (2 : Int32)).toNatClampNeg) (xs ((nI i) + (3 : Int32)).toNatClampNeg) (xs ((nI i) + (4 : Int32)).toNatClampNeg) (0 : Int32)).2 := hRel
    refine cxL (As := [.int (xs ((nI i) + (1 : Int32)).toNatClampNeg), .int (xs ((nI i) + (2 : Int32)).toNatClampNeg), .int (xs ((nI i) + (3 : Int32)).toNatClampNeg), .int (xs ((nI i) + (4 : Int32)).toNatClampNeg), .int (0 : Int32)]) (rest := []) hx hb hml hown up hG hP hD hS hA k_L_167 (lnX_chance (l := l) (D := D) (cy := cy) a X (xs ((nI i) + (1 : Int32)).toNatClampNeg) (xs ((nI i) + (2 : Int32)).toNatClampNeg) (xs ((nI i) + (3 : Int32)).toNatClampNeg) (xs ((nI i) + (4 : Int32)).toNatClampNeg) (0 : Int32) H.size ok1) ⟨Nat.le_of_ble_eq_true rfl, Nat.le_of_ble_eq_true rfl⟩ (ci := 11) rfl rfl rfl rfl hl.1 rfl (Nat.le_of_ble_eq_true rfl) ⟨Nat.le_of_ble_eq_true rfl, Nat.le_of_ble_eq_true rfl⟩ dL_law_1453 (fun r1 u1 H locs f1 hP hD hS => ?_)
    rw [← f1] at e1 hRel
    replace hP := P_swap hP
    replace hD := D_swap hD
    refine lv_aload_n hx hb dL_law_1456 rfl (lv_at hl 2 rfl) ?_
    refine lv_aload_n hx hb dL_law_1457 rfl (lv_at hl 0 rfl) ?_
    refine lv_iload_n hx hb dL_law_1458 rfl (lv_at hl 3 rfl) ?_
    refine lv_iconst (v := 1) hx hb dL_law_1459 (by decide) ?_
    refine lv_iadd hx hb dL_law_1460 ?_
    refine va_sld hx hb hX hbl hbA hS v1 dL_law_1461 ?_
    refine lv_aload_n hx hb dL_law_1462 rfl (lv_at hl 0 rfl) ?_
    refine lv_iload_n hx hb dL_law_1463 rfl (lv_at hl 3 rfl) ?_
    refine lv_iconst (v := 2) hx hb dL_law_1464 (by decide) ?_
    refine lv_iadd hx hb dL_law_1465 ?_
    refine va_sld hx hb hX hbl hbA hS v2 dL_law_1466 ?_
    refine lv_aload_n hx hb dL_law_1467 rfl (lv_at hl 0 rfl) ?_
    refine lv_iload_n hx hb dL_law_1468 rfl (lv_at hl 3 rfl) ?_
    refine lv_iconst (v := 3) hx hb dL_law_1469 (by decide) ?_
    refine lv_iadd hx hb dL_law_1470 ?_
    refine va_sld hx hb hX hbl hbA hS v3 dL_law_1471 ?_
    refine lv_aload_n hx hb dL_law_1472 rfl (lv_at hl 0 rfl) ?_
    refine lv_iload_n hx hb dL_law_1473 rfl (lv_at hl 3 rfl) ?_
    refine lv_iconst (v := 4) hx hb dL_law_1474 (by decide) ?_
    refine lv_iadd hx hb dL_law_1475 ?_
    refine va_sld hx hb hX hbl hbA hS v4 dL_law_1476 ?_
    refine lv_aload_n hx hb dL_law_1477 rfl (lv_at hl 0 rfl) ?_
    refine lv_iload_n hx hb dL_law_1478 rfl (lv_at hl 3 rfl) ?_
    refine lv_iconst (v := 5) hx hb dL_law_1479 (by decide) ?_
    refine lv_iadd hx hb dL_law_1480 ?_
    refine va_sld hx hb hX hbl hbA hS v5 dL_law_1481 ?_
    refine lv_if_eq (tgt := 1489) hx hb dL_law_1482 (by decide) (fun _ => ?_) (fun q => absurd t_0 q)
    refine lv_iconst (v := 0) hx hb dL_law_1489 (by decide) ?_
    refine cxL (As := [.int (xs ((nI i) + (1 : Int32)).toNatClampNeg), .int (xs ((nI i) + (2 : Int32)).toNatClampNeg), .int (xs ((nI i) + (3 : Int32)).toNatClampNeg), .int (xs ((nI i) + (4 : Int32)).toNatClampNeg), .int (0 : Int32)]) (rest := [.long r1]) hx hb hml hown up hG hP hD hS hA k_L_171 (lnY_chance (l := l) (D := D) (cy := cy) b Y (xs ((nI i) + (1 : Int32)).toNatClampNeg) (xs ((nI i) + (2 : Int32)).toNatClampNeg) (xs ((nI i) + (3 : Int32)).toNatClampNeg) (xs ((nI i) + (4 : Int32)).toNatClampNeg) (0 : Int32) H.size ok2) ⟨Nat.le_of_ble_eq_true rfl, Nat.le_of_ble_eq_true rfl⟩ (ci := 12) rfl rfl rfl rfl hl.1 rfl (Nat.le_of_ble_eq_true rfl) ⟨Nat.le_of_ble_eq_true rfl, Nat.le_of_ble_eq_true rfl⟩ dL_law_1490 (fun r2 u2 H locs f2 hP hD hS => ?_)
    rw [← f2] at e1 hRel
    replace hP := P_swap hP
    replace hD := D_swap hD
    refine W.lcmp hx hb dL_law_1493 ?_
    refine lv_if_eq (tgt := 1575) hx hb dL_law_1494 (by decide) (fun _ => ?_) (fun q => absurd (by rw [show r1 = r2 from e1]; exact lg_self _) q)
    exact hc a u1 b u2 H locs ls hl hP hD hS hRel
  · refine lv_aload_n hx hb dL_law_1419 rfl (lv_at hl 1 rfl) ?_
    refine lv_aload_n hx hb dL_law_1420 rfl (lv_at hl 0 rfl) ?_
    refine lv_iload_n hx hb dL_law_1421 rfl (lv_at hl 3 rfl) ?_
    refine lv_iconst (v := 1) hx hb dL_law_1422 (by decide) ?_
    refine lv_iadd hx hb dL_law_1423 ?_
    refine va_sld hx hb hX hbl hbA hS v1 dL_law_1424 ?_
    refine lv_aload_n hx hb dL_law_1425 rfl (lv_at hl 0 rfl) ?_
    refine lv_iload_n hx hb dL_law_1426 rfl (lv_at hl 3 rfl) ?_
    refine lv_iconst (v := 2) hx hb dL_law_1427 (by decide) ?_
    refine lv_iadd hx hb dL_law_1428 ?_
    refine va_sld hx hb hX hbl hbA hS v2 dL_law_1429 ?_
    refine lv_aload_n hx hb dL_law_1430 rfl (lv_at hl 0 rfl) ?_
    refine lv_iload_n hx hb dL_law_1431 rfl (lv_at hl 3 rfl) ?_
    refine lv_iconst (v := 3) hx hb dL_law_1432 (by decide) ?_
    refine lv_iadd hx hb dL_law_1433 ?_
    refine va_sld hx hb hX hbl hbA hS v3 dL_law_1434 ?_
    refine lv_aload_n hx hb dL_law_1435 rfl (lv_at hl 0 rfl) ?_
    refine lv_iload_n hx hb dL_law_1436 rfl (lv_at hl 3 rfl) ?_
    refine lv_iconst (v := 4) hx hb dL_law_1437 (by decide) ?_
    refine lv_iadd hx hb dL_law_1438 ?_
    refine va_sld hx hb hX hbl hbA hS v4 dL_law_1439 ?_
    refine lv_aload_n hx hb dL_law_1440 rfl (lv_at hl 0 rfl) ?_
    refine lv_iload_n hx hb dL_law_1441 rfl (lv_at hl 3 rfl) ?_
    refine lv_iconst (v := 5) hx hb dL_law_1442 (by decide) ?_
    refine lv_iadd hx hb dL_law_1443 ?_
    refine va_sld hx hb hX hbl hbA hS v5 dL_law_1444 ?_
    refine lv_if_eq (tgt := 1452) hx hb dL_law_1445 (by decide) (fun q => absurd q t_0) (fun _ => ?_)
    refine lv_iconst (v := 1) hx hb dL_law_1448 (by decide) ?_
    refine lv_goto (tgt := 1453) hx hb dL_law_1449 (by decide) ?_
    obtain ⟨ok1, ok2, e1, hRel⟩ := hop (xs ((nI i) + (1 : Int32)).toNatClampNeg) (xs ((nI i) + (2 : Int32)).toNatClampNeg) (xs ((nI i) + (3 : Int32)).toNatClampNeg) (xs ((nI i) + (4 : Int32)).toNatClampNeg) (1 : Int32) X Y a b hRel
    replace e1 : (nX_chance a X (xs ((nI i) + (1 : Int32)).toNatClampNeg) (xs ((nI i) + (2 : Int32)).toNatClampNeg) (xs ((nI i) + (3 : Int32)).toNatClampNeg) (xs ((nI i) + (4 : Int32)).toNatClampNeg) (1 : Int32)).1 = (nY_chance b Y (xs ((nI i) + (1 : Int32)).toNatClampNeg) (xs ((nI i) + (2 : Int32)).toNatClampNeg) (xs ((nI i) + (3 : Int32)).toNatClampNeg) (xs ((nI i) + (4 : Int32)).toNatClampNeg) (1 : Int32)).1 := e1
    replace hRel : Rel (nX_chance a X (xs ((nI i) + (1 : Int32)).toNatClampNeg) (xs ((nI i) + (2 : Int32)).toNatClampNeg) (xs ((nI i) + (3 : Int32)).toNatClampNeg) (xs ((nI i) + (4 : Int32)).toNatClampNeg) (1 : Int32)).2 (nY_chance b Y (xs ((nI i) + (1 : Int32)).toNatClampNeg) (xs ((nI i) + (2 : Int32)).toNatClampNeg) (xs ((nI i) + (3 : Int32)).toNatClampNeg) (xs ((nI i) + (4 : Int32)).toNatClampNeg) (1 : Int32)).2 := hRel
    refine cxL (As := [.int (xs ((nI i) + (1 : Int32)).toNatClampNeg), .int (xs ((nI i) + (2 : Int32)).toNatClampNeg), .int (xs ((nI i) + (3 : Int32)).toNatClampNeg), .int (xs ((nI i) + (4 : Int32)).toNatClampNeg), .int (1 : Int32)]) (rest := []) hx hb hml hown up hG hP hD hS hA k_L_167 (lnX_chance (l := l) (D := D) (cy := cy) a X (xs ((nI i) + (1 : Int32)).toNatClampNeg) (xs ((nI i) + (2 : Int32)).toNatClampNeg) (xs ((nI i) + (3 : Int32)).toNatClampNeg) (xs ((nI i) + (4 : Int32)).toNatClampNeg) (1 : Int32) H.size ok1) ⟨Nat.le_of_ble_eq_true rfl, Nat.le_of_ble_eq_true rfl⟩ (ci := 11) rfl rfl rfl rfl hl.1 rfl (Nat.le_of_ble_eq_true rfl) ⟨Nat.le_of_ble_eq_true rfl, Nat.le_of_ble_eq_true rfl⟩ dL_law_1453 (fun r1 u1 H locs f1 hP hD hS => ?_)
    rw [← f1] at e1 hRel
    replace hP := P_swap hP
    replace hD := D_swap hD
    refine lv_aload_n hx hb dL_law_1456 rfl (lv_at hl 2 rfl) ?_
    refine lv_aload_n hx hb dL_law_1457 rfl (lv_at hl 0 rfl) ?_
    refine lv_iload_n hx hb dL_law_1458 rfl (lv_at hl 3 rfl) ?_
    refine lv_iconst (v := 1) hx hb dL_law_1459 (by decide) ?_
    refine lv_iadd hx hb dL_law_1460 ?_
    refine va_sld hx hb hX hbl hbA hS v1 dL_law_1461 ?_
    refine lv_aload_n hx hb dL_law_1462 rfl (lv_at hl 0 rfl) ?_
    refine lv_iload_n hx hb dL_law_1463 rfl (lv_at hl 3 rfl) ?_
    refine lv_iconst (v := 2) hx hb dL_law_1464 (by decide) ?_
    refine lv_iadd hx hb dL_law_1465 ?_
    refine va_sld hx hb hX hbl hbA hS v2 dL_law_1466 ?_
    refine lv_aload_n hx hb dL_law_1467 rfl (lv_at hl 0 rfl) ?_
    refine lv_iload_n hx hb dL_law_1468 rfl (lv_at hl 3 rfl) ?_
    refine lv_iconst (v := 3) hx hb dL_law_1469 (by decide) ?_
    refine lv_iadd hx hb dL_law_1470 ?_
    refine va_sld hx hb hX hbl hbA hS v3 dL_law_1471 ?_
    refine lv_aload_n hx hb dL_law_1472 rfl (lv_at hl 0 rfl) ?_
    refine lv_iload_n hx hb dL_law_1473 rfl (lv_at hl 3 rfl) ?_
    refine lv_iconst (v := 4) hx hb dL_law_1474 (by decide) ?_
    refine lv_iadd hx hb dL_law_1475 ?_
    refine va_sld hx hb hX hbl hbA hS v4 dL_law_1476 ?_
    refine lv_aload_n hx hb dL_law_1477 rfl (lv_at hl 0 rfl) ?_
    refine lv_iload_n hx hb dL_law_1478 rfl (lv_at hl 3 rfl) ?_
    refine lv_iconst (v := 5) hx hb dL_law_1479 (by decide) ?_
    refine lv_iadd hx hb dL_law_1480 ?_
    refine va_sld hx hb hX hbl hbA hS v5 dL_law_1481 ?_
    refine lv_if_eq (tgt := 1489) hx hb dL_law_1482 (by decide) (fun q => absurd q t_0) (fun _ => ?_)
    refine lv_iconst (v := 1) hx hb dL_law_1485 (by decide) ?_
    refine lv_goto (tgt := 1490) hx hb dL_law_1486 (by decide) ?_
    refine cxL (As := [.int (xs ((nI i) + (1 : Int32)).toNatClampNeg), .int (xs ((nI i) + (2 : Int32)).toNatClampNeg), .int (xs ((nI i) + (3 : Int32)).toNatClampNeg), .int (xs ((nI i) + (4 : Int32)).toNatClampNeg), .int (1 : Int32)]) (rest := [.long r1]) hx hb hml hown up hG hP hD hS hA k_L_171 (lnY_chance (l := l) (D := D) (cy := cy) b Y (xs ((nI i) + (1 : Int32)).toNatClampNeg) (xs ((nI i) + (2 : Int32)).toNatClampNeg) (xs ((nI i) + (3 : Int32)).toNatClampNeg) (xs ((nI i) + (4 : Int32)).toNatClampNeg) (1 : Int32) H.size ok2) ⟨Nat.le_of_ble_eq_true rfl, Nat.le_of_ble_eq_true rfl⟩ (ci := 12) rfl rfl rfl rfl hl.1 rfl (Nat.le_of_ble_eq_true rfl) ⟨Nat.le_of_ble_eq_true rfl, Nat.le_of_ble_eq_true rfl⟩ dL_law_1490 (fun r2 u2 H locs f2 hP hD hS => ?_)
    rw [← f2] at e1 hRel
    replace hP := P_swap hP
    replace hD := D_swap hD
    refine W.lcmp hx hb dL_law_1493 ?_
    refine lv_if_eq (tgt := 1575) hx hb dL_law_1494 (by decide) (fun _ => ?_) (fun q => absurd (by rw [show r1 = r2 from e1]; exact lg_self _) q)
    exact hc a u1 b u2 H locs ls hl hP hD hS hRel
set_option maxHeartbeats 4000000 in
set_option maxRecDepth 100000 in
theorem lc_look {Rel : Bd → Bd → Prop} {p : Program} {l : Launch} {e : Env} {s : State} {m : MethodId} {below : List Frame} {meth : Method} {c : Code} {D : va_G} {cy : Nat → ClassId} {sb L i : Nat} {xs : Nat → Int32} {QQ : State → Prop} (hx : p.tables.exec = Jvm.exec) (hb : c.code = code) (hml : c.maxLocals = 4) (hown : s.vm.findClass RL = some m.cls) (up : ∀ w ∈ LW, w.before #[Value.ref sb] s = true) (hG : GW D cy s) (hX : va_X sb L xs s s.heap) (hbl : sb < s.heap.size) (hi : i + 6 ≤ L) (hL : L ≤ 384) (hop : Op_look Rel) (hc : LCont Rel p l e s m below meth c D cy sb i QQ 1575) : LCont Rel p l e s m below meth c D cy sb i QQ 1499 := by
  intro a X b Y H locs ls hl hP hD hS hRel
  have hA : ∀ q : Nat, s.heap.size ≤ q → LA s q := fun _ h => h
  have hbA : ¬ LA s sb := Nat.not_le.mpr hbl
  have v1 : vp_in (nI i + (1 : Int32)) L := by rw [show nI i + (1 : Int32) = nI (i + 1) from nI_add i 1]; exact vp_in_nI (by omega) (by omega)
  have v2 : vp_in (nI i + (2 : Int32)) L := by rw [show nI i + (2 : Int32) = nI (i + 2) from nI_add i 2]; exact vp_in_nI (by omega) (by omega)
  have v3 : vp_in (nI i + (3 : Int32)) L := by rw [show nI i + (3 : Int32) = nI (i + 3) from nI_add i 3]; exact vp_in_nI (by omega) (by omega)
  have v4 : vp_in (nI i + (4 : Int32)) L := by rw [show nI i + (4 : Int32) = nI (i + 4) from nI_add i 4]; exact vp_in_nI (by omega) (by omega)
  have v5 : vp_in (nI i + (5 : Int32)) L := by rw [show nI i + (5 : Int32) = nI (i + 5) from nI_add i 5]; exact vp_in_nI (by omega) (by omega)
  refine lv_aload_n hx hb dL_law_1499 rfl (lv_at hl 1 rfl) ?_
  refine lv_aload_n hx hb dL_law_1500 rfl (lv_at hl 0 rfl) ?_
  refine lv_iload_n hx hb dL_law_1501 rfl (lv_at hl 3 rfl) ?_
  refine lv_iconst (v := 1) hx hb dL_law_1502 (by decide) ?_
  refine lv_iadd hx hb dL_law_1503 ?_
  refine va_sld hx hb hX hbl hbA hS v1 dL_law_1504 ?_
  refine lv_aload_n hx hb dL_law_1505 rfl (lv_at hl 0 rfl) ?_
  refine lv_iload_n hx hb dL_law_1506 rfl (lv_at hl 3 rfl) ?_
  refine lv_iconst (v := 2) hx hb dL_law_1507 (by decide) ?_
  refine lv_iadd hx hb dL_law_1508 ?_
  refine va_sld hx hb hX hbl hbA hS v2 dL_law_1509 ?_
  refine lv_aload_n hx hb dL_law_1510 rfl (lv_at hl 0 rfl) ?_
  refine lv_iload_n hx hb dL_law_1511 rfl (lv_at hl 3 rfl) ?_
  refine lv_iconst (v := 3) hx hb dL_law_1512 (by decide) ?_
  refine lv_iadd hx hb dL_law_1513 ?_
  refine va_sld hx hb hX hbl hbA hS v3 dL_law_1514 ?_
  refine lv_aload_n hx hb dL_law_1515 rfl (lv_at hl 0 rfl) ?_
  refine lv_iload_n hx hb dL_law_1516 rfl (lv_at hl 3 rfl) ?_
  refine lv_iconst (v := 4) hx hb dL_law_1517 (by decide) ?_
  refine lv_iadd hx hb dL_law_1518 ?_
  refine va_sld hx hb hX hbl hbA hS v4 dL_law_1519 ?_
  obtain ⟨ok1, ok2, e1, hRel⟩ := hop (xs ((nI i) + (1 : Int32)).toNatClampNeg) (xs ((nI i) + (2 : Int32)).toNatClampNeg) (xs ((nI i) + (3 : Int32)).toNatClampNeg) (xs ((nI i) + (4 : Int32)).toNatClampNeg) X Y a b hRel
  replace e1 : (nX_look a X (xs ((nI i) + (1 : Int32)).toNatClampNeg) (xs ((nI i) + (2 : Int32)).toNatClampNeg) (xs ((nI i) + (3 : Int32)).toNatClampNeg) (xs ((nI i) + (4 : Int32)).toNatClampNeg)).1 = (nY_look b Y (xs ((nI i) + (1 : Int32)).toNatClampNeg) (xs ((nI i) + (2 : Int32)).toNatClampNeg) (xs ((nI i) + (3 : Int32)).toNatClampNeg) (xs ((nI i) + (4 : Int32)).toNatClampNeg)).1 := e1
  replace hRel : Rel (nX_look a X (xs ((nI i) + (1 : Int32)).toNatClampNeg) (xs ((nI i) + (2 : Int32)).toNatClampNeg) (xs ((nI i) + (3 : Int32)).toNatClampNeg) (xs ((nI i) + (4 : Int32)).toNatClampNeg)).2 (nY_look b Y (xs ((nI i) + (1 : Int32)).toNatClampNeg) (xs ((nI i) + (2 : Int32)).toNatClampNeg) (xs ((nI i) + (3 : Int32)).toNatClampNeg) (xs ((nI i) + (4 : Int32)).toNatClampNeg)).2 := hRel
  refine cxI (As := [.int (xs ((nI i) + (1 : Int32)).toNatClampNeg), .int (xs ((nI i) + (2 : Int32)).toNatClampNeg), .int (xs ((nI i) + (3 : Int32)).toNatClampNeg), .int (xs ((nI i) + (4 : Int32)).toNatClampNeg)]) (rest := []) hx hb hml hown up hG hP hD hS hA k_L_172 (lnX_look (l := l) (D := D) (cy := cy) a X (xs ((nI i) + (1 : Int32)).toNatClampNeg) (xs ((nI i) + (2 : Int32)).toNatClampNeg) (xs ((nI i) + (3 : Int32)).toNatClampNeg) (xs ((nI i) + (4 : Int32)).toNatClampNeg) H.size ok1) ⟨Nat.le_of_ble_eq_true rfl, Nat.le_of_ble_eq_true rfl⟩ (ci := 11) rfl rfl rfl rfl hl.1 rfl (Nat.le_of_ble_eq_true rfl) ⟨Nat.le_of_ble_eq_true rfl, Nat.le_of_ble_eq_true rfl⟩ dL_law_1520 (fun r1 u1 H locs f1 hP hD hS => ?_)
  rw [← f1] at e1 hRel
  replace hP := P_swap hP
  replace hD := D_swap hD
  refine lv_aload_n hx hb dL_law_1523 rfl (lv_at hl 2 rfl) ?_
  refine lv_aload_n hx hb dL_law_1524 rfl (lv_at hl 0 rfl) ?_
  refine lv_iload_n hx hb dL_law_1525 rfl (lv_at hl 3 rfl) ?_
  refine lv_iconst (v := 1) hx hb dL_law_1526 (by decide) ?_
  refine lv_iadd hx hb dL_law_1527 ?_
  refine va_sld hx hb hX hbl hbA hS v1 dL_law_1528 ?_
  refine lv_aload_n hx hb dL_law_1529 rfl (lv_at hl 0 rfl) ?_
  refine lv_iload_n hx hb dL_law_1530 rfl (lv_at hl 3 rfl) ?_
  refine lv_iconst (v := 2) hx hb dL_law_1531 (by decide) ?_
  refine lv_iadd hx hb dL_law_1532 ?_
  refine va_sld hx hb hX hbl hbA hS v2 dL_law_1533 ?_
  refine lv_aload_n hx hb dL_law_1534 rfl (lv_at hl 0 rfl) ?_
  refine lv_iload_n hx hb dL_law_1535 rfl (lv_at hl 3 rfl) ?_
  refine lv_iconst (v := 3) hx hb dL_law_1536 (by decide) ?_
  refine lv_iadd hx hb dL_law_1537 ?_
  refine va_sld hx hb hX hbl hbA hS v3 dL_law_1538 ?_
  refine lv_aload_n hx hb dL_law_1539 rfl (lv_at hl 0 rfl) ?_
  refine lv_iload_n hx hb dL_law_1540 rfl (lv_at hl 3 rfl) ?_
  refine lv_iconst (v := 4) hx hb dL_law_1541 (by decide) ?_
  refine lv_iadd hx hb dL_law_1542 ?_
  refine va_sld hx hb hX hbl hbA hS v4 dL_law_1543 ?_
  refine cxI (As := [.int (xs ((nI i) + (1 : Int32)).toNatClampNeg), .int (xs ((nI i) + (2 : Int32)).toNatClampNeg), .int (xs ((nI i) + (3 : Int32)).toNatClampNeg), .int (xs ((nI i) + (4 : Int32)).toNatClampNeg)]) (rest := [.int r1]) hx hb hml hown up hG hP hD hS hA k_L_176 (lnY_look (l := l) (D := D) (cy := cy) b Y (xs ((nI i) + (1 : Int32)).toNatClampNeg) (xs ((nI i) + (2 : Int32)).toNatClampNeg) (xs ((nI i) + (3 : Int32)).toNatClampNeg) (xs ((nI i) + (4 : Int32)).toNatClampNeg) H.size ok2) ⟨Nat.le_of_ble_eq_true rfl, Nat.le_of_ble_eq_true rfl⟩ (ci := 12) rfl rfl rfl rfl hl.1 rfl (Nat.le_of_ble_eq_true rfl) ⟨Nat.le_of_ble_eq_true rfl, Nat.le_of_ble_eq_true rfl⟩ dL_law_1544 (fun r2 u2 H locs f2 hP hD hS => ?_)
  rw [← f2] at e1 hRel
  replace hP := P_swap hP
  replace hD := D_swap hD
  refine lv_icmp_eq (tgt := 1575) hx hb dL_law_1547 (by decide) (fun _ => ?_) (fun q => absurd e1 q)
  exact hc a u1 b u2 H locs ls hl hP hD hS hRel
set_option maxHeartbeats 4000000 in
set_option maxRecDepth 100000 in
theorem lc_count {Rel : Bd → Bd → Prop} {p : Program} {l : Launch} {e : Env} {s : State} {m : MethodId} {below : List Frame} {meth : Method} {c : Code} {D : va_G} {cy : Nat → ClassId} {sb L i : Nat} {xs : Nat → Int32} {QQ : State → Prop} (hx : p.tables.exec = Jvm.exec) (hb : c.code = code) (hml : c.maxLocals = 4) (hown : s.vm.findClass RL = some m.cls) (up : ∀ w ∈ LW, w.before #[Value.ref sb] s = true) (hG : GW D cy s) (hX : va_X sb L xs s s.heap) (hbl : sb < s.heap.size) (hi : i + 6 ≤ L) (hL : L ≤ 384) (hop : Op_count Rel) (hc : LCont Rel p l e s m below meth c D cy sb i QQ 1575) : LCont Rel p l e s m below meth c D cy sb i QQ 1552 := by
  intro a X b Y H locs ls hl hP hD hS hRel
  have hA : ∀ q : Nat, s.heap.size ≤ q → LA s q := fun _ h => h
  have hbA : ¬ LA s sb := Nat.not_le.mpr hbl
  have v1 : vp_in (nI i + (1 : Int32)) L := by rw [show nI i + (1 : Int32) = nI (i + 1) from nI_add i 1]; exact vp_in_nI (by omega) (by omega)
  have v2 : vp_in (nI i + (2 : Int32)) L := by rw [show nI i + (2 : Int32) = nI (i + 2) from nI_add i 2]; exact vp_in_nI (by omega) (by omega)
  have v3 : vp_in (nI i + (3 : Int32)) L := by rw [show nI i + (3 : Int32) = nI (i + 3) from nI_add i 3]; exact vp_in_nI (by omega) (by omega)
  have v4 : vp_in (nI i + (4 : Int32)) L := by rw [show nI i + (4 : Int32) = nI (i + 4) from nI_add i 4]; exact vp_in_nI (by omega) (by omega)
  have v5 : vp_in (nI i + (5 : Int32)) L := by rw [show nI i + (5 : Int32) = nI (i + 5) from nI_add i 5]; exact vp_in_nI (by omega) (by omega)
  refine lv_aload_n hx hb dL_law_1552 rfl (lv_at hl 1 rfl) ?_
  refine lv_aload_n hx hb dL_law_1553 rfl (lv_at hl 0 rfl) ?_
  refine lv_iload_n hx hb dL_law_1554 rfl (lv_at hl 3 rfl) ?_
  refine lv_iconst (v := 1) hx hb dL_law_1555 (by decide) ?_
  refine lv_iadd hx hb dL_law_1556 ?_
  refine va_sld hx hb hX hbl hbA hS v1 dL_law_1557 ?_
  obtain ⟨ok1, ok2, e1, hRel⟩ := hop (xs ((nI i) + (1 : Int32)).toNatClampNeg) X Y a b hRel
  replace e1 : (nX_count a X (xs ((nI i) + (1 : Int32)).toNatClampNeg)).1 = (nY_count b Y (xs ((nI i) + (1 : Int32)).toNatClampNeg)).1 := e1
  replace hRel : Rel (nX_count a X (xs ((nI i) + (1 : Int32)).toNatClampNeg)).2 (nY_count b Y (xs ((nI i) + (1 : Int32)).toNatClampNeg)).2 := hRel
  refine cxI (As := [.int (xs ((nI i) + (1 : Int32)).toNatClampNeg)]) (rest := []) hx hb hml hown up hG hP hD hS hA k_L_177 (lnX_count (l := l) (D := D) (cy := cy) a X (xs ((nI i) + (1 : Int32)).toNatClampNeg) H.size) ⟨Nat.le_of_ble_eq_true rfl, Nat.le_of_ble_eq_true rfl⟩ (ci := 11) rfl rfl rfl rfl hl.1 rfl (Nat.le_of_ble_eq_true rfl) ⟨Nat.le_of_ble_eq_true rfl, Nat.le_of_ble_eq_true rfl⟩ dL_law_1558 (fun r1 u1 H locs f1 hP hD hS => ?_)
  rw [← f1] at e1 hRel
  replace hP := P_swap hP
  replace hD := D_swap hD
  refine lv_aload_n hx hb dL_law_1561 rfl (lv_at hl 2 rfl) ?_
  refine lv_aload_n hx hb dL_law_1562 rfl (lv_at hl 0 rfl) ?_
  refine lv_iload_n hx hb dL_law_1563 rfl (lv_at hl 3 rfl) ?_
  refine lv_iconst (v := 1) hx hb dL_law_1564 (by decide) ?_
  refine lv_iadd hx hb dL_law_1565 ?_
  refine va_sld hx hb hX hbl hbA hS v1 dL_law_1566 ?_
  refine cxI (As := [.int (xs ((nI i) + (1 : Int32)).toNatClampNeg)]) (rest := [.int r1]) hx hb hml hown up hG hP hD hS hA k_L_180 (lnY_count (l := l) (D := D) (cy := cy) b Y (xs ((nI i) + (1 : Int32)).toNatClampNeg) H.size ok2) ⟨Nat.le_of_ble_eq_true rfl, Nat.le_of_ble_eq_true rfl⟩ (ci := 12) rfl rfl rfl rfl hl.1 rfl (Nat.le_of_ble_eq_true rfl) ⟨Nat.le_of_ble_eq_true rfl, Nat.le_of_ble_eq_true rfl⟩ dL_law_1567 (fun r2 u2 H locs f2 hP hD hS => ?_)
  rw [← f2] at e1 hRel
  replace hP := P_swap hP
  replace hD := D_swap hD
  refine lv_icmp_eq (tgt := 1575) hx hb dL_law_1570 (by decide) (fun _ => ?_) (fun q => absurd e1 q)
  exact hc a u1 b u2 H locs ls hl hP hD hS hRel

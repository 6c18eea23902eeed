theorem lt_six {L i : Nat} (hL : L ≤ 384) (hi : i ≤ 400) (h : ¬ (nI L - (6 : Int32) < nI i)) : i + 6 ≤ L := by
  rw [Int32.lt_iff_toInt_lt, show (6 : Int32) = nI 6 from rfl, pk_sub_toInt (by omega) (by omega), nI_toInt (by omega)] at h
  omega
set_option maxHeartbeats 4000000 in
set_option maxRecDepth 100000 in
/-- THE LAW'S LOOP -/
theorem law_loop {Rel : Bd → Bd → Prop} {p : Program} {l : Launch} {e : Env} {s : State} {m : MethodId} {below : List Frame} {meth : Method} {c : Code} {D : va_G} {cy : Nat → ClassId} {sb L : Nat} {xs : Nat → Int32} (hx : p.tables.exec = Jvm.exec) (hb : c.code = code) (hml : c.maxLocals = 4) (hown : s.vm.findClass RL = some m.cls) (up : ∀ w ∈ LW, w.before #[Value.ref sb] s = true) (hG : GW D cy s) (hX : va_X sb L xs s s.heap) (hbl : sb < s.heap.size) (hL : L ≤ 384) {tS : Nat} (hZ : va_Z "BoathouseKey" "MOVES" "[I" (.ref tS) (LA s) s s.heap) (hT : va_T .int tS 4 mvV (LA s) s s.heap) (hr : meth.sig.returnType = ret) (hlocks : meth.locks = false) (hop : Ops Rel) : ∀ (n i : Nat), i ≤ L + 6 → L + 12 ≤ i + n → LCont Rel p l e s m below meth c D cy sb i (lw_Z below #[Value.ref sb] s) 18 := by
  intro n
  induction n with
  | zero => intro i h1 h2; omega
  | succ n ih =>
    intro i hi1 hi2 a X b Y H locs ls hl hP hD hS hRel
    have hbA : ¬ LA s sb := Nat.not_le.mpr hbl
    refine lv_iload_n hx hb dL_law_18 rfl (lv_at hl 3 rfl) ?_
    refine lv_aload_n hx hb dL_law_19 rfl (lv_at hl 0 rfl) ?_
    refine va_slen hx hb hX hbl hbA hS dL_law_20 ?_
    refine lv_bipush (v := 6) hx hb dL_law_21 (by decide) ?_
    refine lv_isub hx hb dL_law_23 ?_
    refine lv_icmp_gt (tgt := 1581) hx hb dL_law_24 (by decide) (fun _ => ?_) (fun c_24 => ?_)
    · refine lv_iconst (v := 1) hx hb dL_law_1581 (by decide) ?_
      refine va_forget (fun q hq => hS.2.2 q hq) ?_
      refine W.widen (k := 600000) (n := 7302250) (Nat.le_of_ble_eq_true rfl) (Nat.le_of_ble_eq_true rfl) ?_
      exact lw_ret hx hb hr hlocks dL_law_1582
    · have hi : i + 6 ≤ L := lt_six hL (by omega) c_24
      have v0 : vp_in (nI i) L := vp_in_nI (by omega) (by omega)
      have hc : LCont Rel p l e s m below meth c D cy sb i (lw_Z below #[Value.ref sb] s) 1575 := by
        intro a X b Y H locs ls hl hP hD hS hRel
        refine lv_iinc (v := nI (i + 6)) (lv' := [(3, .int (nI (i + 6))), (0, .ref sb), (1, .ref (a 0)), (2, .ref (b 0))]) hx hb dL_law_1575 hl (k := 3) rfl (nI_add i 6) (Nat.le_of_ble_eq_true rfl) rfl (fun ls hl => ?_)
        refine lv_goto (tgt := 18) hx hb dL_law_1578 (by decide) ?_
        exact ih (i + 6) (by omega) (by omega) a X b Y H locs ls (lv_sub hl [1, 2, 3, 0] rfl) hP hD hS hRel
      refine lv_aload_n hx hb dL_law_27 rfl (lv_at hl 0 rfl) ?_
      refine lv_iload_n hx hb dL_law_28 rfl (lv_at hl 3 rfl) ?_
      refine va_sld hx hb hX hbl hbA hS v0 dL_law_29 ?_
      refine lv_bipush (v := 63) hx hb dL_law_30 (by decide) ?_
      refine lv_iand hx hb dL_law_32 ?_
      refine lv_topi (fun x _ => ?_)
      obtain ⟨o0, o1, o2, o3, o4, o5, o6, o7, o8, o9, o10, o11, o12, o13, o14, o15, o16, o17, o18, o19, o20, o21, o22, o23, o24, o25, o26, o27, o28, o29, o30, o31, o32, o33, o34, o35, o36, o37, o38⟩ := hop
      by_cases n_0 : x = (0 : Int32)
      · refine lv_tsw (off := 171) (tgt := 204) hx hb dL_law_33 (by decide) (by rw [n_0]; decide) (by decide) ?_
        exact lc_write hx hb hml hown up hG hX hbl hi hL o0 hc a X b Y H locs ls hl hP hD hS hRel
      by_cases n_1 : x = (1 : Int32)
      · refine lv_tsw (off := 234) (tgt := 267) hx hb dL_law_33 (by decide) (by rw [n_1]; decide) (by decide) ?_
        exact lc_wipe hx hb hml hown up hG hX hbl hi hL o1 hc a X b Y H locs ls hl hP hD hS hRel
      by_cases n_2 : x = (2 : Int32)
      · refine lv_tsw (off := 247) (tgt := 280) hx hb dL_law_33 (by decide) (by rw [n_2]; decide) (by decide) ?_
        exact lc_fault hx hb hml hown up hG hX hbl hi hL o2 hc a X b Y H locs ls hl hP hD hS hRel
      by_cases n_3 : x = (3 : Int32)
      · refine lv_tsw (off := 286) (tgt := 319) hx hb dL_law_33 (by decide) (by rw [n_3]; decide) (by decide) ?_
        exact lc_make hx hb hml hown up hG hX hbl hi hL o3 hc a X b Y H locs ls hl hP hD hS hRel
      by_cases n_4 : x = (4 : Int32)
      · refine lv_tsw (off := 299) (tgt := 332) hx hb dL_law_33 (by decide) (by rw [n_4]; decide) (by decide) ?_
        exact lc_rule hx hb hml hown up hG hX hbl hi hL o4 hc a X b Y H locs ls hl hP hD hS hRel
      by_cases n_5 : x = (5 : Int32)
      · refine lv_tsw (off := 322) (tgt := 355) hx hb dL_law_33 (by decide) (by rw [n_5]; decide) (by decide) ?_
        exact lc_ruled hx hb hml hown up hG hX hbl hi hL o5 hc a X b Y H locs ls hl hP hD hS hRel
      by_cases n_6 : x = (6 : Int32)
      · refine lv_tsw (off := 355) (tgt := 388) hx hb dL_law_33 (by decide) (by rw [n_6]; decide) (by decide) ?_
        exact lc_session hx hb hml hown up hG hX hbl hi hL o6 hc a X b Y H locs ls hl hP hD hS hRel
      by_cases n_7 : x = (7 : Int32)
      · refine lv_tsw (off := 388) (tgt := 421) hx hb dL_law_33 (by decide) (by rw [n_7]; decide) (by decide) ?_
        exact lc_place hx hb hml hown up hG hX hbl hi hL o7 hc a X b Y H locs ls hl hP hD hS hRel
      by_cases n_8 : x = (8 : Int32)
      · refine lv_tsw (off := 421) (tgt := 454) hx hb dL_law_33 (by decide) (by rw [n_8]; decide) (by decide) ?_
        exact lc_home hx hb hml hown up hG hX hbl hi hL o8 hc a X b Y H locs ls hl hP hD hS hRel
      by_cases n_9 : x = (9 : Int32)
      · refine lv_tsw (off := 444) (tgt := 477) hx hb dL_law_33 (by decide) (by rw [n_9]; decide) (by decide) ?_
        exact lc_own hx hb hml hown up hG hX hbl hi hL o9 hc a X b Y H locs ls hl hP hD hS hRel
      by_cases n_10 : x = (10 : Int32)
      · refine lv_tsw (off := 467) (tgt := 500) hx hb dL_law_33 (by decide) (by rw [n_10]; decide) (by decide) ?_
        exact lc_hour hx hb hml hown up hG hX hbl hi hL o10 hc a X b Y H locs ls hl hP hD hS hRel
      by_cases n_11 : x = (11 : Int32)
      · refine lv_tsw (off := 490) (tgt := 523) hx hb dL_law_33 (by decide) (by rw [n_11]; decide) (by decide) ?_
        exact lc_where hx hb hml hown up hG hX hbl hi hL o11 hc a X b Y H locs ls hl hP hD hS hRel
      by_cases n_12 : x = (12 : Int32)
      · refine lv_tsw (off := 503) (tgt := 536) hx hb dL_law_33 (by decide) (by rw [n_12]; decide) (by decide) ?_
        exact lc_bring hx hb hml hown up hG hX hbl hi hL o12 hc a X b Y H locs ls hl hP hD hS hRel
      by_cases n_13 : x = (13 : Int32)
      · refine lv_tsw (off := 526) (tgt := 559) hx hb dL_law_33 (by decide) (by rw [n_13]; decide) (by decide) ?_
        exact lc_live hx hb hml hown up hG hX hbl hi hL o13 hc a X b Y H locs ls hl hP hD hS hRel
      by_cases n_14 : x = (14 : Int32)
      · refine lv_tsw (off := 549) (tgt := 582) hx hb dL_law_33 (by decide) (by rw [n_14]; decide) (by decide) ?_
        exact lc_keep hx hb hml hown up hG hX hbl hi hL o14 hc a X b Y H locs ls hl hP hD hS hRel
      by_cases n_15 : x = (15 : Int32)
      · refine lv_tsw (off := 572) (tgt := 605) hx hb dL_law_33 (by decide) (by rw [n_15]; decide) (by decide) ?_
        exact lc_again hx hb hml hown up hG hX hbl hi hL o15 hc a X b Y H locs ls hl hP hD hS hRel
      by_cases n_16 : x = (16 : Int32)
      · refine lv_tsw (off := 595) (tgt := 628) hx hb dL_law_33 (by decide) (by rw [n_16]; decide) (by decide) ?_
        exact lc_week hx hb hml hown up hG hX hbl hi hL o16 hc a X b Y H locs ls hl hP hD hS hRel
      by_cases n_17 : x = (17 : Int32)
      · refine lv_tsw (off := 638) (tgt := 671) hx hb dL_law_33 (by decide) (by rw [n_17]; decide) (by decide) ?_
        exact lc_ahead hx hb hml hown up hG hX hbl hi hL o17 hc a X b Y H locs ls hl hP hD hS hRel
      by_cases n_18 : x = (18 : Int32)
      · refine lv_tsw (off := 681) (tgt := 714) hx hb dL_law_33 (by decide) (by rw [n_18]; decide) (by decide) ?_
        exact lc_outside hx hb hml hown up hG hX hbl hi hL o18 hc a X b Y H locs ls hl hP hD hS hRel
      by_cases n_19 : x = (19 : Int32)
      · refine lv_tsw (off := 724) (tgt := 757) hx hb dL_law_33 (by decide) (by rw [n_19]; decide) (by decide) ?_
        exact lc_ever hx hb hml hown up hG hX hbl hi hL o19 hc a X b Y H locs ls hl hP hD hS hRel
      by_cases n_20 : x = (20 : Int32)
      · refine lv_tsw (off := 767) (tgt := 800) hx hb dL_law_33 (by decide) (by rw [n_20]; decide) (by decide) ?_
        exact lc_never hx hb hml hown up hG hX hbl hi hL o20 hc a X b Y H locs ls hl hP hD hS hRel
      by_cases n_21 : x = (21 : Int32)
      · refine lv_tsw (off := 800) (tgt := 833) hx hb dL_law_33 (by decide) (by rw [n_21]; decide) (by decide) ?_
        exact lc_tell hx hb hml hown up hG hX hbl hi hL o21 hc a X b Y H locs ls hl hP hD hS hRel
      by_cases n_22 : x = (22 : Int32)
      · refine lv_tsw (off := 833) (tgt := 866) hx hb dL_law_33 (by decide) (by rw [n_22]; decide) (by decide) ?_
        exact lc_judge hx hb hml hown up hG hX hbl hi hL o22 hc a X b Y H locs ls hl hP hD hS hRel
      by_cases n_23 : x = (23 : Int32)
      · refine lv_tsw (off := 866) (tgt := 899) hx hb dL_law_33 (by decide) (by rw [n_23]; decide) (by decide) ?_
        exact lc_find hx hb hml hown up hG hX hbl hi hL o23 hc a X b Y H locs ls hl hP hD hS hRel
      by_cases n_24 : x = (24 : Int32)
      · refine lv_tsw (off := 899) (tgt := 932) hx hb dL_law_33 (by decide) (by rw [n_24]; decide) (by decide) ?_
        exact lc_from hx hb hml hown up hG hX hbl hi hL o24 hc a X b Y H locs ls hl hP hD hS hRel
      by_cases n_25 : x = (25 : Int32)
      · refine lv_tsw (off := 932) (tgt := 965) hx hb dL_law_33 (by decide) (by rw [n_25]; decide) (by decide) ?_
        exact lc_way hx hb hml hown up hG hX hbl hi hL o25 hc a X b Y H locs ls hl hP hD hS hRel
      by_cases n_26 : x = (26 : Int32)
      · refine lv_tsw (off := 975) (tgt := 1008) hx hb dL_law_33 (by decide) (by rw [n_26]; decide) (by decide) ?_
        exact lc_bar hx hb hml hown up hG hX hbl hi hL o26 hc a X b Y H locs ls hl hP hD hS hRel
      by_cases n_27 : x = (27 : Int32)
      · refine lv_tsw (off := 988) (tgt := 1021) hx hb dL_law_33 (by decide) (by rw [n_27]; decide) (by decide) ?_
        exact lc_brief hx hb hml hown up hG hX hbl hi hL o27 hc a X b Y H locs ls hl hP hD hS hRel
      by_cases n_28 : x = (28 : Int32)
      · refine lv_tsw (off := 1031) (tgt := 1064) hx hb dL_law_33 (by decide) (by rw [n_28]; decide) (by decide) ?_
        exact lc_briefPrice hx hb hml hown up hG hX hbl hi hL o28 hc a X b Y H locs ls hl hP hD hS hRel
      by_cases n_29 : x = (29 : Int32)
      · refine lv_tsw (off := 1101) (tgt := 1134) hx hb dL_law_33 (by decide) (by rw [n_29]; decide) (by decide) ?_
        exact lc_put hx hb hml hown up hG hX hbl hi hL o29 hc a X b Y H locs ls hl hP hD hS hRel
      by_cases n_30 : x = (30 : Int32)
      · refine lv_tsw (off := 1134) (tgt := 1167) hx hb dL_law_33 (by decide) (by rw [n_30]; decide) (by decide) ?_
        exact lc_keys hx hb hml hown up hG hX hbl hi hL o30 hc a X b Y H locs ls hl hP hD hS hRel
      by_cases n_31 : x = (31 : Int32)
      · refine lv_tsw (off := 1167) (tgt := 1200) hx hb dL_law_33 (by decide) (by rw [n_31]; decide) (by decide) ?_
        exact lc_move hx hb hml hown up hG hX hbl hi hL hZ hT o31 hc a X b Y H locs ls hl hP hD hS hRel
      by_cases n_32 : x = (32 : Int32)
      · refine lv_tsw (off := 1200) (tgt := 1233) hx hb dL_law_33 (by decide) (by rw [n_32]; decide) (by decide) ?_
        exact lc_fits hx hb hml hown up hG hX hbl hi hL o32 hc a X b Y H locs ls hl hP hD hS hRel
      by_cases n_33 : x = (33 : Int32)
      · refine lv_tsw (off := 1233) (tgt := 1266) hx hb dL_law_33 (by decide) (by rw [n_33]; decide) (by decide) ?_
        exact lc_shift hx hb hml hown up hG hX hbl hi hL o33 hc a X b Y H locs ls hl hP hD hS hRel
      by_cases n_34 : x = (34 : Int32)
      · refine lv_tsw (off := 1266) (tgt := 1299) hx hb dL_law_33 (by decide) (by rw [n_34]; decide) (by decide) ?_
        exact lc_mean hx hb hml hown up hG hX hbl hi hL o34 hc a X b Y H locs ls hl hP hD hS hRel
      by_cases n_35 : x = (35 : Int32)
      · refine lv_tsw (off := 1326) (tgt := 1359) hx hb dL_law_33 (by decide) (by rw [n_35]; decide) (by decide) ?_
        exact lc_dry hx hb hml hown up hG hX hbl hi hL o35 hc a X b Y H locs ls hl hP hD hS hRel
      by_cases n_36 : x = (36 : Int32)
      · refine lv_tsw (off := 1386) (tgt := 1419) hx hb dL_law_33 (by decide) (by rw [n_36]; decide) (by decide) ?_
        exact lc_chance hx hb hml hown up hG hX hbl hi hL o36 hc a X b Y H locs ls hl hP hD hS hRel
      by_cases n_37 : x = (37 : Int32)
      · refine lv_tsw (off := 1466) (tgt := 1499) hx hb dL_law_33 (by decide) (by rw [n_37]; decide) (by decide) ?_
        exact lc_look hx hb hml hown up hG hX hbl hi hL o37 hc a X b Y H locs ls hl hP hD hS hRel
      by_cases n_38 : x = (38 : Int32)
      · refine lv_tsw (off := 1519) (tgt := 1552) hx hb dL_law_33 (by decide) (by rw [n_38]; decide) (by decide) ?_
        exact lc_count hx hb hml hown up hG hX hbl hi hL o38 hc a X b Y H locs ls hl hP hD hS hRel
      refine lv_tsw (off := 1542) (tgt := 1575) hx hb dL_law_33 (by decide) (by simp only []; rw [tsw_no n_0 (by decide), tsw_no n_1 (by decide), tsw_no n_2 (by decide), tsw_no n_3 (by decide), tsw_no n_4 (by decide), tsw_no n_5 (by decide), tsw_no n_6 (by decide), tsw_no n_7 (by decide), tsw_no n_8 (by decide), tsw_no n_9 (by decide), tsw_no n_10 (by decide), tsw_no n_11 (by decide), tsw_no n_12 (by decide), tsw_no n_13 (by decide), tsw_no n_14 (by decide), tsw_no n_15 (by decide), tsw_no n_16 (by decide), tsw_no n_17 (by decide), tsw_no n_18 (by decide), tsw_no n_19 (by decide), tsw_no n_20 (by decide), tsw_no n_21 (by decide), tsw_no n_22 (by decide), tsw_no n_23 (by decide), tsw_no n_24 (by decide), tsw_no n_25 (by decide), tsw_no n_26 (by decide), tsw_no n_27 (by decide), tsw_no n_28 (by decide), tsw_no n_29 (by decide), tsw_no n_30 (by decide), tsw_no n_31 (by decide), tsw_no n_32 (by decide), tsw_no n_33 (by decide), tsw_no n_34 (by decide), tsw_no n_35 (by decide), tsw_no n_36 (by decide), tsw_no n_37 (by decide), tsw_no n_38 (by decide)]; rfl) (by decide) ?_
      exact hc a X b Y H locs ls hl hP hD hS hRel

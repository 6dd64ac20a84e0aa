/-! the law: its loop -/
theorem LWS_S {N : Nat} {D : va_G} {cK : Nat → ClassId} {A : Nat → Prop} {H0 : Heap} {cr md : Nat} {H : Heap} {locs : List Loc} (h : LWS N D cK A H0 cr md H locs) : va_S A H0 H locs := by
  obtain ⟨_, _, _, _, _, _, _, _, _, _, _, _, _, _, _, _, _, _, _, _, _, _, _, _, _, _, _, _, _, _, _, _, _, _, _, _, _, _, _, _, _, _, _, _, _, _, _, _, _, _, _, _, _, _, _, _, _, _, _, _, _, _, _, _, hS, _⟩ := h
  exact hS
set_option maxHeartbeats 4000000 in
theorem law_switch {p : Program} {l : Launch} {e : Env} {s : State} {m : MethodId} {below : List Frame} {meth : Method} {c : Code} {b L : Nat} {xs : Nat → Int32} {D : va_G} {cK : Nat → ClassId} {cr md i N cells slots : Nat} {H : Heap} {locs : List Loc} {ls : Array Slot} {Q : State → Prop} (C0 : lw_At p s m meth c b L xs) (hL : L ≤ 3073) (hK : va_K D zz_cl (mt_ty cK RK2) s) (hi : i + 6 ≤ L) (hcs : cells + 3 ≤ 600000) (hss : slots + 17 ≤ 7302250) (hl : lv_has ls 4 [(0, .ref b), (1, .ref cr), (2, .ref md), (3, .int (nI i))]) (h : LWS N D cK (fun q : Nat => s.heap.size ≤ q) s.heap cr md H locs) {t : Nat} (ht : t < 16)
    (kk : ∀ (H1 : Heap) (locs1 : List Loc), LWS N D cK (fun q : Nat => s.heap.size ≤ q) s.heap cr md H1 locs1 → W p l e room_1 s m #[Value.ref b] below meth c H1 locs1 (cells + 3) (slots + 17) Q (F0 m 722 ls [])) : W p l e room_1 s m #[Value.ref b] below meth c H locs cells slots Q (F0 m 43 ls [.int (nI t)]) := by
  have hx := C0.1
  have hb := C0.2.1
  rcases (show t = 0 ∨ t = 1 ∨ t = 2 ∨ t = 3 ∨ t = 4 ∨ t = 5 ∨ t = 6 ∨ t = 7 ∨ t = 8 ∨ t = 9 ∨ t = 10 ∨ t = 11 ∨ t = 12 ∨ t = 13 ∨ t = 14 ∨ t = 15 by omega) with rfl | rfl | rfl | rfl | rfl | rfl | rfl | rfl | rfl | rfl | rfl | rfl | rfl | rfl | rfl | rfl
  · exact lv_tableIn (off := 69) (tgt := 112) hx hb d_law_43 (by decide +kernel) (by decide +kernel) (by decide +kernel) (by decide) (lo_change C0 hL hK hi hcs hss hl h kk)
  · exact lv_tableIn (off := 138) (tgt := 181) hx hb d_law_43 (by decide +kernel) (by decide +kernel) (by decide +kernel) (by decide) (lo_step C0 hL hK hi hcs hss hl h kk)
  · exact lv_tableIn (off := 151) (tgt := 194) hx hb d_law_43 (by decide +kernel) (by decide +kernel) (by decide +kernel) (by decide) (lo_question C0 hL hK hi hcs hss hl h kk)
  · exact lv_tableIn (off := 174) (tgt := 217) hx hb d_law_43 (by decide +kernel) (by decide +kernel) (by decide +kernel) (by decide) (lo_pattern C0 hL hK hi hcs hss hl h kk)
  · exact lv_tableIn (off := 227) (tgt := 270) hx hb d_law_43 (by decide +kernel) (by decide +kernel) (by decide +kernel) (by decide) (lo_window C0 hL hK hi hcs hss hl h kk)
  · exact lv_tableIn (off := 260) (tgt := 303) hx hb d_law_43 (by decide +kernel) (by decide +kernel) (by decide +kernel) (by decide) (lo_rows C0 hL hK hi hcs hss hl h kk)
  · exact lv_tableIn (off := 293) (tgt := 336) hx hb d_law_43 (by decide +kernel) (by decide +kernel) (by decide +kernel) (by decide) (lo_changed C0 hL hK hi hcs hss hl h kk)
  · exact lv_tableIn (off := 352) (tgt := 395) hx hb d_law_43 (by decide +kernel) (by decide +kernel) (by decide +kernel) (by decide) (lo_row C0 hL hK hi hcs hss hl h kk)
  · exact lv_tableIn (off := 405) (tgt := 448) hx hb d_law_43 (by decide +kernel) (by decide +kernel) (by decide +kernel) (by decide) (lo_aggregate C0 hL hK hi hcs hss hl h kk)
  · exact lv_tableIn (off := 458) (tgt := 501) hx hb d_law_43 (by decide +kernel) (by decide +kernel) (by decide +kernel) (by decide) (lo_late C0 hL hK hi hcs hss hl h kk)
  · exact lv_tableIn (off := 537) (tgt := 580) hx hb d_law_43 (by decide +kernel) (by decide +kernel) (by decide +kernel) (by decide) (lo_still C0 hL hK hi hcs hss hl h kk)
  · exact lv_tableIn (off := 560) (tgt := 603) hx hb d_law_43 (by decide +kernel) (by decide +kernel) (by decide +kernel) (by decide) (lo_there C0 hL hK hi hcs hss hl h kk)
  · exact lv_tableIn (off := 613) (tgt := 656) hx hb d_law_43 (by decide +kernel) (by decide +kernel) (by decide +kernel) (by decide) (lo_age C0 hL hK hi hcs hss hl h kk)
  · exact lv_tableIn (off := 666) (tgt := 709) hx hb d_law_43 (by decide +kernel) (by decide +kernel) (by decide +kernel) (by decide) (lo_latest C0 hL hK hi hcs hss hl h kk)
  · exact lv_tableOut (tgt := 722) hx hb d_law_43 (by decide +kernel) (by decide) (W.widen (k := cells + 3) (n := slots + 17) (by omega) (by omega) (kk H locs h))
  · exact lv_tableOut (tgt := 722) hx hb d_law_43 (by decide +kernel) (by decide) (W.widen (k := cells + 3) (n := slots + 17) (by omega) (by omega) (kk H locs h))
set_option maxHeartbeats 4000000 in
theorem law_loop {p : Program} {l : Launch} {e : Env} {s : State} {m : MethodId} {below : List Frame} {meth : Method} {c : Code} {b L : Nat} {xs : Nat → Int32} {D : va_G} {cK : Nat → ClassId} {cr md N : Nat} (C0 : lw_At p s m meth c b L xs) (hL : L ≤ 3073) (hK : va_K D zz_cl (mt_ty cK RK2) s) : ∀ (n j : Nat) (H : Heap) (locs : List Loc) (ls : Array Slot), L + 6 < n + 6 * j + 1 → 1 + 6 * j ≤ L + 6 → lv_has ls 4 [(0, .ref b), (1, .ref cr), (2, .ref md), (3, .int (nI (1 + 6 * j)))] → LWS N D cK (fun q : Nat => s.heap.size ≤ q) s.heap cr md H locs → W p l e room_1 s m #[Value.ref b] below meth c H locs (30 + 3 * j) (778638 + 17 * j) (lw_Z below #[Value.ref b] s) (F0 m 28 ls []) := by
  obtain ⟨hx, hb, hr, hml, hown, hts0, hX, hbl, hlocks, hgv⟩ := id C0
  have hbA : ¬ (fun q : Nat => s.heap.size ≤ q) b := Nat.not_le.mpr hbl
  intro n
  induction n with
  | zero => intro j H locs ls hn hj; exact absurd hn (by omega)
  | succ n ih =>
    intro j H locs ls hn hj hl h
    have hS := LWS_S h
    refine lv_iload_n hx hb d_law_28 rfl (lv_at hl 3 rfl) ?_
    refine lv_aload_n hx hb d_law_29 rfl (lv_at hl 0 rfl) ?_
    refine va_slen hx hb hX hbl hbA hS d_law_30 ?_
    refine lv_bipush (v := nI 6) hx hb d_law_31 (by decide) ?_
    refine lv_isub hx hb d_law_33 ?_
    refine lv_icmp_gt (tgt := 728) hx hb d_law_34 (by decide) (fun hc => ?_) (fun hc => ?_)
    · refine va_forget hS.2.2 ?_
      refine W.widen (k := 600000) (n := 7302250) (by omega) (by omega) ?_
      refine lv_iconst (v := 1) hx hb d_law_728 (by decide) ?_
      exact lw_ret hx hb hr hlocks d_law_729
    · have hi : 1 + 6 * j + 6 ≤ L := by
        rw [Int32.lt_iff_toInt_lt, show Int32.ofNat L - nI 6 = nI L - nI 6 from rfl, pk_sub_toInt (by omega) (by omega), nI_toInt (by omega)] at hc
        omega
      refine lv_aload_n hx hb d_law_37 rfl (lv_at hl 0 rfl) ?_
      refine lv_iload_n hx hb d_law_38 rfl (lv_at hl 3 rfl) ?_
      refine va_sld hx hb hX hbl hbA hS (vp_in_nI (by omega) (by omega)) d_law_39 ?_
      refine lv_bipush (v := 15) hx hb d_law_40 (by decide) ?_
      refine lv_iand hx hb d_law_42 ?_
      obtain ⟨t, ht, et⟩ := pk_andE (xs (nI (1 + 6 * j)).toNatClampNeg) (m := 15) 4 (by decide)
      rw [et]
      refine law_switch C0 hL hK hi (by omega) (by omega) hl h (Nat.lt_of_lt_of_le ht (by decide)) (fun H1 locs1 h1 => ?_)
      refine lv_iinc (k := 3) (v := nI (1 + 6 * (j + 1))) (lv' := [(3, .int (nI (1 + 6 * (j + 1)))), (0, .ref b), (1, .ref cr), (2, .ref md)]) hx hb d_law_722 hl rfl ((nI_add (1 + 6 * j) 6).trans (congrArg nI (by omega))) (by decide) rfl (fun ls hl => ?_)
      refine lv_goto (tgt := 28) hx hb d_law_725 (by decide) ?_
      refine W.widen (k := 30 + 3 * (j + 1)) (n := 778638 + 17 * (j + 1)) (by omega) (by omega) ?_
      exact ih (j + 1) H1 locs1 ls (by omega) (by omega) (lv_sub hl [1, 2, 3, 0] rfl) h1

abbrev rm_Qu_itemAt : Room := { frames := 0, cells := 0, slots := 0, locals := 0 }
set_option maxHeartbeats 4000000 in
set_option maxRecDepth 100000 in
theorem c_Qu_itemAt (l : Launch) (D : va_G) (cK : Nat → ClassId) (q qI qL : Nat) (qW : Int32) (qP : Int32) (qV : Int32) (qIf : Nat → Int32) (v1 : Int32) (v2 : Int32) (r : Int32) (hf : f_Qu_itemAt qIf v1 v2 = some r) : RdI l y_Qu_itemAt w_Qu_itemAt rm_Qu_itemAt D zz_cl (mt_ty cK RK2) [.ref q, .int v1, .int v2] [(q, .inr (2, [.ref qI, .ref qL, .int qW, .int qP, .int qV])), (qI, .inl (cK 0, 9, .inl qIf))] r := by
  refine mk_RdI (cc := b_Qu_itemAt) (maxL := 4) (ty := .int) (by decide +kernel) rfl (Nat.le_of_ble_eq_true rfl) ?_
  intro p e s m below meth c args Q ls hx hb hml hown hts hK hP hret hl
  have hl : lv_has ls 4 [(0, .ref q), (1, .int v1), (2, .int v2)] := hl
  unfold f_Qu_itemAt at hf
  refine lv_iload_n hx hb d_Qu_itemAt_0 rfl (lv_at hl 1 rfl) ?_
  refine lv_iconst (v := 3) hx hb d_Qu_itemAt_1 (by decide) ?_
  refine lv_imul hx hb d_Qu_itemAt_2 ?_
  refine lv_iload_n hx hb d_Qu_itemAt_3 rfl (lv_at hl 2 rfl) ?_
  refine lv_iadd hx hb d_Qu_itemAt_4 ?_
  refine lv_istore_n (lv' := [(3, .int ((v1 * 3) + v2)), (0, .ref q), (1, .int v1), (2, .int v2)]) hx hb d_Qu_itemAt_5 rfl hl (by decide) rfl (fun ls hl => ?_)
  refine lv_iload_n hx hb d_Qu_itemAt_6 rfl (lv_at hl 0 rfl) ?_
  refine lv_if_lt (tgt := 28) hx hb d_Qu_itemAt_7 (by decide) (fun hc => ?_) (fun hc => ?_)
  · have hf := fn_t hc hf
    refine lv_iconst (v := 0) hx hb d_Qu_itemAt_28 (by decide) ?_
    cases hf
    exact hret 29 _ rfl d_Qu_itemAt_29
  · have hf := fn_f hc hf
    refine lv_iload_n hx hb d_Qu_itemAt_10 rfl (lv_at hl 0 rfl) ?_
    refine lv_aload_n hx hb d_Qu_itemAt_11 rfl (lv_at hl 1 rfl) ?_
    refine va_get (D := D) (ci := 2) (v := .ref qI) (C := RK2) (T := TK2) (N := 5) hx hb hts iwK2 hown hK hP 0 rfl rfl 0 (by decide) (hts _ fl_Qu_9) (fun _ h9 => h9) rfl d_Qu_itemAt_12 ?_
    refine va_alen hx hb hK hP 1 0 rfl rfl rfl d_Qu_itemAt_15 ?_
    refine lv_icmp_ge (tgt := 28) hx hb d_Qu_itemAt_16 (by decide) (fun hc => ?_) (fun hc => ?_)
    · have hf := fn_t hc hf
      refine lv_iconst (v := 0) hx hb d_Qu_itemAt_28 (by decide) ?_
      cases hf
      exact hret 29 _ rfl d_Qu_itemAt_29
    · have hf := fn_f hc hf
      refine lv_aload_n hx hb d_Qu_itemAt_19 rfl (lv_at hl 1 rfl) ?_
      refine va_get (D := D) (ci := 2) (v := .ref qI) (C := RK2) (T := TK2) (N := 5) hx hb hts iwK2 hown hK hP 0 rfl rfl 0 (by decide) (hts _ fl_Qu_9) (fun _ h9 => h9) rfl d_Qu_itemAt_20 ?_
      refine lv_iload_n hx hb d_Qu_itemAt_23 rfl (lv_at hl 0 rfl) ?_
      have hg := fn_g hf
      have hf := fn_t hg hf
      refine va_iald hx hb hK hP 1 0 rfl rfl (fn_v hg) d_Qu_itemAt_24 ?_
      refine lv_goto (tgt := 29) hx hb d_Qu_itemAt_25 (by decide) ?_
      cases hf
      exact hret 29 _ rfl d_Qu_itemAt_29
abbrev rm_Qu_uses : Room := { frames := 0, cells := 0, slots := 0, locals := 0 }
set_option maxHeartbeats 4000000 in
set_option maxRecDepth 100000 in
theorem c_Qu_uses (l : Launch) (D : va_G) (cK : Nat → ClassId) (q qI qL : Nat) (qW : Int32) (qP : Int32) (qV : Int32) (v1 : Int32) (r : Int32) (hf : f_Qu_uses qV v1 = some r) : RdI l y_Qu_uses w_Qu_uses rm_Qu_uses D zz_cl (mt_ty cK RK2) [.ref q, .int v1] [(q, .inr (2, [.ref qI, .ref qL, .int qW, .int qP, .int qV]))] r := by
  refine mk_RdI (cc := b_Qu_uses) (maxL := 2) (ty := .boolean) (by decide +kernel) rfl (Nat.le_of_ble_eq_true rfl) ?_
  intro p e s m below meth c args Q ls hx hb hml hown hts hK hP hret hl
  have hl : lv_has ls 2 [(0, .ref q), (1, .int v1)] := hl
  unfold f_Qu_uses at hf
  refine lv_aload_n hx hb d_Qu_uses_0 rfl (lv_at hl 0 rfl) ?_
  refine va_get (D := D) (ci := 2) (v := .int qV) (C := RK2) (T := TK2) (N := 5) hx hb hts iwK2 hown hK hP 0 rfl rfl 4 (by decide) (hts _ fl_Qu_35) (fun _ h9 => h9) rfl d_Qu_uses_1 ?_
  refine lv_iload_n hx hb d_Qu_uses_4 rfl (lv_at hl 1 rfl) ?_
  refine lv_ishr hx hb d_Qu_uses_5 ?_
  refine lv_iconst (v := 1) hx hb d_Qu_uses_6 (by decide) ?_
  refine lv_iand hx hb d_Qu_uses_7 ?_
  refine lv_if_eq (tgt := 15) hx hb d_Qu_uses_8 (by decide) (fun hc => ?_) (fun hc => ?_)
  · have hf := fn_t hc hf
    refine lv_iconst (v := 0) hx hb d_Qu_uses_15 (by decide) ?_
    cases hf
    exact hret 16 _ rfl d_Qu_uses_16
  · have hf := fn_f hc hf
    refine lv_iconst (v := 1) hx hb d_Qu_uses_11 (by decide) ?_
    refine lv_goto (tgt := 16) hx hb d_Qu_uses_12 (by decide) ?_
    cases hf
    exact hret 16 _ rfl d_Qu_uses_16
abbrev rm_Qu_use : Room := { frames := 0, cells := 0, slots := 0, locals := 0 }
set_option maxHeartbeats 4000000 in
set_option maxRecDepth 100000 in
theorem c_Qu_use (l : Launch) (D : va_G) (cK : Nat → ClassId) (q qI qL : Nat) (qW : Int32) (qP : Int32) (qV : Int32) (v1 : Int32) (o_qV : Int32) (hf : f_Qu_use qV v1 = some o_qV) : WrV l y_Qu_use w_Qu_use rm_Qu_use D zz_cl (mt_ty cK RK2) [.ref q, .int v1] [(q, .inr (2, [.ref qI, .ref qL, .int qW, .int qP, .int qV]))] [(q, .inr (2, [.ref qI, .ref qL, .int qW, .int qP, .int o_qV]))] := by
  refine mk_WrV (cc := b_Qu_use) (maxL := 2) (by decide +kernel) rfl (Nat.le_of_ble_eq_true rfl) ?_
  intro p e s m below meth c args Q A ls hx hb hml hown hts hA hK hP hD hret hl
  have hS : va_S A s.heap s.heap [] := va_S.rf
  have hl : lv_has ls 2 [(0, .ref q), (1, .int v1)] := hl
  unfold f_Qu_use at hf
  refine lv_iload_n hx hb d_Qu_use_0 rfl (lv_at hl 1 rfl) ?_
  refine lv_if_ge (tgt := 18) hx hb d_Qu_use_1 (by decide) (fun hc => ?_) (fun hc => ?_)
  · have hf := fn_t hc hf
    cases hf
    exact hret _ _ 18 _ hP hD hS d_Qu_use_18
  · have hf := fn_f hc hf
    refine lv_aload_n hx hb d_Qu_use_4 rfl (lv_at hl 0 rfl) ?_
    refine lv_dup hx hb d_Qu_use_5 rfl ?_
    refine va_get (D := D) (ci := 2) (v := .int qV) (C := RK2) (T := TK2) (N := 5) hx hb hts iwK2 hown hK hP 0 rfl rfl 4 (by decide) (hts _ fl_Qu_35) (fun _ h9 => h9) rfl d_Qu_use_6 ?_
    refine lv_iconst (v := 1) hx hb d_Qu_use_9 (by decide) ?_
    refine lv_iconst (v := (-1)) hx hb d_Qu_use_10 (by decide) ?_
    refine lv_iload_n hx hb d_Qu_use_11 rfl (lv_at hl 1 rfl) ?_
    refine lv_isub hx hb d_Qu_use_12 ?_
    refine lv_ishl hx hb d_Qu_use_13 ?_
    refine lv_ior hx hb d_Qu_use_14 ?_
    refine va_put (D := D) (ci := 2) (v := .int (qV ||| ((1 : Int32) <<< (((-1) - v1) &&& 31)))) (ty := .int) (C := RK2) (T := TK2) (N := 5) hx hb hts iwK2 tyK2 tyK2_ok nmK2 hown hK hP hD hS 0 rfl rfl 4 (by decide) (hts _ fl_Qu_35) (fun _ h9 => h9) rfl (by decide +kernel) rfl rfl (Nat.le_of_ble_eq_true rfl) d_Qu_use_15 (fun H locs hP hD hS => ?_)
    have hP : va_P D zz_cl [(q, .inr (2, [.ref qI, .ref qL, .int qW, .int qP, .int (qV ||| ((1 : Int32) <<< (((-1) - v1) &&& 31)))]))] H := hP
    have hD : va_D A [(q, .inr (2, [.ref qI, .ref qL, .int qW, .int qP, .int (qV ||| ((1 : Int32) <<< (((-1) - v1) &&& 31)))]))] := hD
    cases hf
    exact hret _ _ 18 _ hP hD hS d_Qu_use_18
abbrev rm_Rs_clear : Room := { frames := 0, cells := 0, slots := 0, locals := 0 }
set_option maxHeartbeats 4000000 in
set_option maxRecDepth 100000 in
theorem c_Rs_clear (l : Launch) (D : va_G) (cK : Nat → ClassId) (x xW : Nat) (xS : Int32)  (o_xS : Int32) (hf : f_Rs_clear xS = some o_xS) : WrV l y_Rs_clear w_Rs_clear rm_Rs_clear D zz_cl (mt_ty cK RK2) [.ref x] [(x, .inr (4, [.ref xW, .int xS]))] [(x, .inr (4, [.ref xW, .int o_xS]))] := by
  refine mk_WrV (cc := b_Rs_clear) (maxL := 1) (by decide +kernel) rfl (Nat.le_of_ble_eq_true rfl) ?_
  intro p e s m below meth c args Q A ls hx hb hml hown hts hA hK hP hD hret hl
  have hS : va_S A s.heap s.heap [] := va_S.rf
  have hl : lv_has ls 1 [(0, .ref x)] := hl
  unfold f_Rs_clear at hf
  refine lv_aload_n hx hb d_Rs_clear_0 rfl (lv_at hl 0 rfl) ?_
  refine lv_iconst (v := 0) hx hb d_Rs_clear_1 (by decide) ?_
  refine va_put (D := D) (ci := 4) (v := .int 0) (ty := .int) (C := RK4) (T := TK4) (N := 2) hx hb hts iwK4 tyK4 tyK4_ok nmK4 hown hK hP hD hS 0 rfl rfl 1 (by decide) (hts _ fl_Rs_21) (fun _ h9 => h9) rfl (by decide +kernel) rfl rfl (Nat.le_of_ble_eq_true rfl) d_Rs_clear_2 (fun H locs hP hD hS => ?_)
  have hP : va_P D zz_cl [(x, .inr (4, [.ref xW, .int 0]))] H := hP
  have hD : va_D A [(x, .inr (4, [.ref xW, .int 0]))] := hD
  cases hf
  exact hret _ _ 5 _ hP hD hS d_Rs_clear_5
abbrev rm_Rs_isFull : Room := { frames := 0, cells := 0, slots := 0, locals := 0 }
set_option maxHeartbeats 4000000 in
set_option maxRecDepth 100000 in
theorem c_Rs_isFull (l : Launch) (D : va_G) (cK : Nat → ClassId) (x xW : Nat) (xS : Int32) (xM : Nat) (xWf : Nat → Int32)  (r : Int32) (hf : f_Rs_isFull xS xM = some r) : RdI l y_Rs_isFull w_Rs_isFull rm_Rs_isFull D zz_cl (mt_ty cK RK2) [.ref x] [(x, .inr (4, [.ref xW, .int xS])), (xW, .inl (cK 0, xM, .inl xWf))] r := by
  refine mk_RdI (cc := b_Rs_isFull) (maxL := 1) (ty := .boolean) (by decide +kernel) rfl (Nat.le_of_ble_eq_true rfl) ?_
  intro p e s m below meth c args Q ls hx hb hml hown hts hK hP hret hl
  have hl : lv_has ls 1 [(0, .ref x)] := hl
  unfold f_Rs_isFull at hf
  refine lv_aload_n hx hb d_Rs_isFull_0 rfl (lv_at hl 0 rfl) ?_
  refine va_get (D := D) (ci := 4) (v := .int xS) (C := RK4) (T := TK4) (N := 2) hx hb hts iwK4 hown hK hP 0 rfl rfl 1 (by decide) (hts _ fl_Rs_21) (fun _ h9 => h9) rfl d_Rs_isFull_1 ?_
  refine lv_aload_n hx hb d_Rs_isFull_4 rfl (lv_at hl 0 rfl) ?_
  refine va_get (D := D) (ci := 4) (v := .ref xW) (C := RK4) (T := TK4) (N := 2) hx hb hts iwK4 hown hK hP 0 rfl rfl 0 (by decide) (hts _ fl_Rs_15) (fun _ h9 => h9) rfl d_Rs_isFull_5 ?_
  refine va_alen hx hb hK hP 1 0 rfl rfl rfl d_Rs_isFull_8 ?_
  refine lv_icmp_lt (tgt := 16) hx hb d_Rs_isFull_9 (by decide) (fun hc => ?_) (fun hc => ?_)
  · have hf := fn_t hc hf
    refine lv_iconst (v := 0) hx hb d_Rs_isFull_16 (by decide) ?_
    cases hf
    exact hret 17 _ rfl d_Rs_isFull_17
  · have hf := fn_f hc hf
    refine lv_iconst (v := 1) hx hb d_Rs_isFull_12 (by decide) ?_
    refine lv_goto (tgt := 17) hx hb d_Rs_isFull_13 (by decide) ?_
    cases hf
    exact hret 17 _ rfl d_Rs_isFull_17
abbrev rm_Rs_add : Room := { frames := 1, cells := 0, slots := 0, locals := 20 }
set_option maxHeartbeats 4000000 in
set_option maxRecDepth 100000 in
theorem c_Rs_add (l : Launch) (D : va_G) (cK : Nat → ClassId) (x xW : Nat) (xS : Int32) (xM : Nat) (xWf : Nat → Int32) (v1 : Int32) (v2 : Int32) (o_xS : Int32) (o_xWf : Nat → Int32) (hf : f_Rs_add xS xM xWf v1 v2 = some (o_xS, o_xWf)) : WrV l y_Rs_add w_Rs_add rm_Rs_add D zz_cl (mt_ty cK RK2) [.ref x, .int v1, .int v2] [(x, .inr (4, [.ref xW, .int xS])), (xW, .inl (cK 0, xM, .inl xWf))] [(x, .inr (4, [.ref xW, .int o_xS])), (xW, .inl (cK 0, xM, .inl o_xWf))] := by
  refine mk_WrV (cc := b_Rs_add) (maxL := 3) (by decide +kernel) rfl (Nat.le_of_ble_eq_true rfl) ?_
  intro p e s m below meth c args Q A ls hx hb hml hown hts hA hK hP hD hret hl
  have hS : va_S A s.heap s.heap [] := va_S.rf
  have hl : lv_has ls 3 [(0, .ref x), (1, .int v1), (2, .int v2)] := hl
  unfold f_Rs_add at hf
  refine lv_iload_n hx hb d_Rs_add_0 rfl (lv_at hl 2 rfl) ?_
  refine lv_if_eq (tgt := 36) hx hb d_Rs_add_1 (by decide) (fun hc => ?_) (fun hc => ?_)
  · have hf := fn_t hc hf
    cases hf
    exact hret _ _ 36 _ hP hD hS d_Rs_add_36
  · have hf := fn_f hc hf
    refine lv_aload_n hx hb d_Rs_add_4 rfl (lv_at hl 0 rfl) ?_
    obtain ⟨r_5, hcl, hf⟩ := fn_e1 hf
    refine cv_RdI (rest := []) ⟨hx, hb, hml, hown, hts⟩ (c_Rs_isFull l D cK x xW xS xM xWf r_5 hcl) (cwV 0 hts (zz_V ml_Rs_25 im_Rs_isFull se_Rs_isFull in_Rs co_Rs_isFull) rfl rfl rfl ⟨rfl, hd_Rs_isFull⟩ ⟨Nat.le_of_ble_eq_true rfl, Nat.le_of_ble_eq_true rfl⟩) hK hP [0, 1] rfl 0 rfl rfl rfl rfl hl.1 rfl (Nat.le_of_ble_eq_true rfl) d_Rs_add_5 ⟨Nat.zero_le _, Nat.zero_le _⟩ ?_
    refine lv_if_ne (tgt := 36) hx hb d_Rs_add_8 (by decide) (fun hc => ?_) (fun hc => ?_)
    · have hf := fn_f hc hf
      cases hf
      exact hret _ _ 36 _ hP hD hS d_Rs_add_36
    · have hf := fn_t hc hf
      refine lv_aload_n hx hb d_Rs_add_11 rfl (lv_at hl 0 rfl) ?_
      refine va_get (D := D) (ci := 4) (v := .ref xW) (C := RK4) (T := TK4) (N := 2) hx hb hts iwK4 hown hK hP 0 rfl rfl 0 (by decide) (hts _ fl_Rs_15) (fun _ h9 => h9) rfl d_Rs_add_12 ?_
      refine lv_aload_n hx hb d_Rs_add_15 rfl (lv_at hl 0 rfl) ?_
      refine va_get (D := D) (ci := 4) (v := .int xS) (C := RK4) (T := TK4) (N := 2) hx hb hts iwK4 hown hK hP 0 rfl rfl 1 (by decide) (hts _ fl_Rs_21) (fun _ h9 => h9) rfl d_Rs_add_16 ?_
      refine lv_iload_n hx hb d_Rs_add_19 rfl (lv_at hl 1 rfl) ?_
      refine lv_bipush (v := 16) hx hb d_Rs_add_20 (by decide) ?_
      refine lv_ishl hx hb d_Rs_add_22 ?_
      refine lv_iload_n hx hb d_Rs_add_23 rfl (lv_at hl 2 rfl) ?_
      refine lv_ior hx hb d_Rs_add_24 ?_
      have hg := fn_g hf
      have hf := fn_t hg hf
      refine va_iast hx hb hK hP hD hS 1 0 rfl rfl (fn_v hg) d_Rs_add_25 (fun H locs hP hD hS => ?_)
      have hP : va_P D zz_cl [(x, .inr (4, [.ref xW, .int xS])), (xW, .inl (cK 0, xM, .inl (upd xWf (Int32.toNatClampNeg xS) ((v1 <<< (16 &&& 31)) ||| v2))))] H := hP
      have hD : va_D A [(x, .inr (4, [.ref xW, .int xS])), (xW, .inl (cK 0, xM, .inl (upd xWf (Int32.toNatClampNeg xS) ((v1 <<< (16 &&& 31)) ||| v2))))] := hD
      refine lv_aload_n hx hb d_Rs_add_26 rfl (lv_at hl 0 rfl) ?_
      refine lv_dup hx hb d_Rs_add_27 rfl ?_
      refine va_get (D := D) (ci := 4) (v := .int xS) (C := RK4) (T := TK4) (N := 2) hx hb hts iwK4 hown hK hP 0 rfl rfl 1 (by decide) (hts _ fl_Rs_21) (fun _ h9 => h9) rfl d_Rs_add_28 ?_
      refine lv_iconst (v := 1) hx hb d_Rs_add_31 (by decide) ?_
      refine lv_iadd hx hb d_Rs_add_32 ?_
      refine va_put (D := D) (ci := 4) (v := .int (xS + 1)) (ty := .int) (C := RK4) (T := TK4) (N := 2) hx hb hts iwK4 tyK4 tyK4_ok nmK4 hown hK hP hD hS 0 rfl rfl 1 (by decide) (hts _ fl_Rs_21) (fun _ h9 => h9) rfl (by decide +kernel) rfl rfl (Nat.le_of_ble_eq_true rfl) d_Rs_add_33 (fun H locs hP hD hS => ?_)
      have hP : va_P D zz_cl [(x, .inr (4, [.ref xW, .int (xS + 1)])), (xW, .inl (cK 0, xM, .inl (upd xWf (Int32.toNatClampNeg xS) ((v1 <<< (16 &&& 31)) ||| v2))))] H := hP
      have hD : va_D A [(x, .inr (4, [.ref xW, .int (xS + 1)])), (xW, .inl (cK 0, xM, .inl (upd xWf (Int32.toNatClampNeg xS) ((v1 <<< (16 &&& 31)) ||| v2))))] := hD
      cases hf
      exact hret _ _ 36 _ hP hD hS d_Rs_add_36
abbrev rm_Rs_removeAll : Room := { frames := 0, cells := 0, slots := 0, locals := 0 }
set_option maxHeartbeats 4000000 in
set_option maxRecDepth 100000 in
theorem c_Rs_removeAll (l : Launch) (D : va_G) (cK : Nat → ClassId) (x xW z zW : Nat) (xS : Int32) (xM : Nat) (xWf : Nat → Int32) (zS : Int32) (zM : Nat) (zWf : Nat → Int32) (N : Nat)  (o_xS : Int32) (o_xWf : Nat → Int32) (hf : f_Rs_removeAll N xS xM xWf zS zM zWf = some (o_xS, o_xWf)) : WrV l y_Rs_removeAll w_Rs_removeAll rm_Rs_removeAll D zz_cl (mt_ty cK RK2) [.ref x, .ref z] [(x, .inr (4, [.ref xW, .int xS])), (xW, .inl (cK 0, xM, .inl xWf)), (z, .inr (4, [.ref zW, .int zS])), (zW, .inl (cK 0, zM, .inl zWf))] [(x, .inr (4, [.ref xW, .int o_xS])), (xW, .inl (cK 0, xM, .inl o_xWf)), (z, .inr (4, [.ref zW, .int zS])), (zW, .inl (cK 0, zM, .inl zWf))] := by
  refine mk_WrV (cc := b_Rs_removeAll) (maxL := 6) (by decide +kernel) rfl (Nat.le_of_ble_eq_true rfl) ?_
  intro p e s m below meth c args Q A ls hx hb hml hown hts hA hK hP hD hret hl
  have hS : va_S A s.heap s.heap [] := va_S.rf
  have hl : lv_has ls 6 [(0, .ref x), (1, .ref z)] := hl
  have J_7 : ∀  (n_7 : Nat) (xS : Int32) (xWf : Nat → Int32) (v2 : Int32) (v3 : Int32) (v4 : Int32) (H : Heap) (locs : List Loc) (ls : Array Slot), f_Rs_removeAll_7 N xM zS zM zWf n_7 xS xWf v2 v3 v4 = some (o_xS, o_xWf) → va_P D zz_cl [(x, .inr (4, [.ref xW, .int xS])), (xW, .inl (cK 0, xM, .inl xWf)), (z, .inr (4, [.ref zW, .int zS])), (zW, .inl (cK 0, zM, .inl zWf))] H → va_D A [(x, .inr (4, [.ref xW, .int xS])), (xW, .inl (cK 0, xM, .inl xWf)), (z, .inr (4, [.ref zW, .int zS])), (zW, .inl (cK 0, zM, .inl zWf))] → va_S A s.heap H locs → lv_has ls 6 [(0, .ref x), (1, .ref z), (2, .int v2), (3, .int v3), (4, .int v4)] → W p l e rm_Rs_removeAll s m args below meth c H locs 0 0 Q (F0 m 7 ls []) := by
    intro n_7
    induction n_7 with
    | zero =>
      intro xS xWf v2 v3 v4 H locs ls hf hP hD hS hl
      exact fn_0 hf
    | succ n_7 ih_7 =>
      have J_97 : ∀ (xS : Int32) (xWf : Nat → Int32) (v2 : Int32) (v3 : Int32) (v4 : Int32) (v5 : Int32) (H : Heap) (locs : List Loc) (ls : Array Slot), f_Rs_removeAll_97 N xM zS zM zWf (f_Rs_removeAll_7 N xM zS zM zWf n_7) xS xWf v2 v3 v4 v5 = some (o_xS, o_xWf) → va_P D zz_cl [(x, .inr (4, [.ref xW, .int xS])), (xW, .inl (cK 0, xM, .inl xWf)), (z, .inr (4, [.ref zW, .int zS])), (zW, .inl (cK 0, zM, .inl zWf))] H → va_D A [(x, .inr (4, [.ref xW, .int xS])), (xW, .inl (cK 0, xM, .inl xWf)), (z, .inr (4, [.ref zW, .int zS])), (zW, .inl (cK 0, zM, .inl zWf))] → va_S A s.heap H locs → lv_has ls 6 [(0, .ref x), (1, .ref z), (2, .int v2), (3, .int v3), (4, .int v4), (5, .int v5)] → W p l e rm_Rs_removeAll s m args below meth c H locs 0 0 Q (F0 m 97 ls []) := by
        intro xS xWf v2 v3 v4 v5 H locs ls hf hP hD hS hl
        unfold f_Rs_removeAll_97 at hf
        refine lv_iload hx hb d_Rs_removeAll_97 (lv_at hl 5 rfl) ?_
        refine lv_ldc (v := 65535) hx hb hown (hts _ kn_Rs_29) d_Rs_removeAll_99 ?_
        refine lv_iand hx hb d_Rs_removeAll_101 ?_
        refine lv_if_eq (tgt := 116) hx hb d_Rs_removeAll_102 (by decide) (fun hc => ?_) (fun hc => ?_)
        · have hf := fn_t hc hf
          refine lv_iinc (v := (v4 + 1)) (lv' := [(4, .int (v4 + 1)), (0, .ref x), (1, .ref z), (2, .int v2), (3, .int v3), (5, .int v5)]) hx hb d_Rs_removeAll_116 hl (k := 4) rfl rfl (by decide) rfl (fun ls hl => ?_)
          refine lv_goto (tgt := 7) hx hb d_Rs_removeAll_119 (by decide) ?_
          exact ih_7 _ _ _ _ _ _ _ _ hf hP hD hS (lv_sub hl [1, 2, 3, 4, 0] rfl)
        · have hf := fn_f hc hf
          refine lv_aload_n hx hb d_Rs_removeAll_105 rfl (lv_at hl 0 rfl) ?_
          refine va_get (D := D) (ci := 4) (v := .ref xW) (C := RK4) (T := TK4) (N := 2) hx hb hts iwK4 hown hK hP 0 rfl rfl 0 (by decide) (hts _ fl_Rs_15) (fun _ h9 => h9) rfl d_Rs_removeAll_106 ?_
          refine lv_iload_n hx hb d_Rs_removeAll_109 rfl (lv_at hl 2 rfl) ?_
          refine lv_iload hx hb d_Rs_removeAll_110 (lv_at hl 5 rfl) ?_
          have hg := fn_g hf
          have hf := fn_t hg hf
          refine va_iast hx hb hK hP hD hS 1 0 rfl rfl (fn_v hg) d_Rs_removeAll_112 (fun H locs hP hD hS => ?_)
          have hP : va_P D zz_cl [(x, .inr (4, [.ref xW, .int xS])), (xW, .inl (cK 0, xM, .inl (upd xWf (Int32.toNatClampNeg v2) v5))), (z, .inr (4, [.ref zW, .int zS])), (zW, .inl (cK 0, zM, .inl zWf))] H := hP
          have hD : va_D A [(x, .inr (4, [.ref xW, .int xS])), (xW, .inl (cK 0, xM, .inl (upd xWf (Int32.toNatClampNeg v2) v5))), (z, .inr (4, [.ref zW, .int zS])), (zW, .inl (cK 0, zM, .inl zWf))] := hD
          refine lv_iinc (v := (v2 + 1)) (lv' := [(2, .int (v2 + 1)), (0, .ref x), (1, .ref z), (3, .int v3), (4, .int v4), (5, .int v5)]) hx hb d_Rs_removeAll_113 hl (k := 2) rfl rfl (by decide) rfl (fun ls hl => ?_)
          refine lv_iinc (v := (v4 + 1)) (lv' := [(4, .int (v4 + 1)), (2, .int (v2 + 1)), (0, .ref x), (1, .ref z), (3, .int v3), (5, .int v5)]) hx hb d_Rs_removeAll_116 hl (k := 4) rfl rfl (by decide) rfl (fun ls hl => ?_)
          refine lv_goto (tgt := 7) hx hb d_Rs_removeAll_119 (by decide) ?_
          exact ih_7 _ _ _ _ _ _ _ _ hf hP hD hS (lv_sub hl [2, 3, 1, 4, 0] rfl)
      have J_56 : ∀ (xS : Int32) (xWf : Nat → Int32) (v2 : Int32) (v3 : Int32) (v4 : Int32) (v5 : Int32) (H : Heap) (locs : List Loc) (ls : Array Slot), f_Rs_removeAll_56 N xM zS zM zWf (f_Rs_removeAll_7 N xM zS zM zWf n_7) xS xWf v2 v3 v4 v5 = some (o_xS, o_xWf) → va_P D zz_cl [(x, .inr (4, [.ref xW, .int xS])), (xW, .inl (cK 0, xM, .inl xWf)), (z, .inr (4, [.ref zW, .int zS])), (zW, .inl (cK 0, zM, .inl zWf))] H → va_D A [(x, .inr (4, [.ref xW, .int xS])), (xW, .inl (cK 0, xM, .inl xWf)), (z, .inr (4, [.ref zW, .int zS])), (zW, .inl (cK 0, zM, .inl zWf))] → va_S A s.heap H locs → lv_has ls 6 [(0, .ref x), (1, .ref z), (2, .int v2), (3, .int v3), (4, .int v4), (5, .int v5)] → W p l e rm_Rs_removeAll s m args below meth c H locs 0 0 Q (F0 m 56 ls []) := by
        intro xS xWf v2 v3 v4 v5 H locs ls hf hP hD hS hl
        unfold f_Rs_removeAll_56 at hf
        refine lv_iload_n hx hb d_Rs_removeAll_56 rfl (lv_at hl 3 rfl) ?_
        refine lv_aload_n hx hb d_Rs_removeAll_57 rfl (lv_at hl 1 rfl) ?_
        refine va_get (D := D) (ci := 4) (v := .int zS) (C := RK4) (T := TK4) (N := 2) hx hb hts iwK4 hown hK hP 2 rfl rfl 1 (by decide) (hts _ fl_Rs_21) (fun _ h9 => h9) rfl d_Rs_removeAll_58 ?_
        refine lv_icmp_ge (tgt := 97) hx hb d_Rs_removeAll_61 (by decide) (fun hc => ?_) (fun hc => ?_)
        · have hf := fn_t hc hf
          exact J_97 _ _ _ _ _ _ _ _ _ hf hP hD hS (lv_sub hl [0, 1, 2, 3, 4, 5] rfl)
        · have hf := fn_f hc hf
          refine lv_aload_n hx hb d_Rs_removeAll_64 rfl (lv_at hl 1 rfl) ?_
          refine va_get (D := D) (ci := 4) (v := .ref zW) (C := RK4) (T := TK4) (N := 2) hx hb hts iwK4 hown hK hP 2 rfl rfl 0 (by decide) (hts _ fl_Rs_15) (fun _ h9 => h9) rfl d_Rs_removeAll_65 ?_
          refine lv_iload_n hx hb d_Rs_removeAll_68 rfl (lv_at hl 3 rfl) ?_
          have hg := fn_g hf
          have hf := fn_t hg hf
          refine va_iald hx hb hK hP 3 0 rfl rfl (fn_v hg) d_Rs_removeAll_69 ?_
          refine lv_bipush (v := 16) hx hb d_Rs_removeAll_70 (by decide) ?_
          refine lv_ishr hx hb d_Rs_removeAll_72 ?_
          refine lv_iload hx hb d_Rs_removeAll_73 (lv_at hl 5 rfl) ?_
          refine lv_bipush (v := 16) hx hb d_Rs_removeAll_75 (by decide) ?_
          refine lv_ishr hx hb d_Rs_removeAll_77 ?_
          refine lv_icmp_ne (tgt := 97) hx hb d_Rs_removeAll_78 (by decide) (fun hc => ?_) (fun hc => ?_)
          · have hf := fn_f hc hf
            exact J_97 _ _ _ _ _ _ _ _ _ hf hP hD hS (lv_sub hl [0, 1, 2, 3, 4, 5] rfl)
          · have hf := fn_t hc hf
            refine lv_iload hx hb d_Rs_removeAll_81 (lv_at hl 5 rfl) ?_
            refine lv_aload_n hx hb d_Rs_removeAll_83 rfl (lv_at hl 1 rfl) ?_
            refine va_get (D := D) (ci := 4) (v := .ref zW) (C := RK4) (T := TK4) (N := 2) hx hb hts iwK4 hown hK hP 2 rfl rfl 0 (by decide) (hts _ fl_Rs_15) (fun _ h9 => h9) rfl d_Rs_removeAll_84 ?_
            refine lv_iload_n hx hb d_Rs_removeAll_87 rfl (lv_at hl 3 rfl) ?_
            have hg := fn_g hf
            have hf := fn_t hg hf
            refine va_iald hx hb hK hP 3 0 rfl rfl (fn_v hg) d_Rs_removeAll_88 ?_
            refine lv_ldc (v := 65535) hx hb hown (hts _ kn_Rs_29) d_Rs_removeAll_89 ?_
            refine lv_iand hx hb d_Rs_removeAll_91 ?_
            refine lv_iconst (v := (-1)) hx hb d_Rs_removeAll_92 (by decide) ?_
            refine lv_ixor hx hb d_Rs_removeAll_93 ?_
            refine lv_iand hx hb d_Rs_removeAll_94 ?_
            refine lv_istore (lv' := [(5, .int (v5 &&& (((zWf (Int32.toNatClampNeg v3)) &&& 65535) ^^^ (-1)))), (0, .ref x), (1, .ref z), (2, .int v2), (3, .int v3), (4, .int v4)]) hx hb d_Rs_removeAll_95 hl (by decide) rfl (fun ls hl => ?_)
            exact J_97 _ _ _ _ _ _ _ _ _ hf hP hD hS (lv_sub hl [1, 2, 3, 4, 5, 0] rfl)
      have J_25 : ∀ (v2 : Int32) (v4 : Int32) (v5 : Int32) (n_25 : Nat) (xS : Int32) (xWf : Nat → Int32) (v3 : Int32) (H : Heap) (locs : List Loc) (ls : Array Slot), f_Rs_removeAll_25 N xM zS zM zWf (f_Rs_removeAll_7 N xM zS zM zWf n_7) v2 v4 v5 n_25 xS xWf v3 = some (o_xS, o_xWf) → va_P D zz_cl [(x, .inr (4, [.ref xW, .int xS])), (xW, .inl (cK 0, xM, .inl xWf)), (z, .inr (4, [.ref zW, .int zS])), (zW, .inl (cK 0, zM, .inl zWf))] H → va_D A [(x, .inr (4, [.ref xW, .int xS])), (xW, .inl (cK 0, xM, .inl xWf)), (z, .inr (4, [.ref zW, .int zS])), (zW, .inl (cK 0, zM, .inl zWf))] → va_S A s.heap H locs → lv_has ls 6 [(0, .ref x), (1, .ref z), (2, .int v2), (3, .int v3), (4, .int v4), (5, .int v5)] → W p l e rm_Rs_removeAll s m args below meth c H locs 0 0 Q (F0 m 25 ls []) := by
        intro v2 v4 v5 n_25
        induction n_25 with
        | zero =>
          intro xS xWf v3 H locs ls hf hP hD hS hl
          exact fn_0 hf
        | succ n_25 ih_25 =>
          intro xS xWf v3 H locs ls hf hP hD hS hl
          rw [f_Rs_removeAll_25.eq_2] at hf
          refine lv_iload_n hx hb d_Rs_removeAll_25 rfl (lv_at hl 3 rfl) ?_
          refine lv_aload_n hx hb d_Rs_removeAll_26 rfl (lv_at hl 1 rfl) ?_
          refine va_get (D := D) (ci := 4) (v := .int zS) (C := RK4) (T := TK4) (N := 2) hx hb hts iwK4 hown hK hP 2 rfl rfl 1 (by decide) (hts _ fl_Rs_21) (fun _ h9 => h9) rfl d_Rs_removeAll_27 ?_
          refine lv_icmp_ge (tgt := 56) hx hb d_Rs_removeAll_30 (by decide) (fun hc => ?_) (fun hc => ?_)
          · have hf := fn_t hc hf
            exact J_56 _ _ _ _ _ _ _ _ _ hf hP hD hS (lv_sub hl [0, 1, 2, 3, 4, 5] rfl)
          · have hf := fn_f hc hf
            refine lv_aload_n hx hb d_Rs_removeAll_33 rfl (lv_at hl 1 rfl) ?_
            refine va_get (D := D) (ci := 4) (v := .ref zW) (C := RK4) (T := TK4) (N := 2) hx hb hts iwK4 hown hK hP 2 rfl rfl 0 (by decide) (hts _ fl_Rs_15) (fun _ h9 => h9) rfl d_Rs_removeAll_34 ?_
            refine lv_iload_n hx hb d_Rs_removeAll_37 rfl (lv_at hl 3 rfl) ?_
            have hg := fn_g hf
            have hf := fn_t hg hf
            refine va_iald hx hb hK hP 3 0 rfl rfl (fn_v hg) d_Rs_removeAll_38 ?_
            refine lv_bipush (v := 16) hx hb d_Rs_removeAll_39 (by decide) ?_
            refine lv_ishr hx hb d_Rs_removeAll_41 ?_
            refine lv_iload hx hb d_Rs_removeAll_42 (lv_at hl 5 rfl) ?_
            refine lv_bipush (v := 16) hx hb d_Rs_removeAll_44 (by decide) ?_
            refine lv_ishr hx hb d_Rs_removeAll_46 ?_
            refine lv_icmp_ge (tgt := 56) hx hb d_Rs_removeAll_47 (by decide) (fun hc => ?_) (fun hc => ?_)
            · have hf := fn_t hc hf
              exact J_56 _ _ _ _ _ _ _ _ _ hf hP hD hS (lv_sub hl [0, 1, 2, 3, 4, 5] rfl)
            · have hf := fn_f hc hf
              refine lv_iinc (v := (v3 + 1)) (lv' := [(3, .int (v3 + 1)), (0, .ref x), (1, .ref z), (2, .int v2), (4, .int v4), (5, .int v5)]) hx hb d_Rs_removeAll_50 hl (k := 3) rfl rfl (by decide) rfl (fun ls hl => ?_)
              refine lv_goto (tgt := 25) hx hb d_Rs_removeAll_53 (by decide) ?_
              exact ih_25 _ _ _ _ _ _ hf hP hD hS (lv_sub hl [1, 2, 3, 0, 4, 5] rfl)
      intro xS xWf v2 v3 v4 H locs ls hf hP hD hS hl
      rw [f_Rs_removeAll_7.eq_2] at hf
      refine lv_iload hx hb d_Rs_removeAll_7 (lv_at hl 4 rfl) ?_
      refine lv_aload_n hx hb d_Rs_removeAll_9 rfl (lv_at hl 0 rfl) ?_
      refine va_get (D := D) (ci := 4) (v := .int xS) (C := RK4) (T := TK4) (N := 2) hx hb hts iwK4 hown hK hP 0 rfl rfl 1 (by decide) (hts _ fl_Rs_21) (fun _ h9 => h9) rfl d_Rs_removeAll_10 ?_
      refine lv_icmp_ge (tgt := 122) hx hb d_Rs_removeAll_13 (by decide) (fun hc => ?_) (fun hc => ?_)
      · have hf := fn_t hc hf
        refine lv_aload_n hx hb d_Rs_removeAll_122 rfl (lv_at hl 0 rfl) ?_
        refine lv_iload_n hx hb d_Rs_removeAll_123 rfl (lv_at hl 2 rfl) ?_
        refine va_put (D := D) (ci := 4) (v := .int v2) (ty := .int) (C := RK4) (T := TK4) (N := 2) hx hb hts iwK4 tyK4 tyK4_ok nmK4 hown hK hP hD hS 0 rfl rfl 1 (by decide) (hts _ fl_Rs_21) (fun _ h9 => h9) rfl (by decide +kernel) rfl rfl (Nat.le_of_ble_eq_true rfl) d_Rs_removeAll_124 (fun H locs hP hD hS => ?_)
        have hP : va_P D zz_cl [(x, .inr (4, [.ref xW, .int v2])), (xW, .inl (cK 0, xM, .inl xWf)), (z, .inr (4, [.ref zW, .int zS])), (zW, .inl (cK 0, zM, .inl zWf))] H := hP
        have hD : va_D A [(x, .inr (4, [.ref xW, .int v2])), (xW, .inl (cK 0, xM, .inl xWf)), (z, .inr (4, [.ref zW, .int zS])), (zW, .inl (cK 0, zM, .inl zWf))] := hD
        cases hf
        exact hret _ _ 127 _ hP hD hS d_Rs_removeAll_127
      · have hf := fn_f hc hf
        refine lv_aload_n hx hb d_Rs_removeAll_16 rfl (lv_at hl 0 rfl) ?_
        refine va_get (D := D) (ci := 4) (v := .ref xW) (C := RK4) (T := TK4) (N := 2) hx hb hts iwK4 hown hK hP 0 rfl rfl 0 (by decide) (hts _ fl_Rs_15) (fun _ h9 => h9) rfl d_Rs_removeAll_17 ?_
        refine lv_iload hx hb d_Rs_removeAll_20 (lv_at hl 4 rfl) ?_
        have hg := fn_g hf
        have hf := fn_t hg hf
        refine va_iald hx hb hK hP 1 0 rfl rfl (fn_v hg) d_Rs_removeAll_22 ?_
        refine lv_istore (lv' := [(5, .int (xWf (Int32.toNatClampNeg v4))), (0, .ref x), (1, .ref z), (2, .int v2), (3, .int v3), (4, .int v4)]) hx hb d_Rs_removeAll_23 hl (by decide) rfl (fun ls hl => ?_)
        exact J_25 _ _ _ _ _ _ _ _ _ _ hf hP hD hS (lv_sub hl [1, 2, 3, 4, 5, 0] rfl)
  unfold f_Rs_removeAll at hf
  refine lv_iconst (v := 0) hx hb d_Rs_removeAll_0 (by decide) ?_
  refine lv_istore_n (lv' := [(2, .int 0), (0, .ref x), (1, .ref z)]) hx hb d_Rs_removeAll_1 rfl hl (by decide) rfl (fun ls hl => ?_)
  refine lv_iconst (v := 0) hx hb d_Rs_removeAll_2 (by decide) ?_
  refine lv_istore_n (lv' := [(3, .int 0), (2, .int 0), (0, .ref x), (1, .ref z)]) hx hb d_Rs_removeAll_3 rfl hl (by decide) rfl (fun ls hl => ?_)
  refine lv_iconst (v := 0) hx hb d_Rs_removeAll_4 (by decide) ?_
  refine lv_istore (lv' := [(4, .int 0), (3, .int 0), (2, .int 0), (0, .ref x), (1, .ref z)]) hx hb d_Rs_removeAll_5 hl (by decide) rfl (fun ls hl => ?_)
  exact J_7 _ _ _ _ _ _ _ _ _ hf hP hD hS (lv_sub hl [3, 4, 2, 1, 0] rfl)
abbrev rm_Rs_isSameAs : Room := { frames := 0, cells := 0, slots := 0, locals := 0 }
set_option maxHeartbeats 4000000 in
set_option maxRecDepth 100000 in
theorem c_Rs_isSameAs (l : Launch) (D : va_G) (cK : Nat → ClassId) (x xW z zW : Nat) (xS : Int32) (xM : Nat) (xWf : Nat → Int32) (zS : Int32) (zM : Nat) (zWf : Nat → Int32) (N : Nat)  (r : Int32) (hf : f_Rs_isSameAs N xS xM xWf zS zM zWf = some r) : RdI l y_Rs_isSameAs w_Rs_isSameAs rm_Rs_isSameAs D zz_cl (mt_ty cK RK2) [.ref x, .ref z] [(x, .inr (4, [.ref xW, .int xS])), (xW, .inl (cK 0, xM, .inl xWf)), (z, .inr (4, [.ref zW, .int zS])), (zW, .inl (cK 0, zM, .inl zWf))] r := by
  refine mk_RdI (cc := b_Rs_isSameAs) (maxL := 3) (ty := .boolean) (by decide +kernel) rfl (Nat.le_of_ble_eq_true rfl) ?_
  intro p e s m below meth c args Q ls hx hb hml hown hts hK hP hret hl
  have hl : lv_has ls 3 [(0, .ref x), (1, .ref z)] := hl
  have J_15 : ∀  (n_15 : Nat)  (v2 : Int32) (ls : Array Slot), f_Rs_isSameAs_15 N xS xM xWf zS zM zWf n_15 v2 = some r → lv_has ls 3 [(0, .ref x), (1, .ref z), (2, .int v2)] → W p l e rm_Rs_isSameAs s m args below meth c s.heap [] 0 0 Q (F0 m 15 ls []) := by
    intro n_15
    induction n_15 with
    | zero =>
      intro v2 ls hf hl
      exact fn_0 hf
    | succ n_15 ih_15 =>
      intro v2 ls hf hl
      rw [f_Rs_isSameAs_15.eq_2] at hf
      refine lv_iload_n hx hb d_Rs_isSameAs_15 rfl (lv_at hl 2 rfl) ?_
      refine lv_aload_n hx hb d_Rs_isSameAs_16 rfl (lv_at hl 0 rfl) ?_
      refine va_get (D := D) (ci := 4) (v := .int xS) (C := RK4) (T := TK4) (N := 2) hx hb hts iwK4 hown hK hP 0 rfl rfl 1 (by decide) (hts _ fl_Rs_21) (fun _ h9 => h9) rfl d_Rs_isSameAs_17 ?_
      refine lv_icmp_ge (tgt := 46) hx hb d_Rs_isSameAs_20 (by decide) (fun hc => ?_) (fun hc => ?_)
      · have hf := fn_t hc hf
        refine lv_iconst (v := 1) hx hb d_Rs_isSameAs_46 (by decide) ?_
        cases hf
        exact hret 47 _ rfl d_Rs_isSameAs_47
      · have hf := fn_f hc hf
        refine lv_aload_n hx hb d_Rs_isSameAs_23 rfl (lv_at hl 0 rfl) ?_
        refine va_get (D := D) (ci := 4) (v := .ref xW) (C := RK4) (T := TK4) (N := 2) hx hb hts iwK4 hown hK hP 0 rfl rfl 0 (by decide) (hts _ fl_Rs_15) (fun _ h9 => h9) rfl d_Rs_isSameAs_24 ?_
        refine lv_iload_n hx hb d_Rs_isSameAs_27 rfl (lv_at hl 2 rfl) ?_
        have hg := fn_g hf
        have hf := fn_t hg hf
        refine va_iald hx hb hK hP 1 0 rfl rfl (fn_v hg) d_Rs_isSameAs_28 ?_
        refine lv_aload_n hx hb d_Rs_isSameAs_29 rfl (lv_at hl 1 rfl) ?_
        refine va_get (D := D) (ci := 4) (v := .ref zW) (C := RK4) (T := TK4) (N := 2) hx hb hts iwK4 hown hK hP 2 rfl rfl 0 (by decide) (hts _ fl_Rs_15) (fun _ h9 => h9) rfl d_Rs_isSameAs_30 ?_
        refine lv_iload_n hx hb d_Rs_isSameAs_33 rfl (lv_at hl 2 rfl) ?_
        have hg := fn_g hf
        have hf := fn_t hg hf
        refine va_iald hx hb hK hP 3 0 rfl rfl (fn_v hg) d_Rs_isSameAs_34 ?_
        refine lv_icmp_eq (tgt := 40) hx hb d_Rs_isSameAs_35 (by decide) (fun hc => ?_) (fun hc => ?_)
        · have hf := fn_t hc hf
          refine lv_iinc (v := (v2 + 1)) (lv' := [(2, .int (v2 + 1)), (0, .ref x), (1, .ref z)]) hx hb d_Rs_isSameAs_40 hl (k := 2) rfl rfl (by decide) rfl (fun ls hl => ?_)
          refine lv_goto (tgt := 15) hx hb d_Rs_isSameAs_43 (by decide) ?_
          exact ih_15 _ _ hf (lv_sub hl [1, 2, 0] rfl)
        · have hf := fn_f hc hf
          refine lv_iconst (v := 0) hx hb d_Rs_isSameAs_38 (by decide) ?_
          cases hf
          exact hret 39 _ rfl d_Rs_isSameAs_39
  unfold f_Rs_isSameAs at hf
  refine lv_aload_n hx hb d_Rs_isSameAs_0 rfl (lv_at hl 0 rfl) ?_
  refine va_get (D := D) (ci := 4) (v := .int xS) (C := RK4) (T := TK4) (N := 2) hx hb hts iwK4 hown hK hP 0 rfl rfl 1 (by decide) (hts _ fl_Rs_21) (fun _ h9 => h9) rfl d_Rs_isSameAs_1 ?_
  refine lv_aload_n hx hb d_Rs_isSameAs_4 rfl (lv_at hl 1 rfl) ?_
  refine va_get (D := D) (ci := 4) (v := .int zS) (C := RK4) (T := TK4) (N := 2) hx hb hts iwK4 hown hK hP 2 rfl rfl 1 (by decide) (hts _ fl_Rs_21) (fun _ h9 => h9) rfl d_Rs_isSameAs_5 ?_
  refine lv_icmp_eq (tgt := 13) hx hb d_Rs_isSameAs_8 (by decide) (fun hc => ?_) (fun hc => ?_)
  · have hf := fn_t hc hf
    refine lv_iconst (v := 0) hx hb d_Rs_isSameAs_13 (by decide) ?_
    refine lv_istore_n (lv' := [(2, .int 0), (0, .ref x), (1, .ref z)]) hx hb d_Rs_isSameAs_14 rfl hl (by decide) rfl (fun ls hl => ?_)
    exact J_15 _ _ _ hf (lv_sub hl [1, 2, 0] rfl)
  · have hf := fn_f hc hf
    refine lv_iconst (v := 0) hx hb d_Rs_isSameAs_11 (by decide) ?_
    cases hf
    exact hret 12 _ rfl d_Rs_isSameAs_12
abbrev rm_Rs_valuesOf : Room := { frames := 0, cells := 0, slots := 0, locals := 0 }
set_option maxHeartbeats 4000000 in
set_option maxRecDepth 100000 in
theorem c_Rs_valuesOf (l : Launch) (D : va_G) (cK : Nat → ClassId)  (v0 : Int32) (v1 : Int32) (r : Int32) (hf : f_Rs_valuesOf v0 v1 = some r) : RdI l y_Rs_valuesOf w_Rs_valuesOf rm_Rs_valuesOf D zz_cl (mt_ty cK RK2) [.int v0, .int v1] [] r := by
  refine mk_RdI (cc := b_Rs_valuesOf) (maxL := 3) (ty := .int) (by decide +kernel) rfl (Nat.le_of_ble_eq_true rfl) ?_
  intro p e s m below meth c args Q ls hx hb hml hown hts hK hP hret hl
  have hl : lv_has ls 3 [(0, .int v0), (1, .int v1)] := hl
  unfold f_Rs_valuesOf at hf
  refine lv_iload_n hx hb d_Rs_valuesOf_0 rfl (lv_at hl 1 rfl) ?_
  refine lv_iconst (v := 4) hx hb d_Rs_valuesOf_1 (by decide) ?_
  refine lv_icmp_lt (tgt := 10) hx hb d_Rs_valuesOf_2 (by decide) (fun hc => ?_) (fun hc => ?_)
  · have hf := fn_t hc hf
    refine lv_iload_n hx hb d_Rs_valuesOf_10 rfl (lv_at hl 0 rfl) ?_
    refine lv_bipush (v := 16) hx hb d_Rs_valuesOf_11 (by decide) ?_
    refine lv_ishr hx hb d_Rs_valuesOf_13 ?_
    refine lv_istore_n (lv' := [(2, .int (v0 >>> (16 &&& 31))), (0, .int v0), (1, .int v1)]) hx hb d_Rs_valuesOf_14 rfl hl (by decide) rfl (fun ls hl => ?_)
    refine lv_iconst (v := 1) hx hb d_Rs_valuesOf_15 (by decide) ?_
    refine lv_iload_n hx hb d_Rs_valuesOf_16 rfl (lv_at hl 0 rfl) ?_
    refine lv_iconst (v := 4) hx hb d_Rs_valuesOf_17 (by decide) ?_
    refine lv_iconst (v := 3) hx hb d_Rs_valuesOf_18 (by decide) ?_
    refine lv_iload_n hx hb d_Rs_valuesOf_19 rfl (lv_at hl 2 rfl) ?_
    refine lv_isub hx hb d_Rs_valuesOf_20 ?_
    refine lv_imul hx hb d_Rs_valuesOf_21 ?_
    refine lv_ishr hx hb d_Rs_valuesOf_22 ?_
    refine lv_bipush (v := 15) hx hb d_Rs_valuesOf_23 (by decide) ?_
    refine lv_iand hx hb d_Rs_valuesOf_25 ?_
    refine lv_ishl hx hb d_Rs_valuesOf_26 ?_
    cases hf
    exact hret 27 _ rfl d_Rs_valuesOf_27
  · have hf := fn_f hc hf
    refine lv_iload_n hx hb d_Rs_valuesOf_5 rfl (lv_at hl 0 rfl) ?_
    refine lv_ldc (v := 65535) hx hb hown (hts _ kn_Rs_29) d_Rs_valuesOf_6 ?_
    refine lv_iand hx hb d_Rs_valuesOf_8 ?_
    cases hf
    exact hret 9 _ rfl d_Rs_valuesOf_9
abbrev rm_Rs_bitAt : Room := { frames := 0, cells := 0, slots := 0, locals := 0 }
set_option maxHeartbeats 4000000 in
set_option maxRecDepth 100000 in
theorem c_Rs_bitAt (l : Launch) (D : va_G) (cK : Nat → ClassId)  (N : Nat) (v0 : Int32) (v1 : Int32) (r : Int32) (hf : f_Rs_bitAt N v0 v1 = some r) : RdI l y_Rs_bitAt w_Rs_bitAt rm_Rs_bitAt D zz_cl (mt_ty cK RK2) [.int v0, .int v1] [] r := by
  refine mk_RdI (cc := b_Rs_bitAt) (maxL := 4) (ty := .int) (by decide +kernel) rfl (Nat.le_of_ble_eq_true rfl) ?_
  intro p e s m below meth c args Q ls hx hb hml hown hts hK hP hret hl
  have hl : lv_has ls 4 [(0, .int v0), (1, .int v1)] := hl
  have J_4 : ∀ (v0 : Int32) (n_4 : Nat)  (v2 : Int32) (v3 : Int32) (ls : Array Slot), f_Rs_bitAt_4 N v0 n_4 v2 v3 = some r → lv_has ls 4 [(0, .int v0), (2, .int v2), (3, .int v3)] → W p l e rm_Rs_bitAt s m args below meth c s.heap [] 0 0 Q (F0 m 4 ls []) := by
    intro v0 n_4
    induction n_4 with
    | zero =>
      intro v2 v3 ls hf hl
      exact fn_0 hf
    | succ n_4 ih_4 =>
      intro v2 v3 ls hf hl
      rw [f_Rs_bitAt_4.eq_2] at hf
      refine lv_iload_n hx hb d_Rs_bitAt_4 rfl (lv_at hl 2 rfl) ?_
      refine lv_bipush (v := 16) hx hb d_Rs_bitAt_5 (by decide) ?_
      refine lv_icmp_ge (tgt := 33) hx hb d_Rs_bitAt_7 (by decide) (fun hc => ?_) (fun hc => ?_)
      · have hf := fn_t hc hf
        refine lv_iconst (v := 0) hx hb d_Rs_bitAt_33 (by decide) ?_
        cases hf
        exact hret 34 _ rfl d_Rs_bitAt_34
      · have hf := fn_f hc hf
        refine lv_iload_n hx hb d_Rs_bitAt_10 rfl (lv_at hl 0 rfl) ?_
        refine lv_iload_n hx hb d_Rs_bitAt_11 rfl (lv_at hl 2 rfl) ?_
        refine lv_ishr hx hb d_Rs_bitAt_12 ?_
        refine lv_iconst (v := 1) hx hb d_Rs_bitAt_13 (by decide) ?_
        refine lv_iand hx hb d_Rs_bitAt_14 ?_
        refine lv_if_eq (tgt := 27) hx hb d_Rs_bitAt_15 (by decide) (fun hc => ?_) (fun hc => ?_)
        · have hf := fn_t hc hf
          refine lv_iinc (v := (v3 + 1)) (lv' := [(3, .int (v3 + 1)), (0, .int v0), (2, .int v2)]) hx hb d_Rs_bitAt_27 hl (k := 2) rfl rfl (by decide) rfl (fun ls hl => ?_)
          refine lv_goto (tgt := 4) hx hb d_Rs_bitAt_30 (by decide) ?_
          exact ih_4 _ _ _ hf (lv_sub hl [1, 2, 0] rfl)
        · have hf := fn_f hc hf
          refine lv_iload_n hx hb d_Rs_bitAt_18 rfl (lv_at hl 1 rfl) ?_
          refine lv_if_ne (tgt := 24) hx hb d_Rs_bitAt_19 (by decide) (fun hc => ?_) (fun hc => ?_)
          · have hf := fn_f hc hf
            refine lv_iinc (v := (v2 + (-1))) (lv' := [(2, .int (v2 + (-1))), (0, .int v0), (3, .int v3)]) hx hb d_Rs_bitAt_24 hl (k := 1) rfl rfl (by decide) rfl (fun ls hl => ?_)
            refine lv_iinc (v := (v3 + 1)) (lv' := [(3, .int (v3 + 1)), (2, .int (v2 + (-1))), (0, .int v0)]) hx hb d_Rs_bitAt_27 hl (k := 2) rfl rfl (by decide) rfl (fun ls hl => ?_)
            refine lv_goto (tgt := 4) hx hb d_Rs_bitAt_30 (by decide) ?_
            exact ih_4 _ _ _ hf (lv_sub hl [2, 1, 0] rfl)
          · have hf := fn_t hc hf
            refine lv_iload_n hx hb d_Rs_bitAt_22 rfl (lv_at hl 2 rfl) ?_
            cases hf
            exact hret 23 _ rfl d_Rs_bitAt_23
  unfold f_Rs_bitAt at hf
  refine lv_iload_n hx hb d_Rs_bitAt_0 rfl (lv_at hl 1 rfl) ?_
  refine lv_istore_n (lv' := [(2, .int v1), (0, .int v0), (1, .int v1)]) hx hb d_Rs_bitAt_1 rfl hl (by decide) rfl (fun ls hl => ?_)
  refine lv_iconst (v := 0) hx hb d_Rs_bitAt_2 (by decide) ?_
  refine lv_istore_n (lv' := [(3, .int 0), (2, .int v1), (0, .int v0), (1, .int v1)]) hx hb d_Rs_bitAt_3 rfl hl (by decide) rfl (fun ls hl => ?_)
  exact J_4 _ _ _ _ _ hf (lv_sub hl [2, 1, 0] rfl)
abbrev rm_Se_put : Room := { frames := 0, cells := 0, slots := 0, locals := 0 }
set_option maxHeartbeats 4000000 in
set_option maxRecDepth 100000 in
theorem c_Se_put (l : Launch) (D : va_G) (cK : Nat → ClassId) (se seO : Nat) (seOf : Nat → Int32) (v1 : Int32) (v2 : Int32) (o_seOf : Nat → Int32) (hf : f_Se_put seOf v1 v2 = some o_seOf) : WrV l y_Se_put w_Se_put rm_Se_put D zz_cl (mt_ty cK RK2) [.ref se, .int v1, .int v2] [(se, .inr (1, [.ref seO])), (seO, .inl (cK 0, 128, .inl seOf))] [(se, .inr (1, [.ref seO])), (seO, .inl (cK 0, 128, .inl o_seOf))] := by
  refine mk_WrV (cc := b_Se_put) (maxL := 5) (by decide +kernel) rfl (Nat.le_of_ble_eq_true rfl) ?_
  intro p e s m below meth c args Q A ls hx hb hml hown hts hA hK hP hD hret hl
  have hS : va_S A s.heap s.heap [] := va_S.rf
  have hl : lv_has ls 5 [(0, .ref se), (1, .int v1), (2, .int v2)] := hl
  unfold f_Se_put at hf
  refine lv_iload_n hx hb d_Se_put_0 rfl (lv_at hl 1 rfl) ?_
  refine lv_bipush (v := 16) hx hb d_Se_put_1 (by decide) ?_
  refine lv_idiv hx hb d_Se_put_3 (by decide) ?_
  refine lv_istore_n (lv' := [(3, .int (v1 / 16)), (0, .ref se), (1, .int v1), (2, .int v2)]) hx hb d_Se_put_4 rfl hl (by decide) rfl (fun ls hl => ?_)
  refine lv_iload_n hx hb d_Se_put_5 rfl (lv_at hl 0 rfl) ?_
  refine lv_if_lt (tgt := 18) hx hb d_Se_put_6 (by decide) (fun hc => ?_) (fun hc => ?_)
  · have hf := fn_t hc hf
    cases hf
    exact hret _ _ 18 _ hP hD hS d_Se_put_18
  · have hf := fn_f hc hf
    refine lv_iload_n hx hb d_Se_put_9 rfl (lv_at hl 0 rfl) ?_
    refine lv_aload_n hx hb d_Se_put_10 rfl (lv_at hl 1 rfl) ?_
    refine va_get (D := D) (ci := 1) (v := .ref seO) (C := RK1) (T := TK1) (N := 1) hx hb hts iwK1 hown hK hP 0 rfl rfl 0 (by decide) (hts _ fl_Se_9) (fun _ h9 => h9) rfl d_Se_put_11 ?_
    refine va_alen hx hb hK hP 1 0 rfl rfl rfl d_Se_put_14 ?_
    refine lv_icmp_lt (tgt := 19) hx hb d_Se_put_15 (by decide) (fun hc => ?_) (fun hc => ?_)
    · have hf := fn_t hc hf
      refine lv_iconst (v := 1) hx hb d_Se_put_19 (by decide) ?_
      refine lv_iload_n hx hb d_Se_put_20 rfl (lv_at hl 2 rfl) ?_
      refine lv_bipush (v := 16) hx hb d_Se_put_21 (by decide) ?_
      refine lv_irem hx hb d_Se_put_23 (by decide) ?_
      refine lv_ishl hx hb d_Se_put_24 ?_
      refine lv_istore (lv' := [(4, .int ((1 : Int32) <<< ((v1 - v1 / 16 * 16) &&& 31))), (3, .int (v1 / 16)), (0, .ref se), (1, .int v1), (2, .int v2)]) hx hb d_Se_put_25 hl (by decide) rfl (fun ls hl => ?_)
      refine lv_aload_n hx hb d_Se_put_27 rfl (lv_at hl 2 rfl) ?_
      refine va_get (D := D) (ci := 1) (v := .ref seO) (C := RK1) (T := TK1) (N := 1) hx hb hts iwK1 hown hK hP 0 rfl rfl 0 (by decide) (hts _ fl_Se_9) (fun _ h9 => h9) rfl d_Se_put_28 ?_
      refine lv_iload_n hx hb d_Se_put_31 rfl (lv_at hl 1 rfl) ?_
      refine lv_iload_n hx hb d_Se_put_32 rfl (lv_at hl 4 rfl) ?_
      refine lv_if_eq (tgt := 48) hx hb d_Se_put_33 (by decide) (fun hc => ?_) (fun hc => ?_)
      · have hf := fn_t hc hf
        refine lv_aload_n hx hb d_Se_put_48 rfl (lv_at hl 2 rfl) ?_
        refine va_get (D := D) (ci := 1) (v := .ref seO) (C := RK1) (T := TK1) (N := 1) hx hb hts iwK1 hown hK hP 0 rfl rfl 0 (by decide) (hts _ fl_Se_9) (fun _ h9 => h9) rfl d_Se_put_49 ?_
        refine lv_iload_n hx hb d_Se_put_52 rfl (lv_at hl 1 rfl) ?_
        have hg := fn_g hf
        have hf := fn_t hg hf
        refine va_iald hx hb hK hP 1 0 rfl rfl (fn_v hg) d_Se_put_53 ?_
        refine lv_iload hx hb d_Se_put_54 (lv_at hl 0 rfl) ?_
        refine lv_iconst (v := (-1)) hx hb d_Se_put_56 (by decide) ?_
        refine lv_ixor hx hb d_Se_put_57 ?_
        refine lv_iand hx hb d_Se_put_58 ?_
        have hg := fn_g hf
        have hf := fn_t hg hf
        refine va_iast hx hb hK hP hD hS 1 0 rfl rfl (fn_v hg) d_Se_put_59 (fun H locs hP hD hS => ?_)
        have hP : va_P D zz_cl [(se, .inr (1, [.ref seO])), (seO, .inl (cK 0, 128, .inl (upd seOf (Int32.toNatClampNeg (v1 / 16)) ((seOf (Int32.toNatClampNeg (v1 / 16))) &&& (((1 : Int32) <<< ((v1 - v1 / 16 * 16) &&& 31)) ^^^ (-1))))))] H := hP
        have hD : va_D A [(se, .inr (1, [.ref seO])), (seO, .inl (cK 0, 128, .inl (upd seOf (Int32.toNatClampNeg (v1 / 16)) ((seOf (Int32.toNatClampNeg (v1 / 16))) &&& (((1 : Int32) <<< ((v1 - v1 / 16 * 16) &&& 31)) ^^^ (-1))))))] := hD
        cases hf
        exact hret _ _ 60 _ hP hD hS d_Se_put_60
      · have hf := fn_f hc hf
        refine lv_aload_n hx hb d_Se_put_36 rfl (lv_at hl 2 rfl) ?_
        refine va_get (D := D) (ci := 1) (v := .ref seO) (C := RK1) (T := TK1) (N := 1) hx hb hts iwK1 hown hK hP 0 rfl rfl 0 (by decide) (hts _ fl_Se_9) (fun _ h9 => h9) rfl d_Se_put_37 ?_
        refine lv_iload_n hx hb d_Se_put_40 rfl (lv_at hl 1 rfl) ?_
        have hg := fn_g hf
        have hf := fn_t hg hf
        refine va_iald hx hb hK hP 1 0 rfl rfl (fn_v hg) d_Se_put_41 ?_
        refine lv_iload hx hb d_Se_put_42 (lv_at hl 0 rfl) ?_
        refine lv_ior hx hb d_Se_put_44 ?_
        refine lv_goto (tgt := 59) hx hb d_Se_put_45 (by decide) ?_
        have hg := fn_g hf
        have hf := fn_t hg hf
        refine va_iast hx hb hK hP hD hS 1 0 rfl rfl (fn_v hg) d_Se_put_59 (fun H locs hP hD hS => ?_)
        have hP : va_P D zz_cl [(se, .inr (1, [.ref seO])), (seO, .inl (cK 0, 128, .inl (upd seOf (Int32.toNatClampNeg (v1 / 16)) ((seOf (Int32.toNatClampNeg (v1 / 16))) ||| ((1 : Int32) <<< ((v1 - v1 / 16 * 16) &&& 31))))))] H := hP
        have hD : va_D A [(se, .inr (1, [.ref seO])), (seO, .inl (cK 0, 128, .inl (upd seOf (Int32.toNatClampNeg (v1 / 16)) ((seOf (Int32.toNatClampNeg (v1 / 16))) ||| ((1 : Int32) <<< ((v1 - v1 / 16 * 16) &&& 31))))))] := hD
        cases hf
        exact hret _ _ 60 _ hP hD hS d_Se_put_60
    · have hf := fn_f hc hf
      cases hf
      exact hret _ _ 18 _ hP hD hS d_Se_put_18
abbrev rm_Se_objectsOf : Room := { frames := 0, cells := 0, slots := 0, locals := 0 }
set_option maxHeartbeats 4000000 in
set_option maxRecDepth 100000 in
theorem c_Se_objectsOf (l : Launch) (D : va_G) (cK : Nat → ClassId) (se seO : Nat) (seOf : Nat → Int32) (v1 : Int32) (v2 : Int32) (r : Int32) (hf : f_Se_objectsOf seOf v1 v2 = some r) : RdI l y_Se_objectsOf w_Se_objectsOf rm_Se_objectsOf D zz_cl (mt_ty cK RK2) [.ref se, .int v1, .int v2] [(se, .inr (1, [.ref seO])), (seO, .inl (cK 0, 128, .inl seOf))] r := by
  refine mk_RdI (cc := b_Se_objectsOf) (maxL := 3) (ty := .int) (by decide +kernel) rfl (Nat.le_of_ble_eq_true rfl) ?_
  intro p e s m below meth c args Q ls hx hb hml hown hts hK hP hret hl
  have hl : lv_has ls 3 [(0, .ref se), (1, .int v1), (2, .int v2)] := hl
  unfold f_Se_objectsOf at hf
  refine lv_iload_n hx hb d_Se_objectsOf_0 rfl (lv_at hl 1 rfl) ?_
  refine lv_if_lt (tgt := 20) hx hb d_Se_objectsOf_1 (by decide) (fun hc => ?_) (fun hc => ?_)
  · have hf := fn_t hc hf
    refine lv_iconst (v := 0) hx hb d_Se_objectsOf_20 (by decide) ?_
    cases hf
    exact hret 21 _ rfl d_Se_objectsOf_21
  · have hf := fn_f hc hf
    refine lv_iload_n hx hb d_Se_objectsOf_4 rfl (lv_at hl 1 rfl) ?_
    refine lv_bipush (v := 16) hx hb d_Se_objectsOf_5 (by decide) ?_
    refine lv_icmp_ge (tgt := 20) hx hb d_Se_objectsOf_7 (by decide) (fun hc => ?_) (fun hc => ?_)
    · have hf := fn_t hc hf
      refine lv_iconst (v := 0) hx hb d_Se_objectsOf_20 (by decide) ?_
      cases hf
      exact hret 21 _ rfl d_Se_objectsOf_21
    · have hf := fn_f hc hf
      refine lv_iload_n hx hb d_Se_objectsOf_10 rfl (lv_at hl 2 rfl) ?_
      refine lv_if_lt (tgt := 20) hx hb d_Se_objectsOf_11 (by decide) (fun hc => ?_) (fun hc => ?_)
      · have hf := fn_t hc hf
        refine lv_iconst (v := 0) hx hb d_Se_objectsOf_20 (by decide) ?_
        cases hf
        exact hret 21 _ rfl d_Se_objectsOf_21
      · have hf := fn_f hc hf
        refine lv_iload_n hx hb d_Se_objectsOf_14 rfl (lv_at hl 2 rfl) ?_
        refine lv_bipush (v := 8) hx hb d_Se_objectsOf_15 (by decide) ?_
        refine lv_icmp_lt (tgt := 22) hx hb d_Se_objectsOf_17 (by decide) (fun hc => ?_) (fun hc => ?_)
        · have hf := fn_t hc hf
          refine lv_aload_n hx hb d_Se_objectsOf_22 rfl (lv_at hl 0 rfl) ?_
          refine va_get (D := D) (ci := 1) (v := .ref seO) (C := RK1) (T := TK1) (N := 1) hx hb hts iwK1 hown hK hP 0 rfl rfl 0 (by decide) (hts _ fl_Se_9) (fun _ h9 => h9) rfl d_Se_objectsOf_23 ?_
          refine lv_iload_n hx hb d_Se_objectsOf_26 rfl (lv_at hl 1 rfl) ?_
          refine lv_bipush (v := 8) hx hb d_Se_objectsOf_27 (by decide) ?_
          refine lv_imul hx hb d_Se_objectsOf_29 ?_
          refine lv_iload_n hx hb d_Se_objectsOf_30 rfl (lv_at hl 2 rfl) ?_
          refine lv_iadd hx hb d_Se_objectsOf_31 ?_
          have hg := fn_g hf
          have hf := fn_t hg hf
          refine va_iald hx hb hK hP 1 0 rfl rfl (fn_v hg) d_Se_objectsOf_32 ?_
          cases hf
          exact hret 33 _ rfl d_Se_objectsOf_33
        · have hf := fn_f hc hf
          refine lv_iconst (v := 0) hx hb d_Se_objectsOf_20 (by decide) ?_
          cases hf
          exact hret 21 _ rfl d_Se_objectsOf_21
abbrev rm_Qu_add : Room := { frames := 1, cells := 0, slots := 0, locals := 21 }
set_option maxHeartbeats 4000000 in
set_option maxRecDepth 100000 in
theorem c_Qu_add (l : Launch) (D : va_G) (cK : Nat → ClassId) (q qI qL : Nat) (qW : Int32) (qP : Int32) (qV : Int32) (qIf : Nat → Int32) (qLf : Nat → Int32) (v1 : Int32) (v2 : Int32) (v3 : Int32) (r : Int32) (o_qP : Int32) (o_qV : Int32) (o_qIf : Nat → Int32) (o_qLf : Nat → Int32) (hf : f_Qu_add qP qV qIf qLf v1 v2 v3 = some (r, o_qP, o_qV, o_qIf, o_qLf)) : WrI l y_Qu_add w_Qu_add rm_Qu_add D zz_cl (mt_ty cK RK2) [.ref q, .int v1, .int v2, .int v3] [(q, .inr (2, [.ref qI, .ref qL, .int qW, .int qP, .int qV])), (qI, .inl (cK 0, 9, .inl qIf)), (qL, .inl (cK 0, 3, .inl qLf))] [(q, .inr (2, [.ref qI, .ref qL, .int qW, .int o_qP, .int o_qV])), (qI, .inl (cK 0, 9, .inl o_qIf)), (qL, .inl (cK 0, 3, .inl o_qLf))] r := by
  refine mk_WrI (cc := b_Qu_add) (maxL := 4) (ty := .boolean) (by decide +kernel) rfl (Nat.le_of_ble_eq_true rfl) ?_
  intro p e s m below meth c args Q A ls hx hb hml hown hts hA hK hP hD hret hl
  have hS : va_S A s.heap s.heap [] := va_S.rf
  have hl : lv_has ls 4 [(0, .ref q), (1, .int v1), (2, .int v2), (3, .int v3)] := hl
  unfold f_Qu_add at hf
  refine lv_aload_n hx hb d_Qu_add_0 rfl (lv_at hl 0 rfl) ?_
  refine va_get (D := D) (ci := 2) (v := .int qP) (C := RK2) (T := TK2) (N := 5) hx hb hts iwK2 hown hK hP 0 rfl rfl 3 (by decide) (hts _ fl_Qu_22) (fun _ h9 => h9) rfl d_Qu_add_1 ?_
  refine lv_iconst (v := 3) hx hb d_Qu_add_4 (by decide) ?_
  refine lv_icmp_lt (tgt := 10) hx hb d_Qu_add_5 (by decide) (fun hc => ?_) (fun hc => ?_)
  · have hf := fn_t hc hf
    refine lv_aload_n hx hb d_Qu_add_10 rfl (lv_at hl 0 rfl) ?_
    refine va_get (D := D) (ci := 2) (v := .ref qI) (C := RK2) (T := TK2) (N := 5) hx hb hts iwK2 hown hK hP 0 rfl rfl 0 (by decide) (hts _ fl_Qu_9) (fun _ h9 => h9) rfl d_Qu_add_11 ?_
    refine lv_aload_n hx hb d_Qu_add_14 rfl (lv_at hl 0 rfl) ?_
    refine va_get (D := D) (ci := 2) (v := .int qP) (C := RK2) (T := TK2) (N := 5) hx hb hts iwK2 hown hK hP 0 rfl rfl 3 (by decide) (hts _ fl_Qu_22) (fun _ h9 => h9) rfl d_Qu_add_15 ?_
    refine lv_iconst (v := 3) hx hb d_Qu_add_18 (by decide) ?_
    refine lv_imul hx hb d_Qu_add_19 ?_
    refine lv_iload_n hx hb d_Qu_add_20 rfl (lv_at hl 1 rfl) ?_
    have hg := fn_g hf
    have hf := fn_t hg hf
    refine va_iast hx hb hK hP hD hS 1 0 rfl rfl (fn_v hg) d_Qu_add_21 (fun H locs hP hD hS => ?_)
    have hP : va_P D zz_cl [(q, .inr (2, [.ref qI, .ref qL, .int qW, .int qP, .int qV])), (qI, .inl (cK 0, 9, .inl (upd qIf (Int32.toNatClampNeg (qP * 3)) v1))), (qL, .inl (cK 0, 3, .inl qLf))] H := hP
    have hD : va_D A [(q, .inr (2, [.ref qI, .ref qL, .int qW, .int qP, .int qV])), (qI, .inl (cK 0, 9, .inl (upd qIf (Int32.toNatClampNeg (qP * 3)) v1))), (qL, .inl (cK 0, 3, .inl qLf))] := hD
    refine lv_aload_n hx hb d_Qu_add_22 rfl (lv_at hl 0 rfl) ?_
    refine va_get (D := D) (ci := 2) (v := .ref qI) (C := RK2) (T := TK2) (N := 5) hx hb hts iwK2 hown hK hP 0 rfl rfl 0 (by decide) (hts _ fl_Qu_9) (fun _ h9 => h9) rfl d_Qu_add_23 ?_
    refine lv_aload_n hx hb d_Qu_add_26 rfl (lv_at hl 0 rfl) ?_
    refine va_get (D := D) (ci := 2) (v := .int qP) (C := RK2) (T := TK2) (N := 5) hx hb hts iwK2 hown hK hP 0 rfl rfl 3 (by decide) (hts _ fl_Qu_22) (fun _ h9 => h9) rfl d_Qu_add_27 ?_
    refine lv_iconst (v := 3) hx hb d_Qu_add_30 (by decide) ?_
    refine lv_imul hx hb d_Qu_add_31 ?_
    refine lv_iconst (v := 1) hx hb d_Qu_add_32 (by decide) ?_
    refine lv_iadd hx hb d_Qu_add_33 ?_
    refine lv_iload_n hx hb d_Qu_add_34 rfl (lv_at hl 2 rfl) ?_
    have hg := fn_g hf
    have hf := fn_t hg hf
    refine va_iast hx hb hK hP hD hS 1 0 rfl rfl (fn_v hg) d_Qu_add_35 (fun H locs hP hD hS => ?_)
    have hP : va_P D zz_cl [(q, .inr (2, [.ref qI, .ref qL, .int qW, .int qP, .int qV])), (qI, .inl (cK 0, 9, .inl (upd (upd qIf (Int32.toNatClampNeg (qP * 3)) v1) (Int32.toNatClampNeg ((qP * 3) + 1)) v2))), (qL, .inl (cK 0, 3, .inl qLf))] H := hP
    have hD : va_D A [(q, .inr (2, [.ref qI, .ref qL, .int qW, .int qP, .int qV])), (qI, .inl (cK 0, 9, .inl (upd (upd qIf (Int32.toNatClampNeg (qP * 3)) v1) (Int32.toNatClampNeg ((qP * 3) + 1)) v2))), (qL, .inl (cK 0, 3, .inl qLf))] := hD
    refine lv_aload_n hx hb d_Qu_add_36 rfl (lv_at hl 0 rfl) ?_
    refine va_get (D := D) (ci := 2) (v := .ref qI) (C := RK2) (T := TK2) (N := 5) hx hb hts iwK2 hown hK hP 0 rfl rfl 0 (by decide) (hts _ fl_Qu_9) (fun _ h9 => h9) rfl d_Qu_add_37 ?_
    refine lv_aload_n hx hb d_Qu_add_40 rfl (lv_at hl 0 rfl) ?_
    refine va_get (D := D) (ci := 2) (v := .int qP) (C := RK2) (T := TK2) (N := 5) hx hb hts iwK2 hown hK hP 0 rfl rfl 3 (by decide) (hts _ fl_Qu_22) (fun _ h9 => h9) rfl d_Qu_add_41 ?_
    refine lv_iconst (v := 3) hx hb d_Qu_add_44 (by decide) ?_
    refine lv_imul hx hb d_Qu_add_45 ?_
    refine lv_iconst (v := 2) hx hb d_Qu_add_46 (by decide) ?_
    refine lv_iadd hx hb d_Qu_add_47 ?_
    refine lv_iload_n hx hb d_Qu_add_48 rfl (lv_at hl 3 rfl) ?_
    have hg := fn_g hf
    have hf := fn_t hg hf
    refine va_iast hx hb hK hP hD hS 1 0 rfl rfl (fn_v hg) d_Qu_add_49 (fun H locs hP hD hS => ?_)
    have hP : va_P D zz_cl [(q, .inr (2, [.ref qI, .ref qL, .int qW, .int qP, .int qV])), (qI, .inl (cK 0, 9, .inl (upd (upd (upd qIf (Int32.toNatClampNeg (qP * 3)) v1) (Int32.toNatClampNeg ((qP * 3) + 1)) v2) (Int32.toNatClampNeg ((qP * 3) + 2)) v3))), (qL, .inl (cK 0, 3, .inl qLf))] H := hP
    have hD : va_D A [(q, .inr (2, [.ref qI, .ref qL, .int qW, .int qP, .int qV])), (qI, .inl (cK 0, 9, .inl (upd (upd (upd qIf (Int32.toNatClampNeg (qP * 3)) v1) (Int32.toNatClampNeg ((qP * 3) + 1)) v2) (Int32.toNatClampNeg ((qP * 3) + 2)) v3))), (qL, .inl (cK 0, 3, .inl qLf))] := hD
    refine lv_aload_n hx hb d_Qu_add_50 rfl (lv_at hl 0 rfl) ?_
    refine va_get (D := D) (ci := 2) (v := .ref qL) (C := RK2) (T := TK2) (N := 5) hx hb hts iwK2 hown hK hP 0 rfl rfl 1 (by decide) (hts _ fl_Qu_15) (fun _ h9 => h9) rfl d_Qu_add_51 ?_
    refine lv_aload_n hx hb d_Qu_add_54 rfl (lv_at hl 0 rfl) ?_
    refine va_get (D := D) (ci := 2) (v := .int qP) (C := RK2) (T := TK2) (N := 5) hx hb hts iwK2 hown hK hP 0 rfl rfl 3 (by decide) (hts _ fl_Qu_22) (fun _ h9 => h9) rfl d_Qu_add_55 ?_
    refine lv_iconst (v := (-1)) hx hb d_Qu_add_58 (by decide) ?_
    refine lv_iload_n hx hb d_Qu_add_59 rfl (lv_at hl 1 rfl) ?_
    refine lv_iload_n hx hb d_Qu_add_60 rfl (lv_at hl 2 rfl) ?_
    refine lv_iload_n hx hb d_Qu_add_61 rfl (lv_at hl 3 rfl) ?_
    obtain ⟨r_62, hcl, hf⟩ := fn_e1 hf
    refine cs_RdI (rest := [.int v1, .int (-1), .int qP, .ref qL]) ⟨hx, hb, hml, hown, hts⟩ (c_Jm_min l D cK v2 v3 r_62 hcl) (va_cwS 2 hts (zz_S ml_Qu_25 st_Jm_min in_Jm co_Jm_min) rfl rfl rfl hd_Jm_min ⟨Nat.le_of_ble_eq_true rfl, Nat.le_of_ble_eq_true rfl⟩) hK hP [] rfl rfl hl.1 rfl (Nat.le_of_ble_eq_true rfl) d_Qu_add_62 ⟨Nat.zero_le _, Nat.zero_le _⟩ ?_
    obtain ⟨r_65, hcl, hf⟩ := fn_e1 hf
    refine cs_RdI (rest := [.int (-1), .int qP, .ref qL]) ⟨hx, hb, hml, hown, hts⟩ (c_Jm_min l D cK v1 r_62 r_65 hcl) (va_cwS 2 hts (zz_S ml_Qu_25 st_Jm_min in_Jm co_Jm_min) rfl rfl rfl hd_Jm_min ⟨Nat.le_of_ble_eq_true rfl, Nat.le_of_ble_eq_true rfl⟩) hK hP [] rfl rfl hl.1 rfl (Nat.le_of_ble_eq_true rfl) d_Qu_add_65 ⟨Nat.zero_le _, Nat.zero_le _⟩ ?_
    refine lv_isub hx hb d_Qu_add_68 ?_
    have hg := fn_g hf
    have hf := fn_t hg hf
    refine va_iast hx hb hK hP hD hS 2 0 rfl rfl (fn_v hg) d_Qu_add_69 (fun H locs hP hD hS => ?_)
    have hP : va_P D zz_cl [(q, .inr (2, [.ref qI, .ref qL, .int qW, .int qP, .int qV])), (qI, .inl (cK 0, 9, .inl (upd (upd (upd qIf (Int32.toNatClampNeg (qP * 3)) v1) (Int32.toNatClampNeg ((qP * 3) + 1)) v2) (Int32.toNatClampNeg ((qP * 3) + 2)) v3))), (qL, .inl (cK 0, 3, .inl (upd qLf (Int32.toNatClampNeg qP) ((-1) - r_65))))] H := hP
    have hD : va_D A [(q, .inr (2, [.ref qI, .ref qL, .int qW, .int qP, .int qV])), (qI, .inl (cK 0, 9, .inl (upd (upd (upd qIf (Int32.toNatClampNeg (qP * 3)) v1) (Int32.toNatClampNeg ((qP * 3) + 1)) v2) (Int32.toNatClampNeg ((qP * 3) + 2)) v3))), (qL, .inl (cK 0, 3, .inl (upd qLf (Int32.toNatClampNeg qP) ((-1) - r_65))))] := hD
    refine lv_aload_n hx hb d_Qu_add_70 rfl (lv_at hl 0 rfl) ?_
    refine lv_dup hx hb d_Qu_add_71 rfl ?_
    refine va_get (D := D) (ci := 2) (v := .int qP) (C := RK2) (T := TK2) (N := 5) hx hb hts iwK2 hown hK hP 0 rfl rfl 3 (by decide) (hts _ fl_Qu_22) (fun _ h9 => h9) rfl d_Qu_add_72 ?_
    refine lv_iconst (v := 1) hx hb d_Qu_add_75 (by decide) ?_
    refine lv_iadd hx hb d_Qu_add_76 ?_
    refine va_put (D := D) (ci := 2) (v := .int (qP + 1)) (ty := .int) (C := RK2) (T := TK2) (N := 5) hx hb hts iwK2 tyK2 tyK2_ok nmK2 hown hK hP hD hS 0 rfl rfl 3 (by decide) (hts _ fl_Qu_22) (fun _ h9 => h9) rfl (by decide +kernel) rfl rfl (Nat.le_of_ble_eq_true rfl) d_Qu_add_77 (fun H locs hP hD hS => ?_)
    have hP : va_P D zz_cl [(q, .inr (2, [.ref qI, .ref qL, .int qW, .int (qP + 1), .int qV])), (qI, .inl (cK 0, 9, .inl (upd (upd (upd qIf (Int32.toNatClampNeg (qP * 3)) v1) (Int32.toNatClampNeg ((qP * 3) + 1)) v2) (Int32.toNatClampNeg ((qP * 3) + 2)) v3))), (qL, .inl (cK 0, 3, .inl (upd qLf (Int32.toNatClampNeg qP) ((-1) - r_65))))] H := hP
    have hD : va_D A [(q, .inr (2, [.ref qI, .ref qL, .int qW, .int (qP + 1), .int qV])), (qI, .inl (cK 0, 9, .inl (upd (upd (upd qIf (Int32.toNatClampNeg (qP * 3)) v1) (Int32.toNatClampNeg ((qP * 3) + 1)) v2) (Int32.toNatClampNeg ((qP * 3) + 2)) v3))), (qL, .inl (cK 0, 3, .inl (upd qLf (Int32.toNatClampNeg qP) ((-1) - r_65))))] := hD
    refine lv_aload_n hx hb d_Qu_add_80 rfl (lv_at hl 0 rfl) ?_
    refine lv_iload_n hx hb d_Qu_add_81 rfl (lv_at hl 1 rfl) ?_
    obtain ⟨qV_82, hcl, hf⟩ := fn_e1 hf
    refine cv_WrV (rest := []) (wr := [(qI, .inl (cK 0, 9, .inl (upd (upd (upd qIf (Int32.toNatClampNeg (qP * 3)) v1) (Int32.toNatClampNeg ((qP * 3) + 1)) v2) (Int32.toNatClampNeg ((qP * 3) + 2)) v3))), (qL, .inl (cK 0, 3, .inl (upd qLf (Int32.toNatClampNeg qP) ((-1) - r_65))))]) (w' := [(q, .inr (2, [.ref qI, .ref qL, .int qW, .int (qP + 1), .int qV_82])), (qI, .inl (cK 0, 9, .inl (upd (upd (upd qIf (Int32.toNatClampNeg (qP * 3)) v1) (Int32.toNatClampNeg ((qP * 3) + 1)) v2) (Int32.toNatClampNeg ((qP * 3) + 2)) v3))), (qL, .inl (cK 0, 3, .inl (upd qLf (Int32.toNatClampNeg qP) ((-1) - r_65))))]) ⟨hx, hb, hml, hown, hts⟩ (c_Qu_use l D cK q qI qL qW (qP + 1) qV v1 qV_82 hcl) (cwV 1 hts (zz_V ml_Qu_31 im_Qu_use se_Qu_use in_Qu co_Qu_use) rfl rfl rfl ⟨rfl, hd_Qu_use⟩ ⟨Nat.le_of_ble_eq_true rfl, Nat.le_of_ble_eq_true rfl⟩) hK hP hD hS hA [0] [1, 2] [2, 0, 1] rfl (by decide) rfl (by decide) (by decide) rfl (by decide) 0 rfl rfl rfl rfl hl.1 rfl (Nat.le_of_ble_eq_true rfl) d_Qu_add_82 ⟨Nat.zero_le _, Nat.zero_le _⟩ (fun H locs hP hD hS => ?_)
    refine lv_aload_n hx hb d_Qu_add_85 rfl (lv_at hl 0 rfl) ?_
    refine lv_iload_n hx hb d_Qu_add_86 rfl (lv_at hl 2 rfl) ?_
    obtain ⟨qV_87, hcl, hf⟩ := fn_e1 hf
    refine cv_WrV (rest := []) (wr := [(qI, .inl (cK 0, 9, .inl (upd (upd (upd qIf (Int32.toNatClampNeg (qP * 3)) v1) (Int32.toNatClampNeg ((qP * 3) + 1)) v2) (Int32.toNatClampNeg ((qP * 3) + 2)) v3))), (qL, .inl (cK 0, 3, .inl (upd qLf (Int32.toNatClampNeg qP) ((-1) - r_65))))]) (w' := [(q, .inr (2, [.ref qI, .ref qL, .int qW, .int (qP + 1), .int qV_87])), (qI, .inl (cK 0, 9, .inl (upd (upd (upd qIf (Int32.toNatClampNeg (qP * 3)) v1) (Int32.toNatClampNeg ((qP * 3) + 1)) v2) (Int32.toNatClampNeg ((qP * 3) + 2)) v3))), (qL, .inl (cK 0, 3, .inl (upd qLf (Int32.toNatClampNeg qP) ((-1) - r_65))))]) ⟨hx, hb, hml, hown, hts⟩ (c_Qu_use l D cK q qI qL qW (qP + 1) qV_82 v2 qV_87 hcl) (cwV 1 hts (zz_V ml_Qu_31 im_Qu_use se_Qu_use in_Qu co_Qu_use) rfl rfl rfl ⟨rfl, hd_Qu_use⟩ ⟨Nat.le_of_ble_eq_true rfl, Nat.le_of_ble_eq_true rfl⟩) hK hP hD hS hA [0] [1, 2] [2, 0, 1] rfl (by decide) rfl (by decide) (by decide) rfl (by decide) 0 rfl rfl rfl rfl hl.1 rfl (Nat.le_of_ble_eq_true rfl) d_Qu_add_87 ⟨Nat.zero_le _, Nat.zero_le _⟩ (fun H locs hP hD hS => ?_)
    refine lv_aload_n hx hb d_Qu_add_90 rfl (lv_at hl 0 rfl) ?_
    refine lv_iload_n hx hb d_Qu_add_91 rfl (lv_at hl 3 rfl) ?_
    obtain ⟨qV_92, hcl, hf⟩ := fn_e1 hf
    refine cv_WrV (rest := []) (wr := [(qI, .inl (cK 0, 9, .inl (upd (upd (upd qIf (Int32.toNatClampNeg (qP * 3)) v1) (Int32.toNatClampNeg ((qP * 3) + 1)) v2) (Int32.toNatClampNeg ((qP * 3) + 2)) v3))), (qL, .inl (cK 0, 3, .inl (upd qLf (Int32.toNatClampNeg qP) ((-1) - r_65))))]) (w' := [(q, .inr (2, [.ref qI, .ref qL, .int qW, .int (qP + 1), .int qV_92])), (qI, .inl (cK 0, 9, .inl (upd (upd (upd qIf (Int32.toNatClampNeg (qP * 3)) v1) (Int32.toNatClampNeg ((qP * 3) + 1)) v2) (Int32.toNatClampNeg ((qP * 3) + 2)) v3))), (qL, .inl (cK 0, 3, .inl (upd qLf (Int32.toNatClampNeg qP) ((-1) - r_65))))]) ⟨hx, hb, hml, hown, hts⟩ (c_Qu_use l D cK q qI qL qW (qP + 1) qV_87 v3 qV_92 hcl) (cwV 1 hts (zz_V ml_Qu_31 im_Qu_use se_Qu_use in_Qu co_Qu_use) rfl rfl rfl ⟨rfl, hd_Qu_use⟩ ⟨Nat.le_of_ble_eq_true rfl, Nat.le_of_ble_eq_true rfl⟩) hK hP hD hS hA [0] [1, 2] [2, 0, 1] rfl (by decide) rfl (by decide) (by decide) rfl (by decide) 0 rfl rfl rfl rfl hl.1 rfl (Nat.le_of_ble_eq_true rfl) d_Qu_add_92 ⟨Nat.zero_le _, Nat.zero_le _⟩ (fun H locs hP hD hS => ?_)
    refine lv_iconst (v := 1) hx hb d_Qu_add_95 (by decide) ?_
    cases hf
    exact hret _ _ 96 _ hP hD hS rfl d_Qu_add_96
  · have hf := fn_f hc hf
    refine lv_iconst (v := 0) hx hb d_Qu_add_8 (by decide) ?_
    cases hf
    exact hret _ _ 9 _ hP hD hS rfl d_Qu_add_9
abbrev rm_Rs_count : Room := { frames := 1, cells := 0, slots := 0, locals := 20 }
set_option maxHeartbeats 4000000 in
set_option maxRecDepth 100000 in
theorem c_Rs_count (l : Launch) (D : va_G) (cK : Nat → ClassId) (x xW : Nat) (xS : Int32) (xM : Nat) (xWf : Nat → Int32) (N : Nat)  (r : Int32) (hf : f_Rs_count N xS xM xWf = some r) : RdI l y_Rs_count w_Rs_count rm_Rs_count D zz_cl (mt_ty cK RK2) [.ref x] [(x, .inr (4, [.ref xW, .int xS])), (xW, .inl (cK 0, xM, .inl xWf))] r := by
  refine mk_RdI (cc := b_Rs_count) (maxL := 3) (ty := .int) (by decide +kernel) rfl (Nat.le_of_ble_eq_true rfl) ?_
  intro p e s m below meth c args Q ls hx hb hml hown hts hK hP hret hl
  have hl : lv_has ls 3 [(0, .ref x)] := hl
  have J_4 : ∀  (n_4 : Nat)  (v1 : Int32) (v2 : Int32) (ls : Array Slot), f_Rs_count_4 N xS xM xWf n_4 v1 v2 = some r → lv_has ls 3 [(0, .ref x), (1, .int v1), (2, .int v2)] → W p l e rm_Rs_count s m args below meth c s.heap [] 0 0 Q (F0 m 4 ls []) := by
    intro n_4
    induction n_4 with
    | zero =>
      intro v1 v2 ls hf hl
      exact fn_0 hf
    | succ n_4 ih_4 =>
      intro v1 v2 ls hf hl
      rw [f_Rs_count_4.eq_2] at hf
      refine lv_iload_n hx hb d_Rs_count_4 rfl (lv_at hl 2 rfl) ?_
      refine lv_aload_n hx hb d_Rs_count_5 rfl (lv_at hl 0 rfl) ?_
      refine va_get (D := D) (ci := 4) (v := .int xS) (C := RK4) (T := TK4) (N := 2) hx hb hts iwK4 hown hK hP 0 rfl rfl 1 (by decide) (hts _ fl_Rs_21) (fun _ h9 => h9) rfl d_Rs_count_6 ?_
      refine lv_icmp_ge (tgt := 33) hx hb d_Rs_count_9 (by decide) (fun hc => ?_) (fun hc => ?_)
      · have hf := fn_t hc hf
        refine lv_iload_n hx hb d_Rs_count_33 rfl (lv_at hl 1 rfl) ?_
        cases hf
        exact hret 34 _ rfl d_Rs_count_34
      · have hf := fn_f hc hf
        refine lv_iload_n hx hb d_Rs_count_12 rfl (lv_at hl 1 rfl) ?_
        refine lv_aload_n hx hb d_Rs_count_13 rfl (lv_at hl 0 rfl) ?_
        refine va_get (D := D) (ci := 4) (v := .ref xW) (C := RK4) (T := TK4) (N := 2) hx hb hts iwK4 hown hK hP 0 rfl rfl 0 (by decide) (hts _ fl_Rs_15) (fun _ h9 => h9) rfl d_Rs_count_14 ?_
        refine lv_iload_n hx hb d_Rs_count_17 rfl (lv_at hl 2 rfl) ?_
        have hg := fn_g hf
        have hf := fn_t hg hf
        refine va_iald hx hb hK hP 1 0 rfl rfl (fn_v hg) d_Rs_count_18 ?_
        refine lv_ldc (v := 65535) hx hb hown (hts _ kn_Rs_29) d_Rs_count_19 ?_
        refine lv_iand hx hb d_Rs_count_21 ?_
        obtain ⟨r_22, hcl, hf⟩ := fn_e1 hf
        refine cs_RdI (rest := [.int v1]) ⟨hx, hb, hml, hown, hts⟩ (c_Ji_bitCount l D cK ((xWf (Int32.toNatClampNeg v2)) &&& 65535) r_22 hcl) (va_cwS 1 hts (zz_S ml_Rs_30 st_Ji_bitCount in_Ji co_Ji_bitCount) rfl rfl rfl hd_Ji_bitCount ⟨Nat.le_of_ble_eq_true rfl, Nat.le_of_ble_eq_true rfl⟩) hK hP [] rfl rfl hl.1 rfl (Nat.le_of_ble_eq_true rfl) d_Rs_count_22 ⟨Nat.zero_le _, Nat.zero_le _⟩ ?_
        refine lv_iadd hx hb d_Rs_count_25 ?_
        refine lv_istore_n (lv' := [(1, .int (v1 + r_22)), (0, .ref x), (2, .int v2)]) hx hb d_Rs_count_26 rfl hl (by decide) rfl (fun ls hl => ?_)
        refine lv_iinc (v := (v2 + 1)) (lv' := [(2, .int (v2 + 1)), (1, .int (v1 + r_22)), (0, .ref x)]) hx hb d_Rs_count_27 hl (k := 2) rfl rfl (by decide) rfl (fun ls hl => ?_)
        refine lv_goto (tgt := 4) hx hb d_Rs_count_30 (by decide) ?_
        exact ih_4 _ _ _ hf (lv_sub hl [2, 1, 0] rfl)
  unfold f_Rs_count at hf
  refine lv_iconst (v := 0) hx hb d_Rs_count_0 (by decide) ?_
  refine lv_istore_n (lv' := [(1, .int 0), (0, .ref x)]) hx hb d_Rs_count_1 rfl hl (by decide) rfl (fun ls hl => ?_)
  refine lv_iconst (v := 0) hx hb d_Rs_count_2 (by decide) ?_
  refine lv_istore_n (lv' := [(2, .int 0), (1, .int 0), (0, .ref x)]) hx hb d_Rs_count_3 rfl hl (by decide) rfl (fun ls hl => ?_)
  exact J_4 _ _ _ _ hf (lv_sub hl [2, 1, 0] rfl)
abbrev rm_Rs_keyAt : Room := { frames := 1, cells := 0, slots := 0, locals := 23 }
set_option maxHeartbeats 4000000 in
set_option maxRecDepth 100000 in
theorem c_Rs_keyAt (l : Launch) (D : va_G) (cK : Nat → ClassId) (x xW : Nat) (xS : Int32) (xM : Nat) (xWf : Nat → Int32) (N : Nat) (v1 : Int32) (r : Int32) (hf : f_Rs_keyAt N xS xM xWf v1 = some r) : RdI l y_Rs_keyAt w_Rs_keyAt rm_Rs_keyAt D zz_cl (mt_ty cK RK2) [.ref x, .int v1] [(x, .inr (4, [.ref xW, .int xS])), (xW, .inl (cK 0, xM, .inl xWf))] r := by
  refine mk_RdI (cc := b_Rs_keyAt) (maxL := 5) (ty := .int) (by decide +kernel) rfl (Nat.le_of_ble_eq_true rfl) ?_
  intro p e s m below meth c args Q ls hx hb hml hown hts hK hP hret hl
  have hl : lv_has ls 5 [(0, .ref x), (1, .int v1)] := hl
  have J_36 : ∀  (v2 : Int32) (v3 : Int32) (ls : Array Slot), f_Rs_keyAt_36 N xS xM xWf v2 v3 = some r → lv_has ls 5 [(0, .ref x), (2, .int v2), (3, .int v3)] → W p l e rm_Rs_keyAt s m args below meth c s.heap [] 0 0 Q (F0 m 36 ls []) := by
    intro v2 v3 ls hf hl
    unfold f_Rs_keyAt_36 at hf
    refine lv_aload_n hx hb d_Rs_keyAt_36 rfl (lv_at hl 0 rfl) ?_
    refine va_get (D := D) (ci := 4) (v := .ref xW) (C := RK4) (T := TK4) (N := 2) hx hb hts iwK4 hown hK hP 0 rfl rfl 0 (by decide) (hts _ fl_Rs_15) (fun _ h9 => h9) rfl d_Rs_keyAt_37 ?_
    refine lv_iload_n hx hb d_Rs_keyAt_40 rfl (lv_at hl 2 rfl) ?_
    have hg := fn_g hf
    have hf := fn_t hg hf
    refine va_iald hx hb hK hP 1 0 rfl rfl (fn_v hg) d_Rs_keyAt_41 ?_
    refine lv_bipush (v := 16) hx hb d_Rs_keyAt_42 (by decide) ?_
    refine lv_ishr hx hb d_Rs_keyAt_44 ?_
    refine lv_bipush (v := 16) hx hb d_Rs_keyAt_45 (by decide) ?_
    refine lv_imul hx hb d_Rs_keyAt_47 ?_
    refine lv_aload_n hx hb d_Rs_keyAt_48 rfl (lv_at hl 0 rfl) ?_
    refine va_get (D := D) (ci := 4) (v := .ref xW) (C := RK4) (T := TK4) (N := 2) hx hb hts iwK4 hown hK hP 0 rfl rfl 0 (by decide) (hts _ fl_Rs_15) (fun _ h9 => h9) rfl d_Rs_keyAt_49 ?_
    refine lv_iload_n hx hb d_Rs_keyAt_52 rfl (lv_at hl 2 rfl) ?_
    have hg := fn_g hf
    have hf := fn_t hg hf
    refine va_iald hx hb hK hP 1 0 rfl rfl (fn_v hg) d_Rs_keyAt_53 ?_
    refine lv_iload_n hx hb d_Rs_keyAt_54 rfl (lv_at hl 1 rfl) ?_
    obtain ⟨r_55, hcl, hf⟩ := fn_e1 hf
    refine cs_RdI (rest := [.int (((xWf (Int32.toNatClampNeg v3)) >>> (16 &&& 31)) * 16)]) ⟨hx, hb, hml, hown, hts⟩ (c_Rs_bitAt l D cK N (xWf (Int32.toNatClampNeg v3)) v2 r_55 hcl) (va_cwS 2 hts (zz_S ml_Rs_36 st_Rs_bitAt in_Rs co_Rs_bitAt) rfl rfl rfl hd_Rs_bitAt ⟨Nat.le_of_ble_eq_true rfl, Nat.le_of_ble_eq_true rfl⟩) hK hP [] rfl rfl hl.1 rfl (Nat.le_of_ble_eq_true rfl) d_Rs_keyAt_55 ⟨Nat.zero_le _, Nat.zero_le _⟩ ?_
    refine lv_iadd hx hb d_Rs_keyAt_58 ?_
    cases hf
    exact hret 59 _ rfl d_Rs_keyAt_59
  have J_4 : ∀  (n_4 : Nat)  (v2 : Int32) (v3 : Int32) (ls : Array Slot), f_Rs_keyAt_4 N xS xM xWf n_4 v2 v3 = some r → lv_has ls 5 [(0, .ref x), (2, .int v2), (3, .int v3)] → W p l e rm_Rs_keyAt s m args below meth c s.heap [] 0 0 Q (F0 m 4 ls []) := by
    intro n_4
    induction n_4 with
    | zero =>
      intro v2 v3 ls hf hl
      exact fn_0 hf
    | succ n_4 ih_4 =>
      intro v2 v3 ls hf hl
      rw [f_Rs_keyAt_4.eq_2] at hf
      refine lv_iload_n hx hb d_Rs_keyAt_4 rfl (lv_at hl 2 rfl) ?_
      refine lv_aload_n hx hb d_Rs_keyAt_5 rfl (lv_at hl 0 rfl) ?_
      refine va_get (D := D) (ci := 4) (v := .int xS) (C := RK4) (T := TK4) (N := 2) hx hb hts iwK4 hown hK hP 0 rfl rfl 1 (by decide) (hts _ fl_Rs_21) (fun _ h9 => h9) rfl d_Rs_keyAt_6 ?_
      refine lv_icmp_ge (tgt := 71) hx hb d_Rs_keyAt_9 (by decide) (fun hc => ?_) (fun hc => ?_)
      · have hf := fn_t hc hf
        refine lv_bipush (v := (-2)) hx hb d_Rs_keyAt_71 (by decide) ?_
        cases hf
        exact hret 73 _ rfl d_Rs_keyAt_73
      · have hf := fn_f hc hf
        refine lv_iload_n hx hb d_Rs_keyAt_12 rfl (lv_at hl 1 rfl) ?_
        refine lv_if_lt (tgt := 71) hx hb d_Rs_keyAt_13 (by decide) (fun hc => ?_) (fun hc => ?_)
        · have hf := fn_t hc hf
          refine lv_bipush (v := (-2)) hx hb d_Rs_keyAt_71 (by decide) ?_
          cases hf
          exact hret 73 _ rfl d_Rs_keyAt_73
        · have hf := fn_f hc hf
          refine lv_aload_n hx hb d_Rs_keyAt_16 rfl (lv_at hl 0 rfl) ?_
          refine va_get (D := D) (ci := 4) (v := .ref xW) (C := RK4) (T := TK4) (N := 2) hx hb hts iwK4 hown hK hP 0 rfl rfl 0 (by decide) (hts _ fl_Rs_15) (fun _ h9 => h9) rfl d_Rs_keyAt_17 ?_
          refine lv_iload_n hx hb d_Rs_keyAt_20 rfl (lv_at hl 2 rfl) ?_
          have hg := fn_g hf
          have hf := fn_t hg hf
          refine va_iald hx hb hK hP 1 0 rfl rfl (fn_v hg) d_Rs_keyAt_21 ?_
          refine lv_ldc (v := 65535) hx hb hown (hts _ kn_Rs_29) d_Rs_keyAt_22 ?_
          refine lv_iand hx hb d_Rs_keyAt_24 ?_
          obtain ⟨r_25, hcl, hf⟩ := fn_e1 hf
          refine cs_RdI (rest := []) ⟨hx, hb, hml, hown, hts⟩ (c_Ji_bitCount l D cK ((xWf (Int32.toNatClampNeg v3)) &&& 65535) r_25 hcl) (va_cwS 1 hts (zz_S ml_Rs_30 st_Ji_bitCount in_Ji co_Ji_bitCount) rfl rfl rfl hd_Ji_bitCount ⟨Nat.le_of_ble_eq_true rfl, Nat.le_of_ble_eq_true rfl⟩) hK hP [] rfl rfl hl.1 rfl (Nat.le_of_ble_eq_true rfl) d_Rs_keyAt_25 ⟨Nat.zero_le _, Nat.zero_le _⟩ ?_
          refine lv_istore (lv' := [(4, .int r_25), (0, .ref x), (2, .int v2), (3, .int v3)]) hx hb d_Rs_keyAt_28 hl (by decide) rfl (fun ls hl => ?_)
          refine lv_iload_n hx hb d_Rs_keyAt_30 rfl (lv_at hl 2 rfl) ?_
          refine lv_iload hx hb d_Rs_keyAt_31 (lv_at hl 0 rfl) ?_
          refine lv_icmp_ge (tgt := 60) hx hb d_Rs_keyAt_33 (by decide) (fun hc => ?_) (fun hc => ?_)
          · have hf := fn_t hc hf
            refine lv_iload_n hx hb d_Rs_keyAt_60 rfl (lv_at hl 2 rfl) ?_
            refine lv_iload hx hb d_Rs_keyAt_61 (lv_at hl 0 rfl) ?_
            refine lv_isub hx hb d_Rs_keyAt_63 ?_
            refine lv_istore_n (lv' := [(2, .int (v2 - r_25)), (4, .int r_25), (0, .ref x), (3, .int v3)]) hx hb d_Rs_keyAt_64 rfl hl (by decide) rfl (fun ls hl => ?_)
            refine lv_iinc (v := (v3 + 1)) (lv' := [(3, .int (v3 + 1)), (2, .int (v2 - r_25)), (4, .int r_25), (0, .ref x)]) hx hb d_Rs_keyAt_65 hl (k := 3) rfl rfl (by decide) rfl (fun ls hl => ?_)
            refine lv_goto (tgt := 4) hx hb d_Rs_keyAt_68 (by decide) ?_
            exact ih_4 _ _ _ hf (lv_sub hl [3, 1, 0] rfl)
          · have hf := fn_f hc hf
            exact J_36 _ _ _ hf (lv_sub hl [1, 2, 3] rfl)
  unfold f_Rs_keyAt at hf
  refine lv_iload_n hx hb d_Rs_keyAt_0 rfl (lv_at hl 1 rfl) ?_
  refine lv_istore_n (lv' := [(2, .int v1), (0, .ref x), (1, .int v1)]) hx hb d_Rs_keyAt_1 rfl hl (by decide) rfl (fun ls hl => ?_)
  refine lv_iconst (v := 0) hx hb d_Rs_keyAt_2 (by decide) ?_
  refine lv_istore_n (lv' := [(3, .int 0), (2, .int v1), (0, .ref x), (1, .int v1)]) hx hb d_Rs_keyAt_3 rfl hl (by decide) rfl (fun ls hl => ?_)
  exact J_4 _ _ _ _ hf (lv_sub hl [2, 1, 0] rfl)
abbrev rm_Rs_sumOf : Room := { frames := 1, cells := 0, slots := 0, locals := 22 }
set_option maxHeartbeats 4000000 in
set_option maxRecDepth 100000 in
theorem c_Rs_sumOf (l : Launch) (D : va_G) (cK : Nat → ClassId) (x xW : Nat) (xS : Int32) (xM : Nat) (xWf : Nat → Int32) (N : Nat) (v1 : Int32) (r : Int32) (hf : f_Rs_sumOf N xS xM xWf v1 = some r) : RdI l y_Rs_sumOf w_Rs_sumOf rm_Rs_sumOf D zz_cl (mt_ty cK RK2) [.ref x, .int v1] [(x, .inr (4, [.ref xW, .int xS])), (xW, .inl (cK 0, xM, .inl xWf))] r := by
  refine mk_RdI (cc := b_Rs_sumOf) (maxL := 7) (ty := .int) (by decide +kernel) rfl (Nat.le_of_ble_eq_true rfl) ?_
  intro p e s m below meth c args Q ls hx hb hml hown hts hK hP hret hl
  have hl : lv_has ls 7 [(0, .ref x), (1, .int v1)] := hl
  have J_4 : ∀ (v1 : Int32) (n_4 : Nat)  (v2 : Int32) (v3 : Int32) (ls : Array Slot), f_Rs_sumOf_4 N xS xM xWf v1 n_4 v2 v3 = some r → lv_has ls 7 [(0, .ref x), (1, .int v1), (2, .int v2), (3, .int v3)] → W p l e rm_Rs_sumOf s m args below meth c s.heap [] 0 0 Q (F0 m 4 ls []) := by
    intro v1 n_4
    induction n_4 with
    | zero =>
      intro v2 v3 ls hf hl
      exact fn_0 hf
    | succ n_4 ih_4 =>
      have J_50 : ∀ (v3 : Int32) (v4 : Int32) (v5 : Int32) (n_50 : Nat)  (v2 : Int32) (v6 : Int32) (ls : Array Slot), f_Rs_sumOf_50 N xS xM xWf (f_Rs_sumOf_4 N xS xM xWf v1 n_4) v1 v3 v4 v5 n_50 v2 v6 = some r → lv_has ls 7 [(0, .ref x), (1, .int v1), (2, .int v2), (3, .int v3), (4, .int v4), (5, .int v5), (6, .int v6)] → W p l e rm_Rs_sumOf s m args below meth c s.heap [] 0 0 Q (F0 m 50 ls []) := by
        intro v3 v4 v5 n_50
        induction n_50 with
        | zero =>
          intro v2 v6 ls hf hl
          exact fn_0 hf
        | succ n_50 ih_50 =>
          intro v2 v6 ls hf hl
          rw [f_Rs_sumOf_50.eq_2] at hf
          refine lv_iload hx hb d_Rs_sumOf_50 (lv_at hl 6 rfl) ?_
          refine lv_bipush (v := 16) hx hb d_Rs_sumOf_52 (by decide) ?_
          refine lv_icmp_ge (tgt := 87) hx hb d_Rs_sumOf_54 (by decide) (fun hc => ?_) (fun hc => ?_)
          · have hf := fn_t hc hf
            refine lv_iinc (v := (v3 + 1)) (lv' := [(3, .int (v3 + 1)), (0, .ref x), (1, .int v1), (2, .int v2), (4, .int v4), (5, .int v5), (6, .int v6)]) hx hb d_Rs_sumOf_87 hl (k := 3) rfl rfl (by decide) rfl (fun ls hl => ?_)
            refine lv_goto (tgt := 4) hx hb d_Rs_sumOf_90 (by decide) ?_
            exact ih_4 _ _ _ hf (lv_sub hl [1, 2, 3, 0] rfl)
          · have hf := fn_f hc hf
            refine lv_iload hx hb d_Rs_sumOf_57 (lv_at hl 4 rfl) ?_
            refine lv_iload hx hb d_Rs_sumOf_59 (lv_at hl 6 rfl) ?_
            refine lv_ishr hx hb d_Rs_sumOf_61 ?_
            refine lv_if_eq (tgt := 87) hx hb d_Rs_sumOf_62 (by decide) (fun hc => ?_) (fun hc => ?_)
            · have hf := fn_t hc hf
              refine lv_iinc (v := (v3 + 1)) (lv' := [(3, .int (v3 + 1)), (0, .ref x), (1, .int v1), (2, .int v2), (4, .int v4), (5, .int v5), (6, .int v6)]) hx hb d_Rs_sumOf_87 hl (k := 3) rfl rfl (by decide) rfl (fun ls hl => ?_)
              refine lv_goto (tgt := 4) hx hb d_Rs_sumOf_90 (by decide) ?_
              exact ih_4 _ _ _ hf (lv_sub hl [1, 2, 3, 0] rfl)
            · have hf := fn_f hc hf
              refine lv_iload_n hx hb d_Rs_sumOf_65 rfl (lv_at hl 2 rfl) ?_
              refine lv_iload hx hb d_Rs_sumOf_66 (lv_at hl 4 rfl) ?_
              refine lv_iload hx hb d_Rs_sumOf_68 (lv_at hl 6 rfl) ?_
              refine lv_ishr hx hb d_Rs_sumOf_70 ?_
              refine lv_iconst (v := 1) hx hb d_Rs_sumOf_71 (by decide) ?_
              refine lv_iand hx hb d_Rs_sumOf_72 ?_
              refine lv_iload hx hb d_Rs_sumOf_73 (lv_at hl 6 rfl) ?_
              refine lv_imul hx hb d_Rs_sumOf_75 ?_
              refine lv_iload hx hb d_Rs_sumOf_76 (lv_at hl 5 rfl) ?_
              refine lv_imul hx hb d_Rs_sumOf_78 ?_
              refine lv_iadd hx hb d_Rs_sumOf_79 ?_
              refine lv_istore_n (lv' := [(2, .int (v2 + ((((v4 >>> (v6 &&& 31)) &&& 1) * v6) * v5))), (0, .ref x), (1, .int v1), (3, .int v3), (4, .int v4), (5, .int v5), (6, .int v6)]) hx hb d_Rs_sumOf_80 rfl hl (by decide) rfl (fun ls hl => ?_)
              refine lv_iinc (v := (v6 + 1)) (lv' := [(6, .int (v6 + 1)), (2, .int (v2 + ((((v4 >>> (v6 &&& 31)) &&& 1) * v6) * v5))), (0, .ref x), (1, .int v1), (3, .int v3), (4, .int v4), (5, .int v5)]) hx hb d_Rs_sumOf_81 hl (k := 6) rfl rfl (by decide) rfl (fun ls hl => ?_)
              refine lv_goto (tgt := 50) hx hb d_Rs_sumOf_84 (by decide) ?_
              exact ih_50 _ _ _ hf (lv_sub hl [2, 3, 1, 4, 5, 6, 0] rfl)
      intro v2 v3 ls hf hl
      rw [f_Rs_sumOf_4.eq_2] at hf
      refine lv_iload_n hx hb d_Rs_sumOf_4 rfl (lv_at hl 3 rfl) ?_
      refine lv_aload_n hx hb d_Rs_sumOf_5 rfl (lv_at hl 0 rfl) ?_
      refine va_get (D := D) (ci := 4) (v := .int xS) (C := RK4) (T := TK4) (N := 2) hx hb hts iwK4 hown hK hP 0 rfl rfl 1 (by decide) (hts _ fl_Rs_21) (fun _ h9 => h9) rfl d_Rs_sumOf_6 ?_
      refine lv_icmp_ge (tgt := 93) hx hb d_Rs_sumOf_9 (by decide) (fun hc => ?_) (fun hc => ?_)
      · have hf := fn_t hc hf
        refine lv_iload_n hx hb d_Rs_sumOf_93 rfl (lv_at hl 2 rfl) ?_
        cases hf
        exact hret 94 _ rfl d_Rs_sumOf_94
      · have hf := fn_f hc hf
        refine lv_aload_n hx hb d_Rs_sumOf_12 rfl (lv_at hl 0 rfl) ?_
        refine va_get (D := D) (ci := 4) (v := .ref xW) (C := RK4) (T := TK4) (N := 2) hx hb hts iwK4 hown hK hP 0 rfl rfl 0 (by decide) (hts _ fl_Rs_15) (fun _ h9 => h9) rfl d_Rs_sumOf_13 ?_
        refine lv_iload_n hx hb d_Rs_sumOf_16 rfl (lv_at hl 3 rfl) ?_
        have hg := fn_g hf
        have hf := fn_t hg hf
        refine va_iald hx hb hK hP 1 0 rfl rfl (fn_v hg) d_Rs_sumOf_17 ?_
        refine lv_iload_n hx hb d_Rs_sumOf_18 rfl (lv_at hl 1 rfl) ?_
        obtain ⟨r_19, hcl, hf⟩ := fn_e1 hf
        refine cs_RdI (rest := []) ⟨hx, hb, hml, hown, hts⟩ (c_Rs_valuesOf l D cK (xWf (Int32.toNatClampNeg v3)) v1 r_19 hcl) (va_cwS 2 hts (zz_S ml_Rs_39 st_Rs_valuesOf in_Rs co_Rs_valuesOf) rfl rfl rfl hd_Rs_valuesOf ⟨Nat.le_of_ble_eq_true rfl, Nat.le_of_ble_eq_true rfl⟩) hK hP [] rfl rfl hl.1 rfl (Nat.le_of_ble_eq_true rfl) d_Rs_sumOf_19 ⟨Nat.zero_le _, Nat.zero_le _⟩ ?_
        refine lv_istore (lv' := [(4, .int r_19), (0, .ref x), (1, .int v1), (2, .int v2), (3, .int v3)]) hx hb d_Rs_sumOf_22 hl (by decide) rfl (fun ls hl => ?_)
        refine lv_iload_n hx hb d_Rs_sumOf_24 rfl (lv_at hl 2 rfl) ?_
        refine lv_iconst (v := 4) hx hb d_Rs_sumOf_25 (by decide) ?_
        refine lv_icmp_ge (tgt := 44) hx hb d_Rs_sumOf_26 (by decide) (fun hc => ?_) (fun hc => ?_)
        · have hf := fn_t hc hf
          refine lv_iconst (v := 1) hx hb d_Rs_sumOf_44 (by decide) ?_
          refine lv_istore (lv' := [(5, .int 1), (4, .int r_19), (0, .ref x), (1, .int v1), (2, .int v2), (3, .int v3)]) hx hb d_Rs_sumOf_45 hl (by decide) rfl (fun ls hl => ?_)
          refine lv_iconst (v := 0) hx hb d_Rs_sumOf_47 (by decide) ?_
          refine lv_istore (lv' := [(6, .int 0), (5, .int 1), (4, .int r_19), (0, .ref x), (1, .int v1), (2, .int v2), (3, .int v3)]) hx hb d_Rs_sumOf_48 hl (by decide) rfl (fun ls hl => ?_)
          exact J_50 _ _ _ _ _ _ _ hf (lv_sub hl [3, 4, 5, 6, 2, 1, 0] rfl)
        · have hf := fn_f hc hf
          refine lv_aload_n hx hb d_Rs_sumOf_29 rfl (lv_at hl 1 rfl) ?_
          refine va_get (D := D) (ci := 4) (v := .ref xW) (C := RK4) (T := TK4) (N := 2) hx hb hts iwK4 hown hK hP 0 rfl rfl 0 (by decide) (hts _ fl_Rs_15) (fun _ h9 => h9) rfl d_Rs_sumOf_30 ?_
          refine lv_iload_n hx hb d_Rs_sumOf_33 rfl (lv_at hl 4 rfl) ?_
          have hg := fn_g hf
          have hf := fn_t hg hf
          refine va_iald hx hb hK hP 1 0 rfl rfl (fn_v hg) d_Rs_sumOf_34 ?_
          refine lv_ldc (v := 65535) hx hb hown (hts _ kn_Rs_29) d_Rs_sumOf_35 ?_
          refine lv_iand hx hb d_Rs_sumOf_37 ?_
          obtain ⟨r_38, hcl, hf⟩ := fn_e1 hf
          refine cs_RdI (rest := []) ⟨hx, hb, hml, hown, hts⟩ (c_Ji_bitCount l D cK ((xWf (Int32.toNatClampNeg v3)) &&& 65535) r_38 hcl) (va_cwS 1 hts (zz_S ml_Rs_30 st_Ji_bitCount in_Ji co_Ji_bitCount) rfl rfl rfl hd_Ji_bitCount ⟨Nat.le_of_ble_eq_true rfl, Nat.le_of_ble_eq_true rfl⟩) hK hP [] rfl rfl hl.1 rfl (Nat.le_of_ble_eq_true rfl) d_Rs_sumOf_38 ⟨Nat.zero_le _, Nat.zero_le _⟩ ?_
          refine lv_goto (tgt := 45) hx hb d_Rs_sumOf_41 (by decide) ?_
          refine lv_istore (lv' := [(5, .int r_38), (4, .int r_19), (0, .ref x), (1, .int v1), (2, .int v2), (3, .int v3)]) hx hb d_Rs_sumOf_45 hl (by decide) rfl (fun ls hl => ?_)
          refine lv_iconst (v := 0) hx hb d_Rs_sumOf_47 (by decide) ?_
          refine lv_istore (lv' := [(6, .int 0), (5, .int r_38), (4, .int r_19), (0, .ref x), (1, .int v1), (2, .int v2), (3, .int v3)]) hx hb d_Rs_sumOf_48 hl (by decide) rfl (fun ls hl => ?_)
          exact J_50 _ _ _ _ _ _ _ hf (lv_sub hl [3, 4, 5, 6, 2, 1, 0] rfl)
  unfold f_Rs_sumOf at hf
  refine lv_iconst (v := 0) hx hb d_Rs_sumOf_0 (by decide) ?_
  refine lv_istore_n (lv' := [(2, .int 0), (0, .ref x), (1, .int v1)]) hx hb d_Rs_sumOf_1 rfl hl (by decide) rfl (fun ls hl => ?_)
  refine lv_iconst (v := 0) hx hb d_Rs_sumOf_2 (by decide) ?_
  refine lv_istore_n (lv' := [(3, .int 0), (2, .int 0), (0, .ref x), (1, .int v1)]) hx hb d_Rs_sumOf_3 rfl hl (by decide) rfl (fun ls hl => ?_)
  exact J_4 _ _ _ _ _ hf (lv_sub hl [2, 3, 1, 0] rfl)
abbrev rm_Rs_allValuesOf : Room := { frames := 1, cells := 0, slots := 0, locals := 22 }
set_option maxHeartbeats 4000000 in
set_option maxRecDepth 100000 in
theorem c_Rs_allValuesOf (l : Launch) (D : va_G) (cK : Nat → ClassId) (x xW : Nat) (xS : Int32) (xM : Nat) (xWf : Nat → Int32) (N : Nat) (v1 : Int32) (r : Int32) (hf : f_Rs_allValuesOf N xS xM xWf v1 = some r) : RdI l y_Rs_allValuesOf w_Rs_allValuesOf rm_Rs_allValuesOf D zz_cl (mt_ty cK RK2) [.ref x, .int v1] [(x, .inr (4, [.ref xW, .int xS])), (xW, .inl (cK 0, xM, .inl xWf))] r := by
  refine mk_RdI (cc := b_Rs_allValuesOf) (maxL := 4) (ty := .int) (by decide +kernel) rfl (Nat.le_of_ble_eq_true rfl) ?_
  intro p e s m below meth c args Q ls hx hb hml hown hts hK hP hret hl
  have hl : lv_has ls 4 [(0, .ref x), (1, .int v1)] := hl
  have J_4 : ∀ (v1 : Int32) (n_4 : Nat)  (v2 : Int32) (v3 : Int32) (ls : Array Slot), f_Rs_allValuesOf_4 N xS xM xWf v1 n_4 v2 v3 = some r → lv_has ls 4 [(0, .ref x), (1, .int v1), (2, .int v2), (3, .int v3)] → W p l e rm_Rs_allValuesOf s m args below meth c s.heap [] 0 0 Q (F0 m 4 ls []) := by
    intro v1 n_4
    induction n_4 with
    | zero =>
      intro v2 v3 ls hf hl
      exact fn_0 hf
    | succ n_4 ih_4 =>
      intro v2 v3 ls hf hl
      rw [f_Rs_allValuesOf_4.eq_2] at hf
      refine lv_iload_n hx hb d_Rs_allValuesOf_4 rfl (lv_at hl 3 rfl) ?_
      refine lv_aload_n hx hb d_Rs_allValuesOf_5 rfl (lv_at hl 0 rfl) ?_
      refine va_get (D := D) (ci := 4) (v := .int xS) (C := RK4) (T := TK4) (N := 2) hx hb hts iwK4 hown hK hP 0 rfl rfl 1 (by decide) (hts _ fl_Rs_21) (fun _ h9 => h9) rfl d_Rs_allValuesOf_6 ?_
      refine lv_icmp_ge (tgt := 31) hx hb d_Rs_allValuesOf_9 (by decide) (fun hc => ?_) (fun hc => ?_)
      · have hf := fn_t hc hf
        refine lv_iload_n hx hb d_Rs_allValuesOf_31 rfl (lv_at hl 2 rfl) ?_
        cases hf
        exact hret 32 _ rfl d_Rs_allValuesOf_32
      · have hf := fn_f hc hf
        refine lv_iload_n hx hb d_Rs_allValuesOf_12 rfl (lv_at hl 2 rfl) ?_
        refine lv_aload_n hx hb d_Rs_allValuesOf_13 rfl (lv_at hl 0 rfl) ?_
        refine va_get (D := D) (ci := 4) (v := .ref xW) (C := RK4) (T := TK4) (N := 2) hx hb hts iwK4 hown hK hP 0 rfl rfl 0 (by decide) (hts _ fl_Rs_15) (fun _ h9 => h9) rfl d_Rs_allValuesOf_14 ?_
        refine lv_iload_n hx hb d_Rs_allValuesOf_17 rfl (lv_at hl 3 rfl) ?_
        have hg := fn_g hf
        have hf := fn_t hg hf
        refine va_iald hx hb hK hP 1 0 rfl rfl (fn_v hg) d_Rs_allValuesOf_18 ?_
        refine lv_iload_n hx hb d_Rs_allValuesOf_19 rfl (lv_at hl 1 rfl) ?_
        obtain ⟨r_20, hcl, hf⟩ := fn_e1 hf
        refine cs_RdI (rest := [.int v2]) ⟨hx, hb, hml, hown, hts⟩ (c_Rs_valuesOf l D cK (xWf (Int32.toNatClampNeg v3)) v1 r_20 hcl) (va_cwS 2 hts (zz_S ml_Rs_39 st_Rs_valuesOf in_Rs co_Rs_valuesOf) rfl rfl rfl hd_Rs_valuesOf ⟨Nat.le_of_ble_eq_true rfl, Nat.le_of_ble_eq_true rfl⟩) hK hP [] rfl rfl hl.1 rfl (Nat.le_of_ble_eq_true rfl) d_Rs_allValuesOf_20 ⟨Nat.zero_le _, Nat.zero_le _⟩ ?_
        refine lv_ior hx hb d_Rs_allValuesOf_23 ?_
        refine lv_istore_n (lv' := [(2, .int (v2 ||| r_20)), (0, .ref x), (1, .int v1), (3, .int v3)]) hx hb d_Rs_allValuesOf_24 rfl hl (by decide) rfl (fun ls hl => ?_)
        refine lv_iinc (v := (v3 + 1)) (lv' := [(3, .int (v3 + 1)), (2, .int (v2 ||| r_20)), (0, .ref x), (1, .int v1)]) hx hb d_Rs_allValuesOf_25 hl (k := 3) rfl rfl (by decide) rfl (fun ls hl => ?_)
        refine lv_goto (tgt := 4) hx hb d_Rs_allValuesOf_28 (by decide) ?_
        exact ih_4 _ _ _ hf (lv_sub hl [2, 3, 1, 0] rfl)
  unfold f_Rs_allValuesOf at hf
  refine lv_iconst (v := 0) hx hb d_Rs_allValuesOf_0 (by decide) ?_
  refine lv_istore_n (lv' := [(2, .int 0), (0, .ref x), (1, .int v1)]) hx hb d_Rs_allValuesOf_1 rfl hl (by decide) rfl (fun ls hl => ?_)
  refine lv_iconst (v := 0) hx hb d_Rs_allValuesOf_2 (by decide) ?_
  refine lv_istore_n (lv' := [(3, .int 0), (2, .int 0), (0, .ref x), (1, .int v1)]) hx hb d_Rs_allValuesOf_3 rfl hl (by decide) rfl (fun ls hl => ?_)
  exact J_4 _ _ _ _ _ hf (lv_sub hl [2, 3, 1, 0] rfl)
abbrev rm_Se_read : Room := { frames := 2, cells := 0, slots := 0, locals := 44 }
set_option maxHeartbeats 4000000 in
set_option maxRecDepth 100000 in
theorem c_Se_read (l : Launch) (D : va_G) (cK : Nat → ClassId) (lg lgA lgT lgC se seO : Nat) (lgS : Int32) (lgAf : Nat → Int32) (lgTf : Nat → Int32) (lgCf : Nat → Int32) (seOf : Nat → Int32) (N : Nat) (v2 : Int32) (v3 : Int32) (o_seOf : Nat → Int32) (hf : f_Se_read N lgS lgAf lgTf lgCf seOf v2 v3 = some o_seOf) : WrV l y_Se_read w_Se_read rm_Se_read D zz_cl (mt_ty cK RK2) [.ref se, .ref lg, .int v2, .int v3] [(lg, .inr (0, [.ref lgA, .ref lgT, .ref lgC, .int lgS])), (lgA, .inl (cK 0, 400, .inl lgAf)), (lgT, .inl (cK 0, 400, .inl lgTf)), (lgC, .inl (cK 1, 400, .inl lgCf)), (se, .inr (1, [.ref seO])), (seO, .inl (cK 0, 128, .inl seOf))] [(lg, .inr (0, [.ref lgA, .ref lgT, .ref lgC, .int lgS])), (lgA, .inl (cK 0, 400, .inl lgAf)), (lgT, .inl (cK 0, 400, .inl lgTf)), (lgC, .inl (cK 1, 400, .inl lgCf)), (se, .inr (1, [.ref seO])), (seO, .inl (cK 0, 128, .inl o_seOf))] := by
  refine mk_WrV (cc := b_Se_read) (maxL := 5) (by decide +kernel) rfl (Nat.le_of_ble_eq_true rfl) ?_
  intro p e s m below meth c args Q A ls hx hb hml hown hts hA hK hP hD hret hl
  have hS : va_S A s.heap s.heap [] := va_S.rf
  have hl : lv_has ls 5 [(0, .ref se), (1, .ref lg), (2, .int v2), (3, .int v3)] := hl
  have J_11 : ∀ (v2 : Int32) (v3 : Int32) (n_11 : Nat) (seOf : Nat → Int32) (v4 : Int32) (H : Heap) (locs : List Loc) (ls : Array Slot), f_Se_read_11 N lgS lgAf lgTf lgCf v2 v3 n_11 seOf v4 = some o_seOf → va_P D zz_cl [(lg, .inr (0, [.ref lgA, .ref lgT, .ref lgC, .int lgS])), (lgA, .inl (cK 0, 400, .inl lgAf)), (lgT, .inl (cK 0, 400, .inl lgTf)), (lgC, .inl (cK 1, 400, .inl lgCf)), (se, .inr (1, [.ref seO])), (seO, .inl (cK 0, 128, .inl seOf))] H → va_D A [(lg, .inr (0, [.ref lgA, .ref lgT, .ref lgC, .int lgS])), (lgA, .inl (cK 0, 400, .inl lgAf)), (lgT, .inl (cK 0, 400, .inl lgTf)), (lgC, .inl (cK 1, 400, .inl lgCf)), (se, .inr (1, [.ref seO])), (seO, .inl (cK 0, 128, .inl seOf))] → va_S A s.heap H locs → lv_has ls 5 [(0, .ref se), (1, .ref lg), (2, .int v2), (3, .int v3), (4, .int v4)] → W p l e rm_Se_read s m args below meth c H locs 0 0 Q (F0 m 11 ls []) := by
    intro v2 v3 n_11
    induction n_11 with
    | zero =>
      intro seOf v4 H locs ls hf hP hD hS hl
      exact fn_0 hf
    | succ n_11 ih_11 =>
      intro seOf v4 H locs ls hf hP hD hS hl
      rw [f_Se_read_11.eq_2] at hf
      refine lv_iload hx hb d_Se_read_11 (lv_at hl 4 rfl) ?_
      refine lv_aload_n hx hb d_Se_read_13 rfl (lv_at hl 1 rfl) ?_
      refine va_get (D := D) (ci := 0) (v := .int lgS) (C := RK0) (T := TK0) (N := 4) hx hb hts iwK0 hown hK hP 0 rfl rfl 3 (by decide) (hts _ fl_Se_21) (fun _ h9 => h9) rfl d_Se_read_14 ?_
      refine lv_icmp_ge (tgt := 56) hx hb d_Se_read_17 (by decide) (fun hc => ?_) (fun hc => ?_)
      · have hf := fn_t hc hf
        cases hf
        exact hret _ _ 56 _ hP hD hS d_Se_read_56
      · have hf := fn_f hc hf
        refine lv_aload_n hx hb d_Se_read_20 rfl (lv_at hl 1 rfl) ?_
        refine va_get (D := D) (ci := 0) (v := .ref lgA) (C := RK0) (T := TK0) (N := 4) hx hb hts iwK0 hown hK hP 0 rfl rfl 0 (by decide) (hts _ fl_Se_27) (fun _ h9 => h9) rfl d_Se_read_21 ?_
        refine lv_iload hx hb d_Se_read_24 (lv_at hl 4 rfl) ?_
        have hg := fn_g hf
        have hf := fn_t hg hf
        refine va_iald hx hb hK hP 1 0 rfl rfl (fn_v hg) d_Se_read_26 ?_
        refine lv_iload_n hx hb d_Se_read_27 rfl (lv_at hl 2 rfl) ?_
        refine lv_icmp_gt (tgt := 56) hx hb d_Se_read_28 (by decide) (fun hc => ?_) (fun hc => ?_)
        · have hf := fn_t hc hf
          cases hf
          exact hret _ _ 56 _ hP hD hS d_Se_read_56
        · have hf := fn_f hc hf
          refine lv_aload_n hx hb d_Se_read_31 rfl (lv_at hl 0 rfl) ?_
          refine lv_aload_n hx hb d_Se_read_32 rfl (lv_at hl 1 rfl) ?_
          refine va_get (D := D) (ci := 0) (v := .ref lgT) (C := RK0) (T := TK0) (N := 4) hx hb hts iwK0 hown hK hP 0 rfl rfl 1 (by decide) (hts _ fl_Se_30) (fun _ h9 => h9) rfl d_Se_read_33 ?_
          refine lv_iload hx hb d_Se_read_36 (lv_at hl 4 rfl) ?_
          have hg := fn_g hf
          have hf := fn_t hg hf
          refine va_iald hx hb hK hP 2 0 rfl rfl (fn_v hg) d_Se_read_38 ?_
          refine lv_aload_n hx hb d_Se_read_39 rfl (lv_at hl 1 rfl) ?_
          refine lv_iload hx hb d_Se_read_40 (lv_at hl 4 rfl) ?_
          refine lv_iload_n hx hb d_Se_read_42 rfl (lv_at hl 2 rfl) ?_
          refine lv_iload_n hx hb d_Se_read_43 rfl (lv_at hl 3 rfl) ?_
          obtain ⟨r_44, hcl, hf⟩ := fn_e1 hf
          refine cv_RdI (rest := [.int (lgTf (Int32.toNatClampNeg v4)), .ref se]) ⟨hx, hb, hml, hown, hts⟩ (c_Lg_shows l D cK lg lgA lgT lgC lgS lgAf lgCf v4 v2 v3 r_44 hcl) (cwV 3 hts (zz_V ml_Se_33 im_Lg_shows se_Lg_shows in_Lg co_Lg_shows) rfl rfl rfl ⟨rfl, hd_Lg_shows⟩ ⟨Nat.le_of_ble_eq_true rfl, Nat.le_of_ble_eq_true rfl⟩) hK hP [0, 1, 3] rfl 0 rfl rfl rfl rfl hl.1 rfl (Nat.le_of_ble_eq_true rfl) d_Se_read_44 ⟨Nat.zero_le _, Nat.zero_le _⟩ ?_
          obtain ⟨seOf_47, hcl, hf⟩ := fn_e1 hf
          refine cv_WrV (rest := []) (wr := [(lg, .inr (0, [.ref lgA, .ref lgT, .ref lgC, .int lgS])), (lgA, .inl (cK 0, 400, .inl lgAf)), (lgT, .inl (cK 0, 400, .inl lgTf)), (lgC, .inl (cK 1, 400, .inl lgCf))]) (w' := [(lg, .inr (0, [.ref lgA, .ref lgT, .ref lgC, .int lgS])), (lgA, .inl (cK 0, 400, .inl lgAf)), (lgT, .inl (cK 0, 400, .inl lgTf)), (lgC, .inl (cK 1, 400, .inl lgCf)), (se, .inr (1, [.ref seO])), (seO, .inl (cK 0, 128, .inl seOf_47))]) ⟨hx, hb, hml, hown, hts⟩ (c_Se_put l D cK se seO seOf (lgTf (Int32.toNatClampNeg v4)) r_44 seOf_47 hcl) (cwV 2 hts (zz_V ml_Se_37 im_Se_put se_Se_put in_Se co_Se_put) rfl rfl rfl ⟨rfl, hd_Se_put⟩ ⟨Nat.le_of_ble_eq_true rfl, Nat.le_of_ble_eq_true rfl⟩) hK hP hD hS hA [4, 5] [0, 1, 2, 3] [0, 1, 2, 3, 4, 5] rfl (by decide) rfl (by decide) (by decide) rfl (by decide) 4 rfl rfl rfl rfl hl.1 rfl (Nat.le_of_ble_eq_true rfl) d_Se_read_47 ⟨Nat.zero_le _, Nat.zero_le _⟩ (fun H locs hP hD hS => ?_)
          refine lv_iinc (v := (v4 + 1)) (lv' := [(4, .int (v4 + 1)), (0, .ref se), (1, .ref lg), (2, .int v2), (3, .int v3)]) hx hb d_Se_read_50 hl (k := 4) rfl rfl (by decide) rfl (fun ls hl => ?_)
          refine lv_goto (tgt := 11) hx hb d_Se_read_53 (by decide) ?_
          exact ih_11 _ _ _ _ _ hf hP hD hS (lv_sub hl [1, 2, 3, 4, 0] rfl)
  unfold f_Se_read at hf
  refine lv_aload_n hx hb d_Se_read_0 rfl (lv_at hl 0 rfl) ?_
  refine va_get (D := D) (ci := 1) (v := .ref seO) (C := RK1) (T := TK1) (N := 1) hx hb hts iwK1 hown hK hP 4 rfl rfl 0 (by decide) (hts _ fl_Se_9) (fun _ h9 => h9) rfl d_Se_read_1 ?_
  refine lv_iconst (v := 0) hx hb d_Se_read_4 (by decide) ?_
  obtain ⟨seOf_5, hcl, hf⟩ := fn_e1 hf
  refine cs_WrV (rest := []) (wr := [(lg, .inr (0, [.ref lgA, .ref lgT, .ref lgC, .int lgS])), (lgA, .inl (cK 0, 400, .inl lgAf)), (lgT, .inl (cK 0, 400, .inl lgTf)), (lgC, .inl (cK 1, 400, .inl lgCf)), (se, .inr (1, [.ref seO]))]) (w' := [(lg, .inr (0, [.ref lgA, .ref lgT, .ref lgC, .int lgS])), (lgA, .inl (cK 0, 400, .inl lgAf)), (lgT, .inl (cK 0, 400, .inl lgTf)), (lgC, .inl (cK 1, 400, .inl lgCf)), (se, .inr (1, [.ref seO])), (seO, .inl (cK 0, 128, .inl seOf_5))]) ⟨hx, hb, hml, hown, hts⟩ (c_Ja_fill l D cK seO 128 seOf N 0 seOf_5 hcl) (va_cwS 2 hts (zz_S ml_Se_15 st_Ja_fill in_Ja co_Ja_fill) rfl rfl rfl hd_Ja_fill ⟨Nat.le_of_ble_eq_true rfl, Nat.le_of_ble_eq_true rfl⟩) hK hP hD hS hA [5] [0, 1, 2, 3, 4] [0, 1, 2, 3, 4, 5] rfl (by decide) rfl (by decide) (by decide) rfl (by decide) rfl hl.1 rfl (Nat.le_of_ble_eq_true rfl) d_Se_read_5 ⟨Nat.zero_le _, Nat.zero_le _⟩ (fun H locs hP hD hS => ?_)
  refine lv_iconst (v := 0) hx hb d_Se_read_8 (by decide) ?_
  refine lv_istore (lv' := [(4, .int 0), (0, .ref se), (1, .ref lg), (2, .int v2), (3, .int v3)]) hx hb d_Se_read_9 hl (by decide) rfl (fun ls hl => ?_)
  exact J_11 _ _ _ _ _ _ _ _ hf hP hD hS (lv_sub hl [1, 2, 3, 4, 0] rfl)
abbrev rm_Rs_leastOf : Room := { frames := 2, cells := 0, slots := 0, locals := 45 }
set_option maxHeartbeats 4000000 in
set_option maxRecDepth 100000 in
theorem c_Rs_leastOf (l : Launch) (D : va_G) (cK : Nat → ClassId) (x xW : Nat) (xS : Int32) (xM : Nat) (xWf : Nat → Int32) (N : Nat) (v1 : Int32) (r : Int32) (hf : f_Rs_leastOf N xS xM xWf v1 = some r) : RdI l y_Rs_leastOf w_Rs_leastOf rm_Rs_leastOf D zz_cl (mt_ty cK RK2) [.ref x, .int v1] [(x, .inr (4, [.ref xW, .int xS])), (xW, .inl (cK 0, xM, .inl xWf))] r := by
  refine mk_RdI (cc := b_Rs_leastOf) (maxL := 3) (ty := .int) (by decide +kernel) rfl (Nat.le_of_ble_eq_true rfl) ?_
  intro p e s m below meth c args Q ls hx hb hml hown hts hK hP hret hl
  have hl : lv_has ls 3 [(0, .ref x), (1, .int v1)] := hl
  unfold f_Rs_leastOf at hf
  refine lv_aload_n hx hb d_Rs_leastOf_0 rfl (lv_at hl 0 rfl) ?_
  refine lv_iload_n hx hb d_Rs_leastOf_1 rfl (lv_at hl 1 rfl) ?_
  obtain ⟨r_2, hcl, hf⟩ := fn_e1 hf
  refine cv_RdI (rest := []) ⟨hx, hb, hml, hown, hts⟩ (c_Rs_allValuesOf l D cK x xW xS xM xWf N v1 r_2 hcl) (cwV 1 hts (zz_V ml_Rs_42 im_Rs_allValuesOf se_Rs_allValuesOf in_Rs co_Rs_allValuesOf) rfl rfl rfl ⟨rfl, hd_Rs_allValuesOf⟩ ⟨Nat.le_of_ble_eq_true rfl, Nat.le_of_ble_eq_true rfl⟩) hK hP [0, 1] rfl 0 rfl rfl rfl rfl hl.1 rfl (Nat.le_of_ble_eq_true rfl) d_Rs_leastOf_2 ⟨Nat.zero_le _, Nat.zero_le _⟩ ?_
  refine lv_istore_n (lv' := [(2, .int r_2), (0, .ref x), (1, .int v1)]) hx hb d_Rs_leastOf_5 rfl hl (by decide) rfl (fun ls hl => ?_)
  refine lv_iload_n hx hb d_Rs_leastOf_6 rfl (lv_at hl 0 rfl) ?_
  refine lv_if_ne (tgt := 15) hx hb d_Rs_leastOf_7 (by decide) (fun hc => ?_) (fun hc => ?_)
  · have hf := fn_f hc hf
    refine lv_iload_n hx hb d_Rs_leastOf_15 rfl (lv_at hl 0 rfl) ?_
    refine lv_iconst (v := 0) hx hb d_Rs_leastOf_16 (by decide) ?_
    obtain ⟨r_17, hcl, hf⟩ := fn_e1 hf
    refine cs_RdI (rest := []) ⟨hx, hb, hml, hown, hts⟩ (c_Rs_bitAt l D cK N r_2 0 r_17 hcl) (va_cwS 2 hts (zz_S ml_Rs_36 st_Rs_bitAt in_Rs co_Rs_bitAt) rfl rfl rfl hd_Rs_bitAt ⟨Nat.le_of_ble_eq_true rfl, Nat.le_of_ble_eq_true rfl⟩) hK hP [] rfl rfl hl.1 rfl (Nat.le_of_ble_eq_true rfl) d_Rs_leastOf_17 ⟨Nat.zero_le _, Nat.zero_le _⟩ ?_
    cases hf
    exact hret 20 _ rfl d_Rs_leastOf_20
  · have hf := fn_t hc hf
    refine lv_bipush (v := (-2)) hx hb d_Rs_leastOf_10 (by decide) ?_
    refine lv_goto (tgt := 20) hx hb d_Rs_leastOf_12 (by decide) ?_
    cases hf
    exact hret 20 _ rfl d_Rs_leastOf_20
abbrev rm_Rs_greatestOf : Room := { frames := 2, cells := 0, slots := 0, locals := 45 }
set_option maxHeartbeats 4000000 in
set_option maxRecDepth 100000 in
theorem c_Rs_greatestOf (l : Launch) (D : va_G) (cK : Nat → ClassId) (x xW : Nat) (xS : Int32) (xM : Nat) (xWf : Nat → Int32) (N : Nat) (v1 : Int32) (r : Int32) (hf : f_Rs_greatestOf N xS xM xWf v1 = some r) : RdI l y_Rs_greatestOf w_Rs_greatestOf rm_Rs_greatestOf D zz_cl (mt_ty cK RK2) [.ref x, .int v1] [(x, .inr (4, [.ref xW, .int xS])), (xW, .inl (cK 0, xM, .inl xWf))] r := by
  refine mk_RdI (cc := b_Rs_greatestOf) (maxL := 3) (ty := .int) (by decide +kernel) rfl (Nat.le_of_ble_eq_true rfl) ?_
  intro p e s m below meth c args Q ls hx hb hml hown hts hK hP hret hl
  have hl : lv_has ls 3 [(0, .ref x), (1, .int v1)] := hl
  unfold f_Rs_greatestOf at hf
  refine lv_aload_n hx hb d_Rs_greatestOf_0 rfl (lv_at hl 0 rfl) ?_
  refine lv_iload_n hx hb d_Rs_greatestOf_1 rfl (lv_at hl 1 rfl) ?_
  obtain ⟨r_2, hcl, hf⟩ := fn_e1 hf
  refine cv_RdI (rest := []) ⟨hx, hb, hml, hown, hts⟩ (c_Rs_allValuesOf l D cK x xW xS xM xWf N v1 r_2 hcl) (cwV 1 hts (zz_V ml_Rs_42 im_Rs_allValuesOf se_Rs_allValuesOf in_Rs co_Rs_allValuesOf) rfl rfl rfl ⟨rfl, hd_Rs_allValuesOf⟩ ⟨Nat.le_of_ble_eq_true rfl, Nat.le_of_ble_eq_true rfl⟩) hK hP [0, 1] rfl 0 rfl rfl rfl rfl hl.1 rfl (Nat.le_of_ble_eq_true rfl) d_Rs_greatestOf_2 ⟨Nat.zero_le _, Nat.zero_le _⟩ ?_
  refine lv_istore_n (lv' := [(2, .int r_2), (0, .ref x), (1, .int v1)]) hx hb d_Rs_greatestOf_5 rfl hl (by decide) rfl (fun ls hl => ?_)
  refine lv_iload_n hx hb d_Rs_greatestOf_6 rfl (lv_at hl 0 rfl) ?_
  refine lv_if_ne (tgt := 15) hx hb d_Rs_greatestOf_7 (by decide) (fun hc => ?_) (fun hc => ?_)
  · have hf := fn_f hc hf
    refine lv_iload_n hx hb d_Rs_greatestOf_15 rfl (lv_at hl 0 rfl) ?_
    refine lv_iload_n hx hb d_Rs_greatestOf_16 rfl (lv_at hl 0 rfl) ?_
    obtain ⟨r_17, hcl, hf⟩ := fn_e1 hf
    refine cs_RdI (rest := [.int r_2]) ⟨hx, hb, hml, hown, hts⟩ (c_Ji_bitCount l D cK r_2 r_17 hcl) (va_cwS 1 hts (zz_S ml_Rs_30 st_Ji_bitCount in_Ji co_Ji_bitCount) rfl rfl rfl hd_Ji_bitCount ⟨Nat.le_of_ble_eq_true rfl, Nat.le_of_ble_eq_true rfl⟩) hK hP [] rfl rfl hl.1 rfl (Nat.le_of_ble_eq_true rfl) d_Rs_greatestOf_17 ⟨Nat.zero_le _, Nat.zero_le _⟩ ?_
    refine lv_iconst (v := 1) hx hb d_Rs_greatestOf_20 (by decide) ?_
    refine lv_isub hx hb d_Rs_greatestOf_21 ?_
    obtain ⟨r_22, hcl, hf⟩ := fn_e1 hf
    refine cs_RdI (rest := []) ⟨hx, hb, hml, hown, hts⟩ (c_Rs_bitAt l D cK N r_2 (r_17 - 1) r_22 hcl) (va_cwS 2 hts (zz_S ml_Rs_36 st_Rs_bitAt in_Rs co_Rs_bitAt) rfl rfl rfl hd_Rs_bitAt ⟨Nat.le_of_ble_eq_true rfl, Nat.le_of_ble_eq_true rfl⟩) hK hP [] rfl rfl hl.1 rfl (Nat.le_of_ble_eq_true rfl) d_Rs_greatestOf_22 ⟨Nat.zero_le _, Nat.zero_le _⟩ ?_
    cases hf
    exact hret 25 _ rfl d_Rs_greatestOf_25
  · have hf := fn_t hc hf
    refine lv_bipush (v := (-2)) hx hb d_Rs_greatestOf_10 (by decide) ?_
    refine lv_goto (tgt := 25) hx hb d_Rs_greatestOf_12 (by decide) ?_
    cases hf
    exact hret 25 _ rfl d_Rs_greatestOf_25

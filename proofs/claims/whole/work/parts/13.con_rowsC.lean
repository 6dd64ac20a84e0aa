abbrev rm_C_step : Room := { frames := 0, cells := 0, slots := 0, locals := 0 }
set_option maxHeartbeats 4000000 in
set_option maxRecDepth 100000 in
theorem c_C_step (l : Launch) (D : va_G) (cK : Nat → ClassId) (cr lg qs se sr rt rb ow : Nat) (crN : Int32) (crL : Int32) (crQ : Int32)  (r : Int32) (o_crL : Int32) (hf : f_C_step crN crL = some (r, o_crL)) : WrI l y_C_step w_C_step rm_C_step D zz_cl (mt_ty cK RK2) [.ref cr] [(cr, .inr (5, [.int crN, .ref lg, .ref qs, .ref se, .ref sr, .ref rt, .ref rb, .ref ow, .int crL, .int crQ]))] [(cr, .inr (5, [.int crN, .ref lg, .ref qs, .ref se, .ref sr, .ref rt, .ref rb, .ref ow, .int o_crL, .int crQ]))] r := by
  refine mk_WrI (cc := b_C_step) (maxL := 1) (ty := .int) (by decide +kernel) rfl (Nat.le_of_ble_eq_true rfl) ?_
  intro p e s m below meth c args Q A ls hx hb hml hown hts hA hK hP hD hret hl
  have hS : va_S A s.heap s.heap [] := va_S.rf
  have hl : lv_has ls 1 [(0, .ref cr)] := hl
  unfold f_C_step at hf
  refine lv_aload_n hx hb d_C_step_0 rfl (lv_at hl 0 rfl) ?_
  refine va_get (D := D) (ci := 5) (v := .int crL) (C := RK5) (T := TK5) (N := 10) hx hb hts iwK5 hown hK hP 0 rfl rfl 8 (by decide) (hts _ fl_C_75) (fun _ h9 => h9) rfl d_C_step_1 ?_
  refine lv_aload_n hx hb d_C_step_4 rfl (lv_at hl 0 rfl) ?_
  refine va_get (D := D) (ci := 5) (v := .int crN) (C := RK5) (T := TK5) (N := 10) hx hb hts iwK5 hown hK hP 0 rfl rfl 0 (by decide) (hts _ fl_C_59) (fun _ h9 => h9) rfl d_C_step_5 ?_
  refine lv_iconst (v := 1) hx hb d_C_step_8 (by decide) ?_
  refine lv_isub hx hb d_C_step_9 ?_
  refine lv_icmp_lt (tgt := 16) hx hb d_C_step_10 (by decide) (fun hc => ?_) (fun hc => ?_)
  · have hf := fn_t hc hf
    refine lv_aload_n hx hb d_C_step_16 rfl (lv_at hl 0 rfl) ?_
    refine lv_dup hx hb d_C_step_17 rfl ?_
    refine va_get (D := D) (ci := 5) (v := .int crL) (C := RK5) (T := TK5) (N := 10) hx hb hts iwK5 hown hK hP 0 rfl rfl 8 (by decide) (hts _ fl_C_75) (fun _ h9 => h9) rfl d_C_step_18 ?_
    refine lv_iconst (v := 1) hx hb d_C_step_21 (by decide) ?_
    refine lv_iadd hx hb d_C_step_22 ?_
    refine va_put (D := D) (ci := 5) (v := .int (crL + 1)) (ty := .int) (C := RK5) (T := TK5) (N := 10) hx hb hts iwK5 tyK5 tyK5_ok nmK5 hown hK hP hD hS 0 rfl rfl 8 (by decide) (hts _ fl_C_75) (fun _ h9 => h9) rfl (by decide +kernel) rfl rfl (Nat.le_of_ble_eq_true rfl) d_C_step_23 (fun H locs hP hD hS => ?_)
    have hP : va_P D zz_cl [(cr, .inr (5, [.int crN, .ref lg, .ref qs, .ref se, .ref sr, .ref rt, .ref rb, .ref ow, .int (crL + 1), .int crQ]))] H := hP
    have hD : va_D A [(cr, .inr (5, [.int crN, .ref lg, .ref qs, .ref se, .ref sr, .ref rt, .ref rb, .ref ow, .int (crL + 1), .int crQ]))] := hD
    refine lv_aload_n hx hb d_C_step_26 rfl (lv_at hl 0 rfl) ?_
    refine va_get (D := D) (ci := 5) (v := .int (crL + 1)) (C := RK5) (T := TK5) (N := 10) hx hb hts iwK5 hown hK hP 0 rfl rfl 8 (by decide) (hts _ fl_C_75) (fun _ h9 => h9) rfl d_C_step_27 ?_
    cases hf
    exact hret _ _ 30 _ hP hD hS rfl d_C_step_30
  · have hf := fn_f hc hf
    refine lv_bipush (v := (-3)) hx hb d_C_step_13 (by decide) ?_
    cases hf
    exact hret _ _ 15 _ hP hD hS rfl d_C_step_15
abbrev rm_C_latest : Room := { frames := 0, cells := 0, slots := 0, locals := 0 }
set_option maxHeartbeats 4000000 in
set_option maxRecDepth 100000 in
theorem c_C_latest (l : Launch) (D : va_G) (cK : Nat → ClassId) (cr lg qs se sr rt rb ow : Nat) (crN : Int32) (crL : Int32) (crQ : Int32)  (r : Int32) (hf : f_C_latest crL = some r) : RdI l y_C_latest w_C_latest rm_C_latest D zz_cl (mt_ty cK RK2) [.ref cr] [(cr, .inr (5, [.int crN, .ref lg, .ref qs, .ref se, .ref sr, .ref rt, .ref rb, .ref ow, .int crL, .int crQ]))] r := by
  refine mk_RdI (cc := b_C_latest) (maxL := 1) (ty := .int) (by decide +kernel) rfl (Nat.le_of_ble_eq_true rfl) ?_
  intro p e s m below meth c args Q ls hx hb hml hown hts hK hP hret hl
  have hl : lv_has ls 1 [(0, .ref cr)] := hl
  unfold f_C_latest at hf
  refine lv_aload_n hx hb d_C_latest_0 rfl (lv_at hl 0 rfl) ?_
  refine va_get (D := D) (ci := 5) (v := .int crL) (C := RK5) (T := TK5) (N := 10) hx hb hts iwK5 hown hK hP 0 rfl rfl 8 (by decide) (hts _ fl_C_75) (fun _ h9 => h9) rfl d_C_latest_1 ?_
  cases hf
  exact hret 4 _ rfl d_C_latest_4
abbrev rm_C_isTriple : Room := { frames := 0, cells := 0, slots := 0, locals := 0 }
set_option maxHeartbeats 4000000 in
set_option maxRecDepth 100000 in
theorem c_C_isTriple (l : Launch) (D : va_G) (cK : Nat → ClassId)  (v0 : Int32) (v1 : Int32) (v2 : Int32) (r : Int32) (hf : f_C_isTriple v0 v1 v2 = some r) : RdI l y_C_isTriple w_C_isTriple rm_C_isTriple D zz_cl (mt_ty cK RK2) [.int v0, .int v1, .int v2] [] r := by
  refine mk_RdI (cc := b_C_isTriple) (maxL := 3) (ty := .boolean) (by decide +kernel) rfl (Nat.le_of_ble_eq_true rfl) ?_
  intro p e s m below meth c args Q ls hx hb hml hown hts hK hP hret hl
  have hl : lv_has ls 3 [(0, .int v0), (1, .int v1), (2, .int v2)] := hl
  unfold f_C_isTriple at hf
  refine lv_iload_n hx hb d_C_isTriple_0 rfl (lv_at hl 0 rfl) ?_
  refine lv_if_lt (tgt := 34) hx hb d_C_isTriple_1 (by decide) (fun hc => ?_) (fun hc => ?_)
  · have hf := fn_t hc hf
    refine lv_iconst (v := 0) hx hb d_C_isTriple_34 (by decide) ?_
    cases hf
    exact hret 35 _ rfl d_C_isTriple_35
  · have hf := fn_f hc hf
    refine lv_iload_n hx hb d_C_isTriple_4 rfl (lv_at hl 0 rfl) ?_
    refine lv_bipush (v := 16) hx hb d_C_isTriple_5 (by decide) ?_
    refine lv_icmp_ge (tgt := 34) hx hb d_C_isTriple_7 (by decide) (fun hc => ?_) (fun hc => ?_)
    · have hf := fn_t hc hf
      refine lv_iconst (v := 0) hx hb d_C_isTriple_34 (by decide) ?_
      cases hf
      exact hret 35 _ rfl d_C_isTriple_35
    · have hf := fn_f hc hf
      refine lv_iload_n hx hb d_C_isTriple_10 rfl (lv_at hl 1 rfl) ?_
      refine lv_if_lt (tgt := 34) hx hb d_C_isTriple_11 (by decide) (fun hc => ?_) (fun hc => ?_)
      · have hf := fn_t hc hf
        refine lv_iconst (v := 0) hx hb d_C_isTriple_34 (by decide) ?_
        cases hf
        exact hret 35 _ rfl d_C_isTriple_35
      · have hf := fn_f hc hf
        refine lv_iload_n hx hb d_C_isTriple_14 rfl (lv_at hl 1 rfl) ?_
        refine lv_bipush (v := 8) hx hb d_C_isTriple_15 (by decide) ?_
        refine lv_icmp_ge (tgt := 34) hx hb d_C_isTriple_17 (by decide) (fun hc => ?_) (fun hc => ?_)
        · have hf := fn_t hc hf
          refine lv_iconst (v := 0) hx hb d_C_isTriple_34 (by decide) ?_
          cases hf
          exact hret 35 _ rfl d_C_isTriple_35
        · have hf := fn_f hc hf
          refine lv_iload_n hx hb d_C_isTriple_20 rfl (lv_at hl 2 rfl) ?_
          refine lv_if_lt (tgt := 34) hx hb d_C_isTriple_21 (by decide) (fun hc => ?_) (fun hc => ?_)
          · have hf := fn_t hc hf
            refine lv_iconst (v := 0) hx hb d_C_isTriple_34 (by decide) ?_
            cases hf
            exact hret 35 _ rfl d_C_isTriple_35
          · have hf := fn_f hc hf
            refine lv_iload_n hx hb d_C_isTriple_24 rfl (lv_at hl 2 rfl) ?_
            refine lv_bipush (v := 16) hx hb d_C_isTriple_25 (by decide) ?_
            refine lv_icmp_ge (tgt := 34) hx hb d_C_isTriple_27 (by decide) (fun hc => ?_) (fun hc => ?_)
            · have hf := fn_t hc hf
              refine lv_iconst (v := 0) hx hb d_C_isTriple_34 (by decide) ?_
              cases hf
              exact hret 35 _ rfl d_C_isTriple_35
            · have hf := fn_f hc hf
              refine lv_iconst (v := 1) hx hb d_C_isTriple_30 (by decide) ?_
              refine lv_goto (tgt := 35) hx hb d_C_isTriple_31 (by decide) ?_
              cases hf
              exact hret 35 _ rfl d_C_isTriple_35
abbrev rm_C_tripleOf : Room := { frames := 0, cells := 0, slots := 0, locals := 0 }
set_option maxHeartbeats 4000000 in
set_option maxRecDepth 100000 in
theorem c_C_tripleOf (l : Launch) (D : va_G) (cK : Nat → ClassId)  (v0 : Int32) (v1 : Int32) (v2 : Int32) (r : Int32) (hf : f_C_tripleOf v0 v1 v2 = some r) : RdI l y_C_tripleOf w_C_tripleOf rm_C_tripleOf D zz_cl (mt_ty cK RK2) [.int v0, .int v1, .int v2] [] r := by
  refine mk_RdI (cc := b_C_tripleOf) (maxL := 3) (ty := .int) (by decide +kernel) rfl (Nat.le_of_ble_eq_true rfl) ?_
  intro p e s m below meth c args Q ls hx hb hml hown hts hK hP hret hl
  have hl : lv_has ls 3 [(0, .int v0), (1, .int v1), (2, .int v2)] := hl
  unfold f_C_tripleOf at hf
  refine lv_iload_n hx hb d_C_tripleOf_0 rfl (lv_at hl 0 rfl) ?_
  refine lv_bipush (v := 8) hx hb d_C_tripleOf_1 (by decide) ?_
  refine lv_imul hx hb d_C_tripleOf_3 ?_
  refine lv_iload_n hx hb d_C_tripleOf_4 rfl (lv_at hl 1 rfl) ?_
  refine lv_iadd hx hb d_C_tripleOf_5 ?_
  refine lv_bipush (v := 16) hx hb d_C_tripleOf_6 (by decide) ?_
  refine lv_imul hx hb d_C_tripleOf_8 ?_
  refine lv_iload_n hx hb d_C_tripleOf_9 rfl (lv_at hl 2 rfl) ?_
  refine lv_iadd hx hb d_C_tripleOf_10 ?_
  cases hf
  exact hret 11 _ rfl d_C_tripleOf_11
abbrev rm_C_isItem : Room := { frames := 0, cells := 0, slots := 0, locals := 0 }
set_option maxHeartbeats 4000000 in
set_option maxRecDepth 100000 in
theorem c_C_isItem (l : Launch) (D : va_G) (cK : Nat → ClassId)  (v0 : Int32) (v1 : Int32) (r : Int32) (hf : f_C_isItem v0 v1 = some r) : RdI l y_C_isItem w_C_isItem rm_C_isItem D zz_cl (mt_ty cK RK2) [.int v0, .int v1] [] r := by
  refine mk_RdI (cc := b_C_isItem) (maxL := 2) (ty := .boolean) (by decide +kernel) rfl (Nat.le_of_ble_eq_true rfl) ?_
  intro p e s m below meth c args Q ls hx hb hml hown hts hK hP hret hl
  have hl : lv_has ls 2 [(0, .int v0), (1, .int v1)] := hl
  unfold f_C_isItem at hf
  refine lv_iload_n hx hb d_C_isItem_0 rfl (lv_at hl 0 rfl) ?_
  refine lv_bipush (v := (-4)) hx hb d_C_isItem_1 (by decide) ?_
  refine lv_icmp_lt (tgt := 15) hx hb d_C_isItem_3 (by decide) (fun hc => ?_) (fun hc => ?_)
  · have hf := fn_t hc hf
    refine lv_iconst (v := 0) hx hb d_C_isItem_15 (by decide) ?_
    cases hf
    exact hret 16 _ rfl d_C_isItem_16
  · have hf := fn_f hc hf
    refine lv_iload_n hx hb d_C_isItem_6 rfl (lv_at hl 0 rfl) ?_
    refine lv_iload_n hx hb d_C_isItem_7 rfl (lv_at hl 1 rfl) ?_
    refine lv_icmp_ge (tgt := 15) hx hb d_C_isItem_8 (by decide) (fun hc => ?_) (fun hc => ?_)
    · have hf := fn_t hc hf
      refine lv_iconst (v := 0) hx hb d_C_isItem_15 (by decide) ?_
      cases hf
      exact hret 16 _ rfl d_C_isItem_16
    · have hf := fn_f hc hf
      refine lv_iconst (v := 1) hx hb d_C_isItem_11 (by decide) ?_
      refine lv_goto (tgt := 16) hx hb d_C_isItem_12 (by decide) ?_
      cases hf
      exact hret 16 _ rfl d_C_isItem_16
abbrev rm_C_isWindow : Room := { frames := 0, cells := 0, slots := 0, locals := 0 }
set_option maxHeartbeats 4000000 in
set_option maxRecDepth 100000 in
theorem c_C_isWindow (l : Launch) (D : va_G) (cK : Nat → ClassId)  (v0 : Int32) (r : Int32) (hf : f_C_isWindow v0 = some r) : RdI l y_C_isWindow w_C_isWindow rm_C_isWindow D zz_cl (mt_ty cK RK2) [.int v0] [] r := by
  refine mk_RdI (cc := b_C_isWindow) (maxL := 1) (ty := .boolean) (by decide +kernel) rfl (Nat.le_of_ble_eq_true rfl) ?_
  intro p e s m below meth c args Q ls hx hb hml hown hts hK hP hret hl
  have hl : lv_has ls 1 [(0, .int v0)] := hl
  unfold f_C_isWindow at hf
  refine lv_iload_n hx hb d_C_isWindow_0 rfl (lv_at hl 0 rfl) ?_
  refine lv_if_lt (tgt := 14) hx hb d_C_isWindow_1 (by decide) (fun hc => ?_) (fun hc => ?_)
  · have hf := fn_t hc hf
    refine lv_iconst (v := 0) hx hb d_C_isWindow_14 (by decide) ?_
    cases hf
    exact hret 15 _ rfl d_C_isWindow_15
  · have hf := fn_f hc hf
    refine lv_iload_n hx hb d_C_isWindow_4 rfl (lv_at hl 0 rfl) ?_
    refine lv_bipush (v := 62) hx hb d_C_isWindow_5 (by decide) ?_
    refine lv_icmp_gt (tgt := 14) hx hb d_C_isWindow_7 (by decide) (fun hc => ?_) (fun hc => ?_)
    · have hf := fn_t hc hf
      refine lv_iconst (v := 0) hx hb d_C_isWindow_14 (by decide) ?_
      cases hf
      exact hret 15 _ rfl d_C_isWindow_15
    · have hf := fn_f hc hf
      refine lv_iconst (v := 1) hx hb d_C_isWindow_10 (by decide) ?_
      refine lv_goto (tgt := 15) hx hb d_C_isWindow_11 (by decide) ?_
      cases hf
      exact hret 15 _ rfl d_C_isWindow_15
abbrev rm_C_isPast : Room := { frames := 0, cells := 0, slots := 0, locals := 0 }
set_option maxHeartbeats 4000000 in
set_option maxRecDepth 100000 in
theorem c_C_isPast (l : Launch) (D : va_G) (cK : Nat → ClassId) (cr lg qs se sr rt rb ow : Nat) (crN : Int32) (crL : Int32) (crQ : Int32) (v1 : Int32) (r : Int32) (hf : f_C_isPast crL v1 = some r) : RdI l y_C_isPast w_C_isPast rm_C_isPast D zz_cl (mt_ty cK RK2) [.ref cr, .int v1] [(cr, .inr (5, [.int crN, .ref lg, .ref qs, .ref se, .ref sr, .ref rt, .ref rb, .ref ow, .int crL, .int crQ]))] r := by
  refine mk_RdI (cc := b_C_isPast) (maxL := 2) (ty := .boolean) (by decide +kernel) rfl (Nat.le_of_ble_eq_true rfl) ?_
  intro p e s m below meth c args Q ls hx hb hml hown hts hK hP hret hl
  have hl : lv_has ls 2 [(0, .ref cr), (1, .int v1)] := hl
  unfold f_C_isPast at hf
  refine lv_iload_n hx hb d_C_isPast_0 rfl (lv_at hl 1 rfl) ?_
  refine lv_if_lt (tgt := 16) hx hb d_C_isPast_1 (by decide) (fun hc => ?_) (fun hc => ?_)
  · have hf := fn_t hc hf
    refine lv_iconst (v := 0) hx hb d_C_isPast_16 (by decide) ?_
    cases hf
    exact hret 17 _ rfl d_C_isPast_17
  · have hf := fn_f hc hf
    refine lv_iload_n hx hb d_C_isPast_4 rfl (lv_at hl 1 rfl) ?_
    refine lv_aload_n hx hb d_C_isPast_5 rfl (lv_at hl 0 rfl) ?_
    refine va_get (D := D) (ci := 5) (v := .int crL) (C := RK5) (T := TK5) (N := 10) hx hb hts iwK5 hown hK hP 0 rfl rfl 8 (by decide) (hts _ fl_C_75) (fun _ h9 => h9) rfl d_C_isPast_6 ?_
    refine lv_icmp_gt (tgt := 16) hx hb d_C_isPast_9 (by decide) (fun hc => ?_) (fun hc => ?_)
    · have hf := fn_t hc hf
      refine lv_iconst (v := 0) hx hb d_C_isPast_16 (by decide) ?_
      cases hf
      exact hret 17 _ rfl d_C_isPast_17
    · have hf := fn_f hc hf
      refine lv_iconst (v := 1) hx hb d_C_isPast_12 (by decide) ?_
      refine lv_goto (tgt := 17) hx hb d_C_isPast_13 (by decide) ?_
      cases hf
      exact hret 17 _ rfl d_C_isPast_17
abbrev rm_C_find : Room := { frames := 0, cells := 0, slots := 0, locals := 0 }
set_option maxHeartbeats 4000000 in
set_option maxRecDepth 100000 in
theorem c_C_find (l : Launch) (D : va_G) (cK : Nat → ClassId) (cr lg qs se sr rt rb ow : Nat) (crN : Int32) (crL : Int32) (crQ : Int32) (qsf : Nat → Option Nat) (v1 : Int32) (r : Option Nat) (hf : f_C_find crQ qsf v1 = some r) : RdQ l y_C_find w_C_find rm_C_find D zz_cl (mt_ty cK RK2) [.ref cr, .int v1] [(cr, .inr (5, [.int crN, .ref lg, .ref qs, .ref se, .ref sr, .ref rt, .ref rb, .ref ow, .int crL, .int crQ])), (qs, .inl (cK 3, 12, .inr (.inr (.inr (.inr qsf)))))] r := by
  refine mk_RdQ (cc := b_C_find) (maxL := 2) (Or.inl ⟨_, rfl⟩) (by decide +kernel) rfl (Nat.le_of_ble_eq_true rfl) ?_
  intro p e s m below meth c args Q ls hx hb hml hown hts hK hP hret hl
  have hl : lv_has ls 2 [(0, .ref cr), (1, .int v1)] := hl
  unfold f_C_find at hf
  refine lv_iload_n hx hb d_C_find_0 rfl (lv_at hl 1 rfl) ?_
  refine lv_if_lt (tgt := 21) hx hb d_C_find_1 (by decide) (fun hc => ?_) (fun hc => ?_)
  · have hf := fn_t hc hf
    refine lv_null hx hb d_C_find_21 ?_
    cases hf
    exact hret 22 _ d_C_find_22
  · have hf := fn_f hc hf
    refine lv_iload_n hx hb d_C_find_4 rfl (lv_at hl 1 rfl) ?_
    refine lv_aload_n hx hb d_C_find_5 rfl (lv_at hl 0 rfl) ?_
    refine va_get (D := D) (ci := 5) (v := .int crQ) (C := RK5) (T := TK5) (N := 10) hx hb hts iwK5 hown hK hP 0 rfl rfl 9 (by decide) (hts _ fl_C_92) (fun _ h9 => h9) rfl d_C_find_6 ?_
    refine lv_icmp_ge (tgt := 21) hx hb d_C_find_9 (by decide) (fun hc => ?_) (fun hc => ?_)
    · have hf := fn_t hc hf
      refine lv_null hx hb d_C_find_21 ?_
      cases hf
      exact hret 22 _ d_C_find_22
    · have hf := fn_f hc hf
      refine lv_aload_n hx hb d_C_find_12 rfl (lv_at hl 0 rfl) ?_
      refine va_get (D := D) (ci := 5) (v := .ref qs) (C := RK5) (T := TK5) (N := 10) hx hb hts iwK5 hown hK hP 0 rfl rfl 2 (by decide) (hts _ fl_C_18) (fun _ h9 => h9) rfl d_C_find_13 ?_
      refine lv_iload_n hx hb d_C_find_16 rfl (lv_at hl 1 rfl) ?_
      have hg := fn_g hf
      have hf := fn_t hg hf
      refine va_aldq hx hb hK hP 1 3 rfl rfl (fn_v hg) d_C_find_17 ?_
      refine lv_goto (tgt := 22) hx hb d_C_find_18 (by decide) ?_
      cases hf
      exact hret 22 _ d_C_find_22
abbrev rm_C_change : Room := { frames := 2, cells := 0, slots := 0, locals := 44 }
set_option maxHeartbeats 4000000 in
set_option maxRecDepth 100000 in
theorem c_C_change (l : Launch) (D : va_G) (cK : Nat → ClassId) (cr lg qs se sr rt rb ow lgA lgT lgC : Nat) (crN : Int32) (crL : Int32) (crQ : Int32) (lgS : Int32) (lgAf : Nat → Int32) (lgTf : Nat → Int32) (lgCf : Nat → Int32) (N : Nat) (v1 : Int32) (v2 : Int32) (v3 : Int32) (v4 : Int32) (r : Int32) (o_lgS : Int32) (o_lgAf : Nat → Int32) (o_lgTf : Nat → Int32) (o_lgCf : Nat → Int32) (hf : f_C_change N crL lgS lgAf lgTf lgCf v1 v2 v3 v4 = some (r, o_lgS, o_lgAf, o_lgTf, o_lgCf)) : WrI l y_C_change w_C_change rm_C_change D zz_cl (mt_ty cK RK2) [.ref cr, .int v1, .int v2, .int v3, .int v4] [(cr, .inr (5, [.int crN, .ref lg, .ref qs, .ref se, .ref sr, .ref rt, .ref rb, .ref ow, .int crL, .int crQ])), (lg, .inr (0, [.ref lgA, .ref lgT, .ref lgC, .int lgS])), (lgA, .inl (cK 0, 400, .inl lgAf)), (lgT, .inl (cK 0, 400, .inl lgTf)), (lgC, .inl (cK 1, 400, .inl lgCf))] [(cr, .inr (5, [.int crN, .ref lg, .ref qs, .ref se, .ref sr, .ref rt, .ref rb, .ref ow, .int crL, .int crQ])), (lg, .inr (0, [.ref lgA, .ref lgT, .ref lgC, .int o_lgS])), (lgA, .inl (cK 0, 400, .inl o_lgAf)), (lgT, .inl (cK 0, 400, .inl o_lgTf)), (lgC, .inl (cK 1, 400, .inl o_lgCf))] r := by
  refine mk_WrI (cc := b_C_change) (maxL := 7) (ty := .int) (by decide +kernel) rfl (Nat.le_of_ble_eq_true rfl) ?_
  intro p e s m below meth c args Q A ls hx hb hml hown hts hA hK hP hD hret hl
  have hS : va_S A s.heap s.heap [] := va_S.rf
  have hl : lv_has ls 7 [(0, .ref cr), (1, .int v1), (2, .int v2), (3, .int v3), (4, .int v4)] := hl
  unfold f_C_change at hf
  refine lv_iload_n hx hb d_C_change_0 rfl (lv_at hl 1 rfl) ?_
  refine lv_iload_n hx hb d_C_change_1 rfl (lv_at hl 2 rfl) ?_
  refine lv_iload_n hx hb d_C_change_2 rfl (lv_at hl 3 rfl) ?_
  obtain ⟨r_3, hcl, hf⟩ := fn_e1 hf
  refine cs_RdI (rest := []) ⟨hx, hb, hml, hown, hts⟩ (c_C_isTriple l D cK v1 v2 v3 r_3 hcl) (va_cwS 3 hts (zz_S ml_C_63 st_C_isTriple in_C co_C_isTriple) rfl rfl rfl hd_C_isTriple ⟨Nat.le_of_ble_eq_true rfl, Nat.le_of_ble_eq_true rfl⟩) hK hP [] rfl rfl hl.1 rfl (Nat.le_of_ble_eq_true rfl) d_C_change_3 ⟨Nat.zero_le _, Nat.zero_le _⟩ ?_
  refine lv_if_ne (tgt := 11) hx hb d_C_change_6 (by decide) (fun hc => ?_) (fun hc => ?_)
  · have hf := fn_f hc hf
    refine lv_aload_n hx hb d_C_change_11 rfl (lv_at hl 0 rfl) ?_
    refine va_get (D := D) (ci := 5) (v := .ref lg) (C := RK5) (T := TK5) (N := 10) hx hb hts iwK5 hown hK hP 0 rfl rfl 1 (by decide) (hts _ fl_C_12) (fun _ h9 => h9) rfl d_C_change_12 ?_
    obtain ⟨r_15, hcl, hf⟩ := fn_e1 hf
    refine cv_RdI (rest := []) ⟨hx, hb, hml, hown, hts⟩ (c_Lg_isFull l D cK lg lgA lgT lgC lgS r_15 hcl) (cwV 0 hts (zz_V ml_C_67 im_Lg_isFull se_Lg_isFull in_Lg co_Lg_isFull) rfl rfl rfl ⟨rfl, hd_Lg_isFull⟩ ⟨Nat.le_of_ble_eq_true rfl, Nat.le_of_ble_eq_true rfl⟩) hK hP [1] rfl 1 rfl rfl rfl rfl hl.1 rfl (Nat.le_of_ble_eq_true rfl) d_C_change_15 ⟨Nat.zero_le _, Nat.zero_le _⟩ ?_
    refine lv_if_eq (tgt := 24) hx hb d_C_change_18 (by decide) (fun hc => ?_) (fun hc => ?_)
    · have hf := fn_t hc hf
      refine lv_iload_n hx hb d_C_change_24 rfl (lv_at hl 1 rfl) ?_
      refine lv_iload_n hx hb d_C_change_25 rfl (lv_at hl 2 rfl) ?_
      refine lv_iload_n hx hb d_C_change_26 rfl (lv_at hl 3 rfl) ?_
      obtain ⟨r_27, hcl, hf⟩ := fn_e1 hf
      refine cs_RdI (rest := []) ⟨hx, hb, hml, hown, hts⟩ (c_C_tripleOf l D cK v1 v2 v3 r_27 hcl) (va_cwS 3 hts (zz_S ml_C_71 st_C_tripleOf in_C co_C_tripleOf) rfl rfl rfl hd_C_tripleOf ⟨Nat.le_of_ble_eq_true rfl, Nat.le_of_ble_eq_true rfl⟩) hK hP [] rfl rfl hl.1 rfl (Nat.le_of_ble_eq_true rfl) d_C_change_27 ⟨Nat.zero_le _, Nat.zero_le _⟩ ?_
      refine lv_istore (lv' := [(5, .int r_27), (0, .ref cr), (1, .int v1), (2, .int v2), (3, .int v3), (4, .int v4)]) hx hb d_C_change_30 hl (by decide) rfl (fun ls hl => ?_)
      refine lv_aload_n hx hb d_C_change_32 rfl (lv_at hl 1 rfl) ?_
      refine va_get (D := D) (ci := 5) (v := .ref lg) (C := RK5) (T := TK5) (N := 10) hx hb hts iwK5 hown hK hP 0 rfl rfl 1 (by decide) (hts _ fl_C_12) (fun _ h9 => h9) rfl d_C_change_33 ?_
      refine lv_aload_n hx hb d_C_change_36 rfl (lv_at hl 1 rfl) ?_
      refine va_get (D := D) (ci := 5) (v := .ref lg) (C := RK5) (T := TK5) (N := 10) hx hb hts iwK5 hown hK hP 0 rfl rfl 1 (by decide) (hts _ fl_C_12) (fun _ h9 => h9) rfl d_C_change_37 ?_
      refine lv_iload hx hb d_C_change_40 (lv_at hl 0 rfl) ?_
      refine lv_aload_n hx hb d_C_change_42 rfl (lv_at hl 1 rfl) ?_
      refine va_get (D := D) (ci := 5) (v := .int crL) (C := RK5) (T := TK5) (N := 10) hx hb hts iwK5 hown hK hP 0 rfl rfl 8 (by decide) (hts _ fl_C_75) (fun _ h9 => h9) rfl d_C_change_43 ?_
      obtain ⟨r_46, hcl, hf⟩ := fn_e1 hf
      refine cv_RdI (rest := [.ref lg]) ⟨hx, hb, hml, hown, hts⟩ (c_Lg_lastOf l D cK lg lgA lgT lgC lgS lgAf lgTf N r_27 crL r_46 hcl) (cwV 2 hts (zz_V ml_C_78 im_Lg_lastOf se_Lg_lastOf in_Lg co_Lg_lastOf) rfl rfl rfl ⟨rfl, hd_Lg_lastOf⟩ ⟨Nat.le_of_ble_eq_true rfl, Nat.le_of_ble_eq_true rfl⟩) hK hP [1, 2, 3] rfl 1 rfl rfl rfl rfl hl.1 rfl (Nat.le_of_ble_eq_true rfl) d_C_change_46 ⟨Nat.zero_le _, Nat.zero_le _⟩ ?_
      obtain ⟨r_49, hcl, hf⟩ := fn_e1 hf
      refine cv_RdI (rest := []) ⟨hx, hb, hml, hown, hts⟩ (c_Lg_comesAt l D cK lg lgA lgT lgC lgS lgCf r_46 r_49 hcl) (cwV 1 hts (zz_V ml_C_81 im_Lg_comesAt se_Lg_comesAt in_Lg co_Lg_comesAt) rfl rfl rfl ⟨rfl, hd_Lg_comesAt⟩ ⟨Nat.le_of_ble_eq_true rfl, Nat.le_of_ble_eq_true rfl⟩) hK hP [1, 4] rfl 1 rfl rfl rfl rfl hl.1 rfl (Nat.le_of_ble_eq_true rfl) d_C_change_49 ⟨Nat.zero_le _, Nat.zero_le _⟩ ?_
      refine lv_istore (lv' := [(6, .int r_49), (5, .int r_27), (0, .ref cr), (1, .int v1), (2, .int v2), (3, .int v3), (4, .int v4)]) hx hb d_C_change_52 hl (by decide) rfl (fun ls hl => ?_)
      refine lv_aload_n hx hb d_C_change_54 rfl (lv_at hl 2 rfl) ?_
      refine va_get (D := D) (ci := 5) (v := .ref lg) (C := RK5) (T := TK5) (N := 10) hx hb hts iwK5 hown hK hP 0 rfl rfl 1 (by decide) (hts _ fl_C_12) (fun _ h9 => h9) rfl d_C_change_55 ?_
      refine lv_aload_n hx hb d_C_change_58 rfl (lv_at hl 2 rfl) ?_
      refine va_get (D := D) (ci := 5) (v := .int crL) (C := RK5) (T := TK5) (N := 10) hx hb hts iwK5 hown hK hP 0 rfl rfl 8 (by decide) (hts _ fl_C_75) (fun _ h9 => h9) rfl d_C_change_59 ?_
      refine lv_iload hx hb d_C_change_62 (lv_at hl 1 rfl) ?_
      refine lv_iload hx hb d_C_change_64 (lv_at hl 6 rfl) ?_
      obtain ⟨r_66, lgS_66, lgAf_66, lgTf_66, lgCf_66, hcl, hf⟩ := fn_e5 hf
      refine cv_WrI (rest := []) (wr := [(cr, .inr (5, [.int crN, .ref lg, .ref qs, .ref se, .ref sr, .ref rt, .ref rb, .ref ow, .int crL, .int crQ]))]) (w' := [(cr, .inr (5, [.int crN, .ref lg, .ref qs, .ref se, .ref sr, .ref rt, .ref rb, .ref ow, .int crL, .int crQ])), (lg, .inr (0, [.ref lgA, .ref lgT, .ref lgC, .int lgS_66])), (lgA, .inl (cK 0, 400, .inl lgAf_66)), (lgT, .inl (cK 0, 400, .inl lgTf_66)), (lgC, .inl (cK 1, 400, .inl lgCf_66))]) ⟨hx, hb, hml, hown, hts⟩ (c_Lg_say l D cK lg lgA lgT lgC lgS lgAf lgTf lgCf N crL r_27 v4 r_66 lgS_66 lgAf_66 lgTf_66 lgCf_66 hcl) (cwV 3 hts (zz_V ml_C_85 im_Lg_say se_Lg_say in_Lg co_Lg_say) rfl rfl rfl ⟨rfl, hd_Lg_say⟩ ⟨Nat.le_of_ble_eq_true rfl, Nat.le_of_ble_eq_true rfl⟩) hK hP hD hS hA [1, 2, 3, 4] [0] [0, 1, 2, 3, 4] rfl (by decide) rfl (by decide) (by decide) rfl (by decide) 1 rfl rfl rfl rfl hl.1 rfl (Nat.le_of_ble_eq_true rfl) d_C_change_66 ⟨Nat.zero_le _, Nat.zero_le _⟩ (fun H locs hP hD hS => ?_)
      refine lv_pop hx hb d_C_change_69 rfl ?_
      refine lv_iload hx hb d_C_change_70 (lv_at hl 0 rfl) ?_
      refine lv_iload hx hb d_C_change_72 (lv_at hl 6 rfl) ?_
      refine lv_icmp_ne (tgt := 81) hx hb d_C_change_74 (by decide) (fun hc => ?_) (fun hc => ?_)
      · have hf := fn_f hc hf
        refine lv_iconst (v := 1) hx hb d_C_change_81 (by decide) ?_
        cases hf
        exact hret _ _ 82 _ hP hD hS rfl d_C_change_82
      · have hf := fn_t hc hf
        refine lv_iconst (v := 0) hx hb d_C_change_77 (by decide) ?_
        refine lv_goto (tgt := 82) hx hb d_C_change_78 (by decide) ?_
        cases hf
        exact hret _ _ 82 _ hP hD hS rfl d_C_change_82
    · have hf := fn_f hc hf
      refine lv_bipush (v := (-3)) hx hb d_C_change_21 (by decide) ?_
      cases hf
      exact hret _ _ 23 _ hP hD hS rfl d_C_change_23
  · have hf := fn_t hc hf
    refine lv_iconst (v := (-1)) hx hb d_C_change_9 (by decide) ?_
    cases hf
    exact hret _ _ 10 _ hP hD hS rfl d_C_change_10
abbrev rm_C_pattern : Room := { frames := 1, cells := 0, slots := 0, locals := 21 }
set_option maxHeartbeats 4000000 in
set_option maxRecDepth 100000 in
theorem c_C_pattern (l : Launch) (D : va_G) (cK : Nat → ClassId) (cr lg qs se sr rt rb ow : Nat) (crN : Int32) (crL : Int32) (crQ : Int32) (qsf : Nat → Option Nat) (v1 : Int32) (v2 : Int32) (v3 : Int32) (v4 : Int32) (r : Int32) (hf : f_C_pattern crQ qsf v1 v2 v3 v4 = some r) : RdI l y_C_pattern w_C_pattern rm_C_pattern D zz_cl (mt_ty cK RK2) [.ref cr, .int v1, .int v2, .int v3, .int v4] [(cr, .inr (5, [.int crN, .ref lg, .ref qs, .ref se, .ref sr, .ref rt, .ref rb, .ref ow, .int crL, .int crQ])), (qs, .inl (cK 3, 12, .inr (.inr (.inr (.inr qsf)))))] r := by
  refine mk_RdI (cc := b_C_pattern) (maxL := 6) (ty := .int) (by decide +kernel) rfl (Nat.le_of_ble_eq_true rfl) ?_
  intro p e s m below meth c args Q ls hx hb hml hown hts hK hP hret hl
  have hl : lv_has ls 6 [(0, .ref cr), (1, .int v1), (2, .int v2), (3, .int v3), (4, .int v4)] := hl
  unfold f_C_pattern at hf
  refine lv_aload_n hx hb d_C_pattern_0 rfl (lv_at hl 0 rfl) ?_
  refine lv_iload_n hx hb d_C_pattern_1 rfl (lv_at hl 1 rfl) ?_
  obtain ⟨r_2, hcl, hf⟩ := fn_e1 hf
  refine cv_RdQ (rest := []) ⟨hx, hb, hml, hown, hts⟩ (c_C_find l D cK cr lg qs se sr rt rb ow crN crL crQ qsf v1 r_2 hcl) (cwV 1 hts (zz_V ml_C_96 im_C_find se_C_find in_C co_C_find) rfl rfl rfl ⟨rfl, hd_C_find⟩ ⟨Nat.le_of_ble_eq_true rfl, Nat.le_of_ble_eq_true rfl⟩) hK hP [0, 1] rfl 0 rfl rfl rfl rfl hl.1 rfl (Nat.le_of_ble_eq_true rfl) d_C_pattern_2 ⟨Nat.zero_le _, Nat.zero_le _⟩ ?_
  rcases r_2 with _ | aq
  · have hf := fn_oN hf
    refine lv_astoreN (lv' := [(5, .null), (0, .ref cr), (1, .int v1), (2, .int v2), (3, .int v3), (4, .int v4)]) hx hb d_C_pattern_5 hl (by decide) rfl (fun ls hl => ?_)
    refine lv_aloadN hx hb d_C_pattern_7 (lv_at hl 0 rfl) ?_
    refine lv_ifnullN (tgt := 40) hx hb d_C_pattern_9 (by decide) ?_
    refine lv_iconst (v := (-1)) hx hb d_C_pattern_40 (by decide) ?_
    cases hf
    exact hret 41 _ rfl d_C_pattern_41
  · have hf := fn_oS hf
    exact fn_0 hf
abbrev rm_C_patternq : Room := { frames := 2, cells := 0, slots := 0, locals := 44 }
set_option maxHeartbeats 4000000 in
set_option maxRecDepth 100000 in
theorem c_C_patternq (l : Launch) (D : va_G) (cK : Nat → ClassId) (cr lg qs se sr rt rb ow q qI qL : Nat) (crN : Int32) (crL : Int32) (crQ : Int32) (qsf : Nat → Option Nat) (qW : Int32) (qP : Int32) (qV : Int32) (qIf : Nat → Int32) (qLf : Nat → Int32) (v1 : Int32) (v2 : Int32) (v3 : Int32) (v4 : Int32) (r : Int32) (o_qP : Int32) (o_qV : Int32) (o_qIf : Nat → Int32) (o_qLf : Nat → Int32) (hf : f_C_patternq q crQ qsf qP qV qIf qLf v1 v2 v3 v4 = some (r, o_qP, o_qV, o_qIf, o_qLf)) : WrI l y_C_pattern w_C_pattern rm_C_patternq D zz_cl (mt_ty cK RK2) [.ref cr, .int v1, .int v2, .int v3, .int v4] [(cr, .inr (5, [.int crN, .ref lg, .ref qs, .ref se, .ref sr, .ref rt, .ref rb, .ref ow, .int crL, .int crQ])), (qs, .inl (cK 3, 12, .inr (.inr (.inr (.inr qsf))))), (q, .inr (2, [.ref qI, .ref qL, .int qW, .int qP, .int qV])), (qI, .inl (cK 0, 9, .inl qIf)), (qL, .inl (cK 0, 3, .inl qLf))] [(cr, .inr (5, [.int crN, .ref lg, .ref qs, .ref se, .ref sr, .ref rt, .ref rb, .ref ow, .int crL, .int crQ])), (qs, .inl (cK 3, 12, .inr (.inr (.inr (.inr qsf))))), (q, .inr (2, [.ref qI, .ref qL, .int qW, .int o_qP, .int o_qV])), (qI, .inl (cK 0, 9, .inl o_qIf)), (qL, .inl (cK 0, 3, .inl o_qLf))] r := by
  refine mk_WrI (cc := b_C_pattern) (maxL := 6) (ty := .int) (by decide +kernel) rfl (Nat.le_of_ble_eq_true rfl) ?_
  intro p e s m below meth c args Q A ls hx hb hml hown hts hA hK hP hD hret hl
  have hS : va_S A s.heap s.heap [] := va_S.rf
  have hl : lv_has ls 6 [(0, .ref cr), (1, .int v1), (2, .int v2), (3, .int v3), (4, .int v4)] := hl
  unfold f_C_patternq at hf
  refine lv_aload_n hx hb d_C_pattern_0 rfl (lv_at hl 0 rfl) ?_
  refine lv_iload_n hx hb d_C_pattern_1 rfl (lv_at hl 1 rfl) ?_
  obtain ⟨r_2, hcl, hf⟩ := fn_e1 hf
  refine cv_RdQ (rest := []) ⟨hx, hb, hml, hown, hts⟩ (c_C_find l D cK cr lg qs se sr rt rb ow crN crL crQ qsf v1 r_2 hcl) (cwV 1 hts (zz_V ml_C_96 im_C_find se_C_find in_C co_C_find) rfl rfl rfl ⟨rfl, hd_C_find⟩ ⟨Nat.le_of_ble_eq_true rfl, Nat.le_of_ble_eq_true rfl⟩) hK hP [0, 1] rfl 0 rfl rfl rfl rfl hl.1 rfl (Nat.le_of_ble_eq_true rfl) d_C_pattern_2 ⟨Nat.zero_le _, Nat.zero_le _⟩ ?_
  rcases r_2 with _ | aq
  · have hf := fn_oN hf
    refine lv_astoreN (lv' := [(5, .null), (0, .ref cr), (1, .int v1), (2, .int v2), (3, .int v3), (4, .int v4)]) hx hb d_C_pattern_5 hl (by decide) rfl (fun ls hl => ?_)
    refine lv_aloadN hx hb d_C_pattern_7 (lv_at hl 0 rfl) ?_
    refine lv_ifnullN (tgt := 40) hx hb d_C_pattern_9 (by decide) ?_
    refine lv_iconst (v := (-1)) hx hb d_C_pattern_40 (by decide) ?_
    cases hf
    exact hret _ _ 41 _ hP hD hS rfl d_C_pattern_41
  · have hf := fn_oS hf
    have hg := fn_g hf
    have hf := fn_t hg hf
    rw [hg]
    refine lv_astore (lv' := [(5, .ref q), (0, .ref cr), (1, .int v1), (2, .int v2), (3, .int v3), (4, .int v4)]) hx hb d_C_pattern_5 hl (by decide) rfl (fun ls hl => ?_)
    refine lv_aload hx hb d_C_pattern_7 (lv_at hl 0 rfl) ?_
    refine lv_ifnull hx hb d_C_pattern_9 ?_
    refine lv_iload_n hx hb d_C_pattern_12 rfl (lv_at hl 3 rfl) ?_
    refine lv_bipush (v := 16) hx hb d_C_pattern_13 (by decide) ?_
    obtain ⟨r_15, hcl, hf⟩ := fn_e1 hf
    refine cs_RdI (rest := []) ⟨hx, hb, hml, hown, hts⟩ (c_C_isItem l D cK v2 16 r_15 hcl) (va_cwS 2 hts (zz_S ml_C_100 st_C_isItem in_C co_C_isItem) rfl rfl rfl hd_C_isItem ⟨Nat.le_of_ble_eq_true rfl, Nat.le_of_ble_eq_true rfl⟩) hK hP [] rfl rfl hl.1 rfl (Nat.le_of_ble_eq_true rfl) d_C_pattern_15 ⟨Nat.zero_le _, Nat.zero_le _⟩ ?_
    refine lv_if_eq (tgt := 40) hx hb d_C_pattern_18 (by decide) (fun hc => ?_) (fun hc => ?_)
    · have hf := fn_t hc hf
      refine lv_iconst (v := (-1)) hx hb d_C_pattern_40 (by decide) ?_
      cases hf
      exact hret _ _ 41 _ hP hD hS rfl d_C_pattern_41
    · have hf := fn_f hc hf
      refine lv_iload_n hx hb d_C_pattern_21 rfl (lv_at hl 4 rfl) ?_
      refine lv_bipush (v := 8) hx hb d_C_pattern_22 (by decide) ?_
      obtain ⟨r_24, hcl, hf⟩ := fn_e1 hf
      refine cs_RdI (rest := []) ⟨hx, hb, hml, hown, hts⟩ (c_C_isItem l D cK v3 8 r_24 hcl) (va_cwS 2 hts (zz_S ml_C_100 st_C_isItem in_C co_C_isItem) rfl rfl rfl hd_C_isItem ⟨Nat.le_of_ble_eq_true rfl, Nat.le_of_ble_eq_true rfl⟩) hK hP [] rfl rfl hl.1 rfl (Nat.le_of_ble_eq_true rfl) d_C_pattern_24 ⟨Nat.zero_le _, Nat.zero_le _⟩ ?_
      refine lv_if_eq (tgt := 40) hx hb d_C_pattern_27 (by decide) (fun hc => ?_) (fun hc => ?_)
      · have hf := fn_t hc hf
        refine lv_iconst (v := (-1)) hx hb d_C_pattern_40 (by decide) ?_
        cases hf
        exact hret _ _ 41 _ hP hD hS rfl d_C_pattern_41
      · have hf := fn_f hc hf
        refine lv_iload hx hb d_C_pattern_30 (lv_at hl 5 rfl) ?_
        refine lv_bipush (v := 16) hx hb d_C_pattern_32 (by decide) ?_
        obtain ⟨r_34, hcl, hf⟩ := fn_e1 hf
        refine cs_RdI (rest := []) ⟨hx, hb, hml, hown, hts⟩ (c_C_isItem l D cK v4 16 r_34 hcl) (va_cwS 2 hts (zz_S ml_C_100 st_C_isItem in_C co_C_isItem) rfl rfl rfl hd_C_isItem ⟨Nat.le_of_ble_eq_true rfl, Nat.le_of_ble_eq_true rfl⟩) hK hP [] rfl rfl hl.1 rfl (Nat.le_of_ble_eq_true rfl) d_C_pattern_34 ⟨Nat.zero_le _, Nat.zero_le _⟩ ?_
        refine lv_if_ne (tgt := 42) hx hb d_C_pattern_37 (by decide) (fun hc => ?_) (fun hc => ?_)
        · have hf := fn_f hc hf
          refine lv_aload hx hb d_C_pattern_42 (lv_at hl 0 rfl) ?_
          refine lv_iload_n hx hb d_C_pattern_44 rfl (lv_at hl 3 rfl) ?_
          refine lv_iload_n hx hb d_C_pattern_45 rfl (lv_at hl 4 rfl) ?_
          refine lv_iload hx hb d_C_pattern_46 (lv_at hl 5 rfl) ?_
          obtain ⟨r_48, qP_48, qV_48, qIf_48, qLf_48, hcl, hf⟩ := fn_e5 hf
          refine cv_WrI (rest := []) (wr := [(cr, .inr (5, [.int crN, .ref lg, .ref qs, .ref se, .ref sr, .ref rt, .ref rb, .ref ow, .int crL, .int crQ])), (qs, .inl (cK 3, 12, .inr (.inr (.inr (.inr qsf)))))]) (w' := [(cr, .inr (5, [.int crN, .ref lg, .ref qs, .ref se, .ref sr, .ref rt, .ref rb, .ref ow, .int crL, .int crQ])), (qs, .inl (cK 3, 12, .inr (.inr (.inr (.inr qsf))))), (q, .inr (2, [.ref qI, .ref qL, .int qW, .int qP_48, .int qV_48])), (qI, .inl (cK 0, 9, .inl qIf_48)), (qL, .inl (cK 0, 3, .inl qLf_48))]) ⟨hx, hb, hml, hown, hts⟩ (c_Qu_add l D cK q qI qL qW qP qV qIf qLf v2 v3 v4 r_48 qP_48 qV_48 qIf_48 qLf_48 hcl) (cwV 3 hts (zz_V ml_C_104 im_Qu_add se_Qu_add in_Qu co_Qu_add) rfl rfl rfl ⟨rfl, hd_Qu_add⟩ ⟨Nat.le_of_ble_eq_true rfl, Nat.le_of_ble_eq_true rfl⟩) hK hP hD hS hA [2, 3, 4] [0, 1] [0, 1, 2, 3, 4] rfl (by decide) rfl (by decide) (by decide) rfl (by decide) 2 rfl rfl rfl rfl hl.1 rfl (Nat.le_of_ble_eq_true rfl) d_C_pattern_48 ⟨Nat.zero_le _, Nat.zero_le _⟩ (fun H locs hP hD hS => ?_)
          refine lv_if_eq (tgt := 62) hx hb d_C_pattern_51 (by decide) (fun hc => ?_) (fun hc => ?_)
          · have hf := fn_t hc hf
            refine lv_bipush (v := (-3)) hx hb d_C_pattern_62 (by decide) ?_
            cases hf
            exact hret _ _ 64 _ hP hD hS rfl d_C_pattern_64
          · have hf := fn_f hc hf
            refine lv_aload hx hb d_C_pattern_54 (lv_at hl 0 rfl) ?_
            refine va_get (D := D) (ci := 2) (v := .int qP_48) (C := RK2) (T := TK2) (N := 5) hx hb hts iwK2 hown hK hP 2 rfl rfl 3 (by decide) (hts _ fl_C_107) (fun _ h9 => h9) rfl d_C_pattern_56 ?_
            refine lv_goto (tgt := 64) hx hb d_C_pattern_59 (by decide) ?_
            cases hf
            exact hret _ _ 64 _ hP hD hS rfl d_C_pattern_64
        · have hf := fn_t hc hf
          refine lv_iconst (v := (-1)) hx hb d_C_pattern_40 (by decide) ?_
          cases hf
          exact hret _ _ 41 _ hP hD hS rfl d_C_pattern_41
abbrev rm_C_window : Room := { frames := 1, cells := 0, slots := 0, locals := 21 }
set_option maxHeartbeats 4000000 in
set_option maxRecDepth 100000 in
theorem c_C_window (l : Launch) (D : va_G) (cK : Nat → ClassId) (cr lg qs se sr rt rb ow : Nat) (crN : Int32) (crL : Int32) (crQ : Int32) (qsf : Nat → Option Nat) (v1 : Int32) (v2 : Int32) (r : Int32) (hf : f_C_window crQ qsf v1 v2 = some r) : RdI l y_C_window w_C_window rm_C_window D zz_cl (mt_ty cK RK2) [.ref cr, .int v1, .int v2] [(cr, .inr (5, [.int crN, .ref lg, .ref qs, .ref se, .ref sr, .ref rt, .ref rb, .ref ow, .int crL, .int crQ])), (qs, .inl (cK 3, 12, .inr (.inr (.inr (.inr qsf)))))] r := by
  refine mk_RdI (cc := b_C_window) (maxL := 5) (ty := .int) (by decide +kernel) rfl (Nat.le_of_ble_eq_true rfl) ?_
  intro p e s m below meth c args Q ls hx hb hml hown hts hK hP hret hl
  have hl : lv_has ls 5 [(0, .ref cr), (1, .int v1), (2, .int v2)] := hl
  unfold f_C_window at hf
  refine lv_aload_n hx hb d_C_window_0 rfl (lv_at hl 0 rfl) ?_
  refine lv_iload_n hx hb d_C_window_1 rfl (lv_at hl 1 rfl) ?_
  obtain ⟨r_2, hcl, hf⟩ := fn_e1 hf
  refine cv_RdQ (rest := []) ⟨hx, hb, hml, hown, hts⟩ (c_C_find l D cK cr lg qs se sr rt rb ow crN crL crQ qsf v1 r_2 hcl) (cwV 1 hts (zz_V ml_C_96 im_C_find se_C_find in_C co_C_find) rfl rfl rfl ⟨rfl, hd_C_find⟩ ⟨Nat.le_of_ble_eq_true rfl, Nat.le_of_ble_eq_true rfl⟩) hK hP [0, 1] rfl 0 rfl rfl rfl rfl hl.1 rfl (Nat.le_of_ble_eq_true rfl) d_C_window_2 ⟨Nat.zero_le _, Nat.zero_le _⟩ ?_
  rcases r_2 with _ | aq
  · have hf := fn_oN hf
    refine lv_astore_nN (lv' := [(3, .null), (0, .ref cr), (1, .int v1), (2, .int v2)]) hx hb d_C_window_5 rfl hl (by decide) rfl (fun ls hl => ?_)
    refine lv_aload_nN hx hb d_C_window_6 rfl (lv_at hl 0 rfl) ?_
    refine lv_ifnullN (tgt := 17) hx hb d_C_window_7 (by decide) ?_
    refine lv_iconst (v := (-1)) hx hb d_C_window_17 (by decide) ?_
    cases hf
    exact hret 18 _ rfl d_C_window_18
  · have hf := fn_oS hf
    exact fn_0 hf
abbrev rm_C_windowq : Room := { frames := 1, cells := 0, slots := 0, locals := 21 }
set_option maxHeartbeats 4000000 in
set_option maxRecDepth 100000 in
theorem c_C_windowq (l : Launch) (D : va_G) (cK : Nat → ClassId) (cr lg qs se sr rt rb ow q qI qL : Nat) (crN : Int32) (crL : Int32) (crQ : Int32) (qsf : Nat → Option Nat) (qW : Int32) (qP : Int32) (qV : Int32) (v1 : Int32) (v2 : Int32) (r : Int32) (o_qW : Int32) (hf : f_C_windowq q crQ qsf qW v1 v2 = some (r, o_qW)) : WrI l y_C_window w_C_window rm_C_windowq D zz_cl (mt_ty cK RK2) [.ref cr, .int v1, .int v2] [(cr, .inr (5, [.int crN, .ref lg, .ref qs, .ref se, .ref sr, .ref rt, .ref rb, .ref ow, .int crL, .int crQ])), (qs, .inl (cK 3, 12, .inr (.inr (.inr (.inr qsf))))), (q, .inr (2, [.ref qI, .ref qL, .int qW, .int qP, .int qV]))] [(cr, .inr (5, [.int crN, .ref lg, .ref qs, .ref se, .ref sr, .ref rt, .ref rb, .ref ow, .int crL, .int crQ])), (qs, .inl (cK 3, 12, .inr (.inr (.inr (.inr qsf))))), (q, .inr (2, [.ref qI, .ref qL, .int o_qW, .int qP, .int qV]))] r := by
  refine mk_WrI (cc := b_C_window) (maxL := 5) (ty := .int) (by decide +kernel) rfl (Nat.le_of_ble_eq_true rfl) ?_
  intro p e s m below meth c args Q A ls hx hb hml hown hts hA hK hP hD hret hl
  have hS : va_S A s.heap s.heap [] := va_S.rf
  have hl : lv_has ls 5 [(0, .ref cr), (1, .int v1), (2, .int v2)] := hl
  unfold f_C_windowq at hf
  refine lv_aload_n hx hb d_C_window_0 rfl (lv_at hl 0 rfl) ?_
  refine lv_iload_n hx hb d_C_window_1 rfl (lv_at hl 1 rfl) ?_
  obtain ⟨r_2, hcl, hf⟩ := fn_e1 hf
  refine cv_RdQ (rest := []) ⟨hx, hb, hml, hown, hts⟩ (c_C_find l D cK cr lg qs se sr rt rb ow crN crL crQ qsf v1 r_2 hcl) (cwV 1 hts (zz_V ml_C_96 im_C_find se_C_find in_C co_C_find) rfl rfl rfl ⟨rfl, hd_C_find⟩ ⟨Nat.le_of_ble_eq_true rfl, Nat.le_of_ble_eq_true rfl⟩) hK hP [0, 1] rfl 0 rfl rfl rfl rfl hl.1 rfl (Nat.le_of_ble_eq_true rfl) d_C_window_2 ⟨Nat.zero_le _, Nat.zero_le _⟩ ?_
  rcases r_2 with _ | aq
  · have hf := fn_oN hf
    refine lv_astore_nN (lv' := [(3, .null), (0, .ref cr), (1, .int v1), (2, .int v2)]) hx hb d_C_window_5 rfl hl (by decide) rfl (fun ls hl => ?_)
    refine lv_aload_nN hx hb d_C_window_6 rfl (lv_at hl 0 rfl) ?_
    refine lv_ifnullN (tgt := 17) hx hb d_C_window_7 (by decide) ?_
    refine lv_iconst (v := (-1)) hx hb d_C_window_17 (by decide) ?_
    cases hf
    exact hret _ _ 18 _ hP hD hS rfl d_C_window_18
  · have hf := fn_oS hf
    have hg := fn_g hf
    have hf := fn_t hg hf
    rw [hg]
    refine lv_astore_n (lv' := [(3, .ref q), (0, .ref cr), (1, .int v1), (2, .int v2)]) hx hb d_C_window_5 rfl hl (by decide) rfl (fun ls hl => ?_)
    refine lv_aload_n hx hb d_C_window_6 rfl (lv_at hl 0 rfl) ?_
    refine lv_ifnull hx hb d_C_window_7 ?_
    refine lv_iload_n hx hb d_C_window_10 rfl (lv_at hl 3 rfl) ?_
    obtain ⟨r_11, hcl, hf⟩ := fn_e1 hf
    refine cs_RdI (rest := []) ⟨hx, hb, hml, hown, hts⟩ (c_C_isWindow l D cK v2 r_11 hcl) (va_cwS 1 hts (zz_S ml_C_89 st_C_isWindow in_C co_C_isWindow) rfl rfl rfl hd_C_isWindow ⟨Nat.le_of_ble_eq_true rfl, Nat.le_of_ble_eq_true rfl⟩) hK hP [] rfl rfl hl.1 rfl (Nat.le_of_ble_eq_true rfl) d_C_window_11 ⟨Nat.zero_le _, Nat.zero_le _⟩ ?_
    refine lv_if_ne (tgt := 19) hx hb d_C_window_14 (by decide) (fun hc => ?_) (fun hc => ?_)
    · have hf := fn_f hc hf
      refine lv_aload_n hx hb d_C_window_19 rfl (lv_at hl 0 rfl) ?_
      refine va_get (D := D) (ci := 2) (v := .int qW) (C := RK2) (T := TK2) (N := 5) hx hb hts iwK2 hown hK hP 2 rfl rfl 2 (by decide) (hts _ fl_C_110) (fun _ h9 => h9) rfl d_C_window_20 ?_
      refine lv_istore (lv' := [(4, .int qW), (3, .ref q), (0, .ref cr), (1, .int v1), (2, .int v2)]) hx hb d_C_window_23 hl (by decide) rfl (fun ls hl => ?_)
      refine lv_aload_n hx hb d_C_window_25 rfl (lv_at hl 1 rfl) ?_
      refine lv_iload_n hx hb d_C_window_26 rfl (lv_at hl 4 rfl) ?_
      refine va_put (D := D) (ci := 2) (v := .int v2) (ty := .int) (C := RK2) (T := TK2) (N := 5) hx hb hts iwK2 tyK2 tyK2_ok nmK2 hown hK hP hD hS 2 rfl rfl 2 (by decide) (hts _ fl_C_110) (fun _ h9 => h9) rfl (by decide +kernel) rfl rfl (Nat.le_of_ble_eq_true rfl) d_C_window_27 (fun H locs hP hD hS => ?_)
      have hP : va_P D zz_cl [(cr, .inr (5, [.int crN, .ref lg, .ref qs, .ref se, .ref sr, .ref rt, .ref rb, .ref ow, .int crL, .int crQ])), (qs, .inl (cK 3, 12, .inr (.inr (.inr (.inr qsf))))), (q, .inr (2, [.ref qI, .ref qL, .int v2, .int qP, .int qV]))] H := hP
      have hD : va_D A [(cr, .inr (5, [.int crN, .ref lg, .ref qs, .ref se, .ref sr, .ref rt, .ref rb, .ref ow, .int crL, .int crQ])), (qs, .inl (cK 3, 12, .inr (.inr (.inr (.inr qsf))))), (q, .inr (2, [.ref qI, .ref qL, .int v2, .int qP, .int qV]))] := hD
      refine lv_iload hx hb d_C_window_30 (lv_at hl 0 rfl) ?_
      cases hf
      exact hret _ _ 32 _ hP hD hS rfl d_C_window_32
    · have hf := fn_t hc hf
      refine lv_iconst (v := (-1)) hx hb d_C_window_17 (by decide) ?_
      cases hf
      exact hret _ _ 18 _ hP hD hS rfl d_C_window_18
abbrev rm_C_there : Room := { frames := 2, cells := 0, slots := 0, locals := 42 }
set_option maxHeartbeats 4000000 in
set_option maxRecDepth 100000 in
theorem c_C_there (l : Launch) (D : va_G) (cK : Nat → ClassId) (cr lg qs se sr rt rb ow lgA lgT lgC : Nat) (crN : Int32) (crL : Int32) (crQ : Int32) (lgS : Int32) (lgAf : Nat → Int32) (lgTf : Nat → Int32) (lgCf : Nat → Int32) (N : Nat) (v1 : Int32) (v2 : Int32) (v3 : Int32) (v4 : Int32) (r : Int32) (hf : f_C_there N crL lgS lgAf lgTf lgCf v1 v2 v3 v4 = some r) : RdI l y_C_there w_C_there rm_C_there D zz_cl (mt_ty cK RK2) [.ref cr, .int v1, .int v2, .int v3, .int v4] [(cr, .inr (5, [.int crN, .ref lg, .ref qs, .ref se, .ref sr, .ref rt, .ref rb, .ref ow, .int crL, .int crQ])), (lg, .inr (0, [.ref lgA, .ref lgT, .ref lgC, .int lgS])), (lgA, .inl (cK 0, 400, .inl lgAf)), (lgT, .inl (cK 0, 400, .inl lgTf)), (lgC, .inl (cK 1, 400, .inl lgCf))] r := by
  refine mk_RdI (cc := b_C_there) (maxL := 5) (ty := .int) (by decide +kernel) rfl (Nat.le_of_ble_eq_true rfl) ?_
  intro p e s m below meth c args Q ls hx hb hml hown hts hK hP hret hl
  have hl : lv_has ls 5 [(0, .ref cr), (1, .int v1), (2, .int v2), (3, .int v3), (4, .int v4)] := hl
  unfold f_C_there at hf
  refine lv_aload_n hx hb d_C_there_0 rfl (lv_at hl 0 rfl) ?_
  refine lv_iload_n hx hb d_C_there_1 rfl (lv_at hl 1 rfl) ?_
  obtain ⟨r_2, hcl, hf⟩ := fn_e1 hf
  refine cv_RdI (rest := []) ⟨hx, hb, hml, hown, hts⟩ (c_C_isPast l D cK cr lg qs se sr rt rb ow crN crL crQ v1 r_2 hcl) (cwV 1 hts (zz_V ml_C_113 im_C_isPast se_C_isPast in_C co_C_isPast) rfl rfl rfl ⟨rfl, hd_C_isPast⟩ ⟨Nat.le_of_ble_eq_true rfl, Nat.le_of_ble_eq_true rfl⟩) hK hP [0] rfl 0 rfl rfl rfl rfl hl.1 rfl (Nat.le_of_ble_eq_true rfl) d_C_there_2 ⟨Nat.zero_le _, Nat.zero_le _⟩ ?_
  refine lv_if_eq (tgt := 18) hx hb d_C_there_5 (by decide) (fun hc => ?_) (fun hc => ?_)
  · have hf := fn_t hc hf
    refine lv_iconst (v := (-1)) hx hb d_C_there_18 (by decide) ?_
    cases hf
    exact hret 19 _ rfl d_C_there_19
  · have hf := fn_f hc hf
    refine lv_iload_n hx hb d_C_there_8 rfl (lv_at hl 2 rfl) ?_
    refine lv_iload_n hx hb d_C_there_9 rfl (lv_at hl 3 rfl) ?_
    refine lv_iload hx hb d_C_there_10 (lv_at hl 4 rfl) ?_
    obtain ⟨r_12, hcl, hf⟩ := fn_e1 hf
    refine cs_RdI (rest := []) ⟨hx, hb, hml, hown, hts⟩ (c_C_isTriple l D cK v2 v3 v4 r_12 hcl) (va_cwS 3 hts (zz_S ml_C_63 st_C_isTriple in_C co_C_isTriple) rfl rfl rfl hd_C_isTriple ⟨Nat.le_of_ble_eq_true rfl, Nat.le_of_ble_eq_true rfl⟩) hK hP [] rfl rfl hl.1 rfl (Nat.le_of_ble_eq_true rfl) d_C_there_12 ⟨Nat.zero_le _, Nat.zero_le _⟩ ?_
    refine lv_if_ne (tgt := 20) hx hb d_C_there_15 (by decide) (fun hc => ?_) (fun hc => ?_)
    · have hf := fn_f hc hf
      refine lv_aload_n hx hb d_C_there_20 rfl (lv_at hl 0 rfl) ?_
      refine va_get (D := D) (ci := 5) (v := .ref lg) (C := RK5) (T := TK5) (N := 10) hx hb hts iwK5 hown hK hP 0 rfl rfl 1 (by decide) (hts _ fl_C_12) (fun _ h9 => h9) rfl d_C_there_21 ?_
      refine lv_aload_n hx hb d_C_there_24 rfl (lv_at hl 0 rfl) ?_
      refine va_get (D := D) (ci := 5) (v := .ref lg) (C := RK5) (T := TK5) (N := 10) hx hb hts iwK5 hown hK hP 0 rfl rfl 1 (by decide) (hts _ fl_C_12) (fun _ h9 => h9) rfl d_C_there_25 ?_
      refine lv_iload_n hx hb d_C_there_28 rfl (lv_at hl 2 rfl) ?_
      refine lv_iload_n hx hb d_C_there_29 rfl (lv_at hl 3 rfl) ?_
      refine lv_iload hx hb d_C_there_30 (lv_at hl 4 rfl) ?_
      obtain ⟨r_32, hcl, hf⟩ := fn_e1 hf
      refine cs_RdI (rest := [.ref lg, .ref lg]) ⟨hx, hb, hml, hown, hts⟩ (c_C_tripleOf l D cK v2 v3 v4 r_32 hcl) (va_cwS 3 hts (zz_S ml_C_71 st_C_tripleOf in_C co_C_tripleOf) rfl rfl rfl hd_C_tripleOf ⟨Nat.le_of_ble_eq_true rfl, Nat.le_of_ble_eq_true rfl⟩) hK hP [] rfl rfl hl.1 rfl (Nat.le_of_ble_eq_true rfl) d_C_there_32 ⟨Nat.zero_le _, Nat.zero_le _⟩ ?_
      refine lv_iload_n hx hb d_C_there_35 rfl (lv_at hl 1 rfl) ?_
      obtain ⟨r_36, hcl, hf⟩ := fn_e1 hf
      refine cv_RdI (rest := [.ref lg]) ⟨hx, hb, hml, hown, hts⟩ (c_Lg_lastOf l D cK lg lgA lgT lgC lgS lgAf lgTf N r_32 v1 r_36 hcl) (cwV 2 hts (zz_V ml_C_78 im_Lg_lastOf se_Lg_lastOf in_Lg co_Lg_lastOf) rfl rfl rfl ⟨rfl, hd_Lg_lastOf⟩ ⟨Nat.le_of_ble_eq_true rfl, Nat.le_of_ble_eq_true rfl⟩) hK hP [1, 2, 3] rfl 1 rfl rfl rfl rfl hl.1 rfl (Nat.le_of_ble_eq_true rfl) d_C_there_36 ⟨Nat.zero_le _, Nat.zero_le _⟩ ?_
      obtain ⟨r_39, hcl, hf⟩ := fn_e1 hf
      refine cv_RdI (rest := []) ⟨hx, hb, hml, hown, hts⟩ (c_Lg_comesAt l D cK lg lgA lgT lgC lgS lgCf r_36 r_39 hcl) (cwV 1 hts (zz_V ml_C_81 im_Lg_comesAt se_Lg_comesAt in_Lg co_Lg_comesAt) rfl rfl rfl ⟨rfl, hd_Lg_comesAt⟩ ⟨Nat.le_of_ble_eq_true rfl, Nat.le_of_ble_eq_true rfl⟩) hK hP [1, 4] rfl 1 rfl rfl rfl rfl hl.1 rfl (Nat.le_of_ble_eq_true rfl) d_C_there_39 ⟨Nat.zero_le _, Nat.zero_le _⟩ ?_
      refine lv_if_eq (tgt := 49) hx hb d_C_there_42 (by decide) (fun hc => ?_) (fun hc => ?_)
      · have hf := fn_t hc hf
        refine lv_iconst (v := 0) hx hb d_C_there_49 (by decide) ?_
        cases hf
        exact hret 50 _ rfl d_C_there_50
      · have hf := fn_f hc hf
        refine lv_iconst (v := 1) hx hb d_C_there_45 (by decide) ?_
        refine lv_goto (tgt := 50) hx hb d_C_there_46 (by decide) ?_
        cases hf
        exact hret 50 _ rfl d_C_there_50
    · have hf := fn_t hc hf
      refine lv_iconst (v := (-1)) hx hb d_C_there_18 (by decide) ?_
      cases hf
      exact hret 19 _ rfl d_C_there_19
abbrev rm_C_age : Room := { frames := 2, cells := 0, slots := 0, locals := 42 }
set_option maxHeartbeats 4000000 in
set_option maxRecDepth 100000 in
theorem c_C_age (l : Launch) (D : va_G) (cK : Nat → ClassId) (cr lg qs se sr rt rb ow lgA lgT lgC : Nat) (crN : Int32) (crL : Int32) (crQ : Int32) (lgS : Int32) (lgAf : Nat → Int32) (lgTf : Nat → Int32) (lgCf : Nat → Int32) (N : Nat) (v1 : Int32) (v2 : Int32) (v3 : Int32) (v4 : Int32) (r : Int32) (hf : f_C_age N crL lgS lgAf lgTf lgCf v1 v2 v3 v4 = some r) : RdI l y_C_age w_C_age rm_C_age D zz_cl (mt_ty cK RK2) [.ref cr, .int v1, .int v2, .int v3, .int v4] [(cr, .inr (5, [.int crN, .ref lg, .ref qs, .ref se, .ref sr, .ref rt, .ref rb, .ref ow, .int crL, .int crQ])), (lg, .inr (0, [.ref lgA, .ref lgT, .ref lgC, .int lgS])), (lgA, .inl (cK 0, 400, .inl lgAf)), (lgT, .inl (cK 0, 400, .inl lgTf)), (lgC, .inl (cK 1, 400, .inl lgCf))] r := by
  refine mk_RdI (cc := b_C_age) (maxL := 6) (ty := .int) (by decide +kernel) rfl (Nat.le_of_ble_eq_true rfl) ?_
  intro p e s m below meth c args Q ls hx hb hml hown hts hK hP hret hl
  have hl : lv_has ls 6 [(0, .ref cr), (1, .int v1), (2, .int v2), (3, .int v3), (4, .int v4)] := hl
  unfold f_C_age at hf
  refine lv_aload_n hx hb d_C_age_0 rfl (lv_at hl 0 rfl) ?_
  refine lv_iload_n hx hb d_C_age_1 rfl (lv_at hl 1 rfl) ?_
  obtain ⟨r_2, hcl, hf⟩ := fn_e1 hf
  refine cv_RdI (rest := []) ⟨hx, hb, hml, hown, hts⟩ (c_C_isPast l D cK cr lg qs se sr rt rb ow crN crL crQ v1 r_2 hcl) (cwV 1 hts (zz_V ml_C_113 im_C_isPast se_C_isPast in_C co_C_isPast) rfl rfl rfl ⟨rfl, hd_C_isPast⟩ ⟨Nat.le_of_ble_eq_true rfl, Nat.le_of_ble_eq_true rfl⟩) hK hP [0] rfl 0 rfl rfl rfl rfl hl.1 rfl (Nat.le_of_ble_eq_true rfl) d_C_age_2 ⟨Nat.zero_le _, Nat.zero_le _⟩ ?_
  refine lv_if_eq (tgt := 18) hx hb d_C_age_5 (by decide) (fun hc => ?_) (fun hc => ?_)
  · have hf := fn_t hc hf
    refine lv_iconst (v := (-1)) hx hb d_C_age_18 (by decide) ?_
    cases hf
    exact hret 19 _ rfl d_C_age_19
  · have hf := fn_f hc hf
    refine lv_iload_n hx hb d_C_age_8 rfl (lv_at hl 2 rfl) ?_
    refine lv_iload_n hx hb d_C_age_9 rfl (lv_at hl 3 rfl) ?_
    refine lv_iload hx hb d_C_age_10 (lv_at hl 4 rfl) ?_
    obtain ⟨r_12, hcl, hf⟩ := fn_e1 hf
    refine cs_RdI (rest := []) ⟨hx, hb, hml, hown, hts⟩ (c_C_isTriple l D cK v2 v3 v4 r_12 hcl) (va_cwS 3 hts (zz_S ml_C_63 st_C_isTriple in_C co_C_isTriple) rfl rfl rfl hd_C_isTriple ⟨Nat.le_of_ble_eq_true rfl, Nat.le_of_ble_eq_true rfl⟩) hK hP [] rfl rfl hl.1 rfl (Nat.le_of_ble_eq_true rfl) d_C_age_12 ⟨Nat.zero_le _, Nat.zero_le _⟩ ?_
    refine lv_if_ne (tgt := 20) hx hb d_C_age_15 (by decide) (fun hc => ?_) (fun hc => ?_)
    · have hf := fn_f hc hf
      refine lv_aload_n hx hb d_C_age_20 rfl (lv_at hl 0 rfl) ?_
      refine va_get (D := D) (ci := 5) (v := .ref lg) (C := RK5) (T := TK5) (N := 10) hx hb hts iwK5 hown hK hP 0 rfl rfl 1 (by decide) (hts _ fl_C_12) (fun _ h9 => h9) rfl d_C_age_21 ?_
      refine lv_iload_n hx hb d_C_age_24 rfl (lv_at hl 2 rfl) ?_
      refine lv_iload_n hx hb d_C_age_25 rfl (lv_at hl 3 rfl) ?_
      refine lv_iload hx hb d_C_age_26 (lv_at hl 4 rfl) ?_
      obtain ⟨r_28, hcl, hf⟩ := fn_e1 hf
      refine cs_RdI (rest := [.ref lg]) ⟨hx, hb, hml, hown, hts⟩ (c_C_tripleOf l D cK v2 v3 v4 r_28 hcl) (va_cwS 3 hts (zz_S ml_C_71 st_C_tripleOf in_C co_C_tripleOf) rfl rfl rfl hd_C_tripleOf ⟨Nat.le_of_ble_eq_true rfl, Nat.le_of_ble_eq_true rfl⟩) hK hP [] rfl rfl hl.1 rfl (Nat.le_of_ble_eq_true rfl) d_C_age_28 ⟨Nat.zero_le _, Nat.zero_le _⟩ ?_
      refine lv_iload_n hx hb d_C_age_31 rfl (lv_at hl 1 rfl) ?_
      obtain ⟨r_32, hcl, hf⟩ := fn_e1 hf
      refine cv_RdI (rest := []) ⟨hx, hb, hml, hown, hts⟩ (c_Lg_lastOf l D cK lg lgA lgT lgC lgS lgAf lgTf N r_28 v1 r_32 hcl) (cwV 2 hts (zz_V ml_C_78 im_Lg_lastOf se_Lg_lastOf in_Lg co_Lg_lastOf) rfl rfl rfl ⟨rfl, hd_Lg_lastOf⟩ ⟨Nat.le_of_ble_eq_true rfl, Nat.le_of_ble_eq_true rfl⟩) hK hP [1, 2, 3] rfl 1 rfl rfl rfl rfl hl.1 rfl (Nat.le_of_ble_eq_true rfl) d_C_age_32 ⟨Nat.zero_le _, Nat.zero_le _⟩ ?_
      refine lv_istore (lv' := [(5, .int r_32), (0, .ref cr), (1, .int v1), (2, .int v2), (3, .int v3), (4, .int v4)]) hx hb d_C_age_35 hl (by decide) rfl (fun ls hl => ?_)
      refine lv_aload_n hx hb d_C_age_37 rfl (lv_at hl 1 rfl) ?_
      refine va_get (D := D) (ci := 5) (v := .ref lg) (C := RK5) (T := TK5) (N := 10) hx hb hts iwK5 hown hK hP 0 rfl rfl 1 (by decide) (hts _ fl_C_12) (fun _ h9 => h9) rfl d_C_age_38 ?_
      refine lv_iload hx hb d_C_age_41 (lv_at hl 0 rfl) ?_
      obtain ⟨r_43, hcl, hf⟩ := fn_e1 hf
      refine cv_RdI (rest := []) ⟨hx, hb, hml, hown, hts⟩ (c_Lg_comesAt l D cK lg lgA lgT lgC lgS lgCf r_32 r_43 hcl) (cwV 1 hts (zz_V ml_C_81 im_Lg_comesAt se_Lg_comesAt in_Lg co_Lg_comesAt) rfl rfl rfl ⟨rfl, hd_Lg_comesAt⟩ ⟨Nat.le_of_ble_eq_true rfl, Nat.le_of_ble_eq_true rfl⟩) hK hP [1, 4] rfl 1 rfl rfl rfl rfl hl.1 rfl (Nat.le_of_ble_eq_true rfl) d_C_age_43 ⟨Nat.zero_le _, Nat.zero_le _⟩ ?_
      refine lv_if_eq (tgt := 63) hx hb d_C_age_46 (by decide) (fun hc => ?_) (fun hc => ?_)
      · have hf := fn_t hc hf
        refine lv_bipush (v := (-2)) hx hb d_C_age_63 (by decide) ?_
        cases hf
        exact hret 65 _ rfl d_C_age_65
      · have hf := fn_f hc hf
        refine lv_iload_n hx hb d_C_age_49 rfl (lv_at hl 2 rfl) ?_
        refine lv_aload_n hx hb d_C_age_50 rfl (lv_at hl 1 rfl) ?_
        refine va_get (D := D) (ci := 5) (v := .ref lg) (C := RK5) (T := TK5) (N := 10) hx hb hts iwK5 hown hK hP 0 rfl rfl 1 (by decide) (hts _ fl_C_12) (fun _ h9 => h9) rfl d_C_age_51 ?_
        refine lv_iload hx hb d_C_age_54 (lv_at hl 0 rfl) ?_
        obtain ⟨r_56, hcl, hf⟩ := fn_e1 hf
        refine cv_RdI (rest := [.int v1]) ⟨hx, hb, hml, hown, hts⟩ (c_Lg_numberAt l D cK lg lgA lgT lgC lgS lgAf r_32 r_56 hcl) (cwV 1 hts (zz_V ml_C_152 im_Lg_numberAt se_Lg_numberAt in_Lg co_Lg_numberAt) rfl rfl rfl ⟨rfl, hd_Lg_numberAt⟩ ⟨Nat.le_of_ble_eq_true rfl, Nat.le_of_ble_eq_true rfl⟩) hK hP [1, 2] rfl 1 rfl rfl rfl rfl hl.1 rfl (Nat.le_of_ble_eq_true rfl) d_C_age_56 ⟨Nat.zero_le _, Nat.zero_le _⟩ ?_
        refine lv_isub hx hb d_C_age_59 ?_
        refine lv_goto (tgt := 65) hx hb d_C_age_60 (by decide) ?_
        cases hf
        exact hret 65 _ rfl d_C_age_65
    · have hf := fn_t hc hf
      refine lv_iconst (v := (-1)) hx hb d_C_age_18 (by decide) ?_
      cases hf
      exact hret 19 _ rfl d_C_age_19
abbrev rm_C_fill : Room := { frames := 9, cells := 0, slots := 0, locals := 232 }
set_option maxHeartbeats 4000000 in
set_option maxRecDepth 100000 in
theorem c_C_fill (l : Launch) (D : va_G) (cK : Nat → ClassId) (cr lg qs se sr rt rb ow lgA lgT lgC seO srO srV x xW q qI qL : Nat) (crN : Int32) (crL : Int32) (crQ : Int32) (lgS : Int32) (lgAf : Nat → Int32) (lgTf : Nat → Int32) (lgCf : Nat → Int32) (seOf : Nat → Int32) (srOf : Nat → Int32) (srVf : Nat → Int32) (xS : Int32) (xM : Nat) (xWf : Nat → Int32) (qW : Int32) (qP : Int32) (qV : Int32) (qIf : Nat → Int32) (qLf : Nat → Int32) (N : Nat) (v3 : Int32) (o_seOf : Nat → Int32) (o_srOf : Nat → Int32) (o_srVf : Nat → Int32) (o_xS : Int32) (o_xWf : Nat → Int32) (hf : f_C_fill N lgS lgAf lgTf lgCf seOf srOf srVf xS xM xWf qW qP qV qIf qLf v3 = some (o_seOf, o_srOf, o_srVf, o_xS, o_xWf)) : WrV l y_C_fill w_C_fill rm_C_fill D zz_cl (mt_ty cK RK2) [.ref cr, .ref x, .ref q, .int v3] [(cr, .inr (5, [.int crN, .ref lg, .ref qs, .ref se, .ref sr, .ref rt, .ref rb, .ref ow, .int crL, .int crQ])), (lg, .inr (0, [.ref lgA, .ref lgT, .ref lgC, .int lgS])), (lgA, .inl (cK 0, 400, .inl lgAf)), (lgT, .inl (cK 0, 400, .inl lgTf)), (lgC, .inl (cK 1, 400, .inl lgCf)), (se, .inr (1, [.ref seO])), (seO, .inl (cK 0, 128, .inl seOf)), (sr, .inr (3, [.ref se, .ref srO, .ref srV])), (srO, .inl (cK 0, 4, .inl srOf)), (srV, .inl (cK 0, 4, .inl srVf)), (x, .inr (4, [.ref xW, .int xS])), (xW, .inl (cK 0, xM, .inl xWf)), (q, .inr (2, [.ref qI, .ref qL, .int qW, .int qP, .int qV])), (qI, .inl (cK 0, 9, .inl qIf)), (qL, .inl (cK 0, 3, .inl qLf))] [(cr, .inr (5, [.int crN, .ref lg, .ref qs, .ref se, .ref sr, .ref rt, .ref rb, .ref ow, .int crL, .int crQ])), (lg, .inr (0, [.ref lgA, .ref lgT, .ref lgC, .int lgS])), (lgA, .inl (cK 0, 400, .inl lgAf)), (lgT, .inl (cK 0, 400, .inl lgTf)), (lgC, .inl (cK 1, 400, .inl lgCf)), (se, .inr (1, [.ref seO])), (seO, .inl (cK 0, 128, .inl o_seOf)), (sr, .inr (3, [.ref se, .ref srO, .ref srV])), (srO, .inl (cK 0, 4, .inl o_srOf)), (srV, .inl (cK 0, 4, .inl o_srVf)), (x, .inr (4, [.ref xW, .int o_xS])), (xW, .inl (cK 0, xM, .inl o_xWf)), (q, .inr (2, [.ref qI, .ref qL, .int qW, .int qP, .int qV])), (qI, .inl (cK 0, 9, .inl qIf)), (qL, .inl (cK 0, 3, .inl qLf))] := by
  refine mk_WrV (cc := b_C_fill) (maxL := 4) (by decide +kernel) rfl (Nat.le_of_ble_eq_true rfl) ?_
  intro p e s m below meth c args Q A ls hx hb hml hown hts hA hK hP hD hret hl
  have hS : va_S A s.heap s.heap [] := va_S.rf
  have hl : lv_has ls 4 [(0, .ref cr), (1, .ref x), (2, .ref q), (3, .int v3)] := hl
  unfold f_C_fill at hf
  refine lv_aload_n hx hb d_C_fill_0 rfl (lv_at hl 1 rfl) ?_
  obtain ⟨xS_1, hcl, hf⟩ := fn_e1 hf
  refine cv_WrV (rest := []) (wr := [(cr, .inr (5, [.int crN, .ref lg, .ref qs, .ref se, .ref sr, .ref rt, .ref rb, .ref ow, .int crL, .int crQ])), (lg, .inr (0, [.ref lgA, .ref lgT, .ref lgC, .int lgS])), (lgA, .inl (cK 0, 400, .inl lgAf)), (lgT, .inl (cK 0, 400, .inl lgTf)), (lgC, .inl (cK 1, 400, .inl lgCf)), (se, .inr (1, [.ref seO])), (seO, .inl (cK 0, 128, .inl seOf)), (sr, .inr (3, [.ref se, .ref srO, .ref srV])), (srO, .inl (cK 0, 4, .inl srOf)), (srV, .inl (cK 0, 4, .inl srVf)), (xW, .inl (cK 0, xM, .inl xWf)), (q, .inr (2, [.ref qI, .ref qL, .int qW, .int qP, .int qV])), (qI, .inl (cK 0, 9, .inl qIf)), (qL, .inl (cK 0, 3, .inl qLf))]) (w' := [(cr, .inr (5, [.int crN, .ref lg, .ref qs, .ref se, .ref sr, .ref rt, .ref rb, .ref ow, .int crL, .int crQ])), (lg, .inr (0, [.ref lgA, .ref lgT, .ref lgC, .int lgS])), (lgA, .inl (cK 0, 400, .inl lgAf)), (lgT, .inl (cK 0, 400, .inl lgTf)), (lgC, .inl (cK 1, 400, .inl lgCf)), (se, .inr (1, [.ref seO])), (seO, .inl (cK 0, 128, .inl seOf)), (sr, .inr (3, [.ref se, .ref srO, .ref srV])), (srO, .inl (cK 0, 4, .inl srOf)), (srV, .inl (cK 0, 4, .inl srVf)), (x, .inr (4, [.ref xW, .int xS_1])), (xW, .inl (cK 0, xM, .inl xWf)), (q, .inr (2, [.ref qI, .ref qL, .int qW, .int qP, .int qV])), (qI, .inl (cK 0, 9, .inl qIf)), (qL, .inl (cK 0, 3, .inl qLf))]) ⟨hx, hb, hml, hown, hts⟩ (c_Rs_clear l D cK x xW xS xS_1 hcl) (cwV 0 hts (zz_V ml_C_155 im_Rs_clear se_Rs_clear in_Rs co_Rs_clear) rfl rfl rfl ⟨rfl, hd_Rs_clear⟩ ⟨Nat.le_of_ble_eq_true rfl, Nat.le_of_ble_eq_true rfl⟩) hK hP hD hS hA [10] [0, 1, 2, 3, 4, 5, 6, 7, 8, 9, 11, 12, 13, 14] [0, 1, 2, 3, 4, 5, 6, 7, 8, 9, 14, 10, 11, 12, 13] rfl (by decide) rfl (by decide) (by decide) rfl (by decide) 10 rfl rfl rfl rfl hl.1 rfl (Nat.le_of_ble_eq_true rfl) d_C_fill_1 ⟨Nat.zero_le _, Nat.zero_le _⟩ (fun H locs hP hD hS => ?_)
  refine lv_aload_n hx hb d_C_fill_4 rfl (lv_at hl 0 rfl) ?_
  refine va_get (D := D) (ci := 5) (v := .ref se) (C := RK5) (T := TK5) (N := 10) hx hb hts iwK5 hown hK hP 0 rfl rfl 3 (by decide) (hts _ fl_C_25) (fun _ h9 => h9) rfl d_C_fill_5 ?_
  refine lv_aload_n hx hb d_C_fill_8 rfl (lv_at hl 0 rfl) ?_
  refine va_get (D := D) (ci := 5) (v := .ref lg) (C := RK5) (T := TK5) (N := 10) hx hb hts iwK5 hown hK hP 0 rfl rfl 1 (by decide) (hts _ fl_C_12) (fun _ h9 => h9) rfl d_C_fill_9 ?_
  refine lv_iload_n hx hb d_C_fill_12 rfl (lv_at hl 3 rfl) ?_
  refine lv_aload_n hx hb d_C_fill_13 rfl (lv_at hl 2 rfl) ?_
  refine va_get (D := D) (ci := 2) (v := .int qW) (C := RK2) (T := TK2) (N := 5) hx hb hts iwK2 hown hK hP 12 rfl rfl 2 (by decide) (hts _ fl_C_110) (fun _ h9 => h9) rfl d_C_fill_14 ?_
  obtain ⟨seOf_17, hcl, hf⟩ := fn_e1 hf
  refine cv_WrV (rest := []) (wr := [(cr, .inr (5, [.int crN, .ref lg, .ref qs, .ref se, .ref sr, .ref rt, .ref rb, .ref ow, .int crL, .int crQ])), (sr, .inr (3, [.ref se, .ref srO, .ref srV])), (srO, .inl (cK 0, 4, .inl srOf)), (srV, .inl (cK 0, 4, .inl srVf)), (x, .inr (4, [.ref xW, .int xS_1])), (xW, .inl (cK 0, xM, .inl xWf)), (q, .inr (2, [.ref qI, .ref qL, .int qW, .int qP, .int qV])), (qI, .inl (cK 0, 9, .inl qIf)), (qL, .inl (cK 0, 3, .inl qLf))]) (w' := [(cr, .inr (5, [.int crN, .ref lg, .ref qs, .ref se, .ref sr, .ref rt, .ref rb, .ref ow, .int crL, .int crQ])), (lg, .inr (0, [.ref lgA, .ref lgT, .ref lgC, .int lgS])), (lgA, .inl (cK 0, 400, .inl lgAf)), (lgT, .inl (cK 0, 400, .inl lgTf)), (lgC, .inl (cK 1, 400, .inl lgCf)), (se, .inr (1, [.ref seO])), (seO, .inl (cK 0, 128, .inl seOf_17)), (sr, .inr (3, [.ref se, .ref srO, .ref srV])), (srO, .inl (cK 0, 4, .inl srOf)), (srV, .inl (cK 0, 4, .inl srVf)), (x, .inr (4, [.ref xW, .int xS_1])), (xW, .inl (cK 0, xM, .inl xWf)), (q, .inr (2, [.ref qI, .ref qL, .int qW, .int qP, .int qV])), (qI, .inl (cK 0, 9, .inl qIf)), (qL, .inl (cK 0, 3, .inl qLf))]) ⟨hx, hb, hml, hown, hts⟩ (c_Se_read l D cK lg lgA lgT lgC se seO lgS lgAf lgTf lgCf seOf N v3 qW seOf_17 hcl) (cwV 3 hts (zz_V ml_C_158 im_Se_read se_Se_read in_Se co_Se_read) rfl rfl rfl ⟨rfl, hd_Se_read⟩ ⟨Nat.le_of_ble_eq_true rfl, Nat.le_of_ble_eq_true rfl⟩) hK hP hD hS hA [1, 2, 3, 4, 5, 6] [0, 7, 8, 9, 10, 11, 12, 13, 14] [0, 9, 10, 11, 12, 13, 14, 1, 2, 3, 4, 5, 6, 7, 8] rfl (by decide) rfl (by decide) (by decide) rfl (by decide) 5 rfl rfl rfl rfl hl.1 rfl (Nat.le_of_ble_eq_true rfl) d_C_fill_17 ⟨Nat.zero_le _, Nat.zero_le _⟩ (fun H locs hP hD hS => ?_)
  refine lv_aload_n hx hb d_C_fill_20 rfl (lv_at hl 0 rfl) ?_
  refine va_get (D := D) (ci := 5) (v := .ref sr) (C := RK5) (T := TK5) (N := 10) hx hb hts iwK5 hown hK hP 0 rfl rfl 4 (by decide) (hts _ fl_C_34) (fun _ h9 => h9) rfl d_C_fill_21 ?_
  refine lv_aload_n hx hb d_C_fill_24 rfl (lv_at hl 2 rfl) ?_
  obtain ⟨srOf_25, hcl, hf⟩ := fn_e1 hf
  refine cv_WrV (rest := []) (wr := [(cr, .inr (5, [.int crN, .ref lg, .ref qs, .ref se, .ref sr, .ref rt, .ref rb, .ref ow, .int crL, .int crQ])), (lg, .inr (0, [.ref lgA, .ref lgT, .ref lgC, .int lgS])), (lgA, .inl (cK 0, 400, .inl lgAf)), (lgT, .inl (cK 0, 400, .inl lgTf)), (lgC, .inl (cK 1, 400, .inl lgCf)), (se, .inr (1, [.ref seO])), (seO, .inl (cK 0, 128, .inl seOf_17)), (srV, .inl (cK 0, 4, .inl srVf)), (x, .inr (4, [.ref xW, .int xS_1])), (xW, .inl (cK 0, xM, .inl xWf)), (qI, .inl (cK 0, 9, .inl qIf)), (qL, .inl (cK 0, 3, .inl qLf))]) (w' := [(cr, .inr (5, [.int crN, .ref lg, .ref qs, .ref se, .ref sr, .ref rt, .ref rb, .ref ow, .int crL, .int crQ])), (lg, .inr (0, [.ref lgA, .ref lgT, .ref lgC, .int lgS])), (lgA, .inl (cK 0, 400, .inl lgAf)), (lgT, .inl (cK 0, 400, .inl lgTf)), (lgC, .inl (cK 1, 400, .inl lgCf)), (se, .inr (1, [.ref seO])), (seO, .inl (cK 0, 128, .inl seOf_17)), (sr, .inr (3, [.ref se, .ref srO, .ref srV])), (srO, .inl (cK 0, 4, .inl srOf_25)), (srV, .inl (cK 0, 4, .inl srVf)), (x, .inr (4, [.ref xW, .int xS_1])), (xW, .inl (cK 0, xM, .inl xWf)), (q, .inr (2, [.ref qI, .ref qL, .int qW, .int qP, .int qV])), (qI, .inl (cK 0, 9, .inl qIf)), (qL, .inl (cK 0, 3, .inl qLf))]) ⟨hx, hb, hml, hown, hts⟩ (c_Sr_begin l D cK sr se srO srV q qI qL srOf qW qP qV N srOf_25 hcl) (cwV 1 hts (zz_V ml_C_162 im_Sr_begin se_Sr_begin in_Sr co_Sr_begin) rfl rfl rfl ⟨rfl, hd_Sr_begin⟩ ⟨Nat.le_of_ble_eq_true rfl, Nat.le_of_ble_eq_true rfl⟩) hK hP hD hS hA [7, 8, 12] [0, 1, 2, 3, 4, 5, 6, 9, 10, 11, 13, 14] [0, 1, 2, 3, 4, 5, 6, 12, 13, 7, 8, 9, 14, 10, 11] rfl (by decide) rfl (by decide) (by decide) rfl (by decide) 7 rfl rfl rfl rfl hl.1 rfl (Nat.le_of_ble_eq_true rfl) d_C_fill_25 ⟨Nat.zero_le _, Nat.zero_le _⟩ (fun H locs hP hD hS => ?_)
  refine lv_aload_n hx hb d_C_fill_28 rfl (lv_at hl 0 rfl) ?_
  refine va_get (D := D) (ci := 5) (v := .ref sr) (C := RK5) (T := TK5) (N := 10) hx hb hts iwK5 hown hK hP 0 rfl rfl 4 (by decide) (hts _ fl_C_34) (fun _ h9 => h9) rfl d_C_fill_29 ?_
  refine lv_aload_n hx hb d_C_fill_32 rfl (lv_at hl 2 rfl) ?_
  refine lv_aload_n hx hb d_C_fill_33 rfl (lv_at hl 1 rfl) ?_
  obtain ⟨srOf_34, srVf_34, xS_34, xWf_34, hcl, hf⟩ := fn_e4 hf
  refine cv_WrV (rest := []) (wr := [(cr, .inr (5, [.int crN, .ref lg, .ref qs, .ref se, .ref sr, .ref rt, .ref rb, .ref ow, .int crL, .int crQ])), (lg, .inr (0, [.ref lgA, .ref lgT, .ref lgC, .int lgS])), (lgA, .inl (cK 0, 400, .inl lgAf)), (lgT, .inl (cK 0, 400, .inl lgTf)), (lgC, .inl (cK 1, 400, .inl lgCf))]) (w' := [(cr, .inr (5, [.int crN, .ref lg, .ref qs, .ref se, .ref sr, .ref rt, .ref rb, .ref ow, .int crL, .int crQ])), (lg, .inr (0, [.ref lgA, .ref lgT, .ref lgC, .int lgS])), (lgA, .inl (cK 0, 400, .inl lgAf)), (lgT, .inl (cK 0, 400, .inl lgTf)), (lgC, .inl (cK 1, 400, .inl lgCf)), (se, .inr (1, [.ref seO])), (seO, .inl (cK 0, 128, .inl seOf_17)), (sr, .inr (3, [.ref se, .ref srO, .ref srV])), (srO, .inl (cK 0, 4, .inl srOf_34)), (srV, .inl (cK 0, 4, .inl srVf_34)), (x, .inr (4, [.ref xW, .int xS_34])), (xW, .inl (cK 0, xM, .inl xWf_34)), (q, .inr (2, [.ref qI, .ref qL, .int qW, .int qP, .int qV])), (qI, .inl (cK 0, 9, .inl qIf)), (qL, .inl (cK 0, 3, .inl qLf))]) ⟨hx, hb, hml, hown, hts⟩ (c_Sr_run l D cK se seO sr srO srV x xW q qI qL seOf_17 srOf_25 srVf xS_1 xM xWf qW qP qV qIf qLf N srOf_34 srVf_34 xS_34 xWf_34 hcl) (cwV 2 hts (zz_V ml_C_166 im_Sr_run se_Sr_run in_Sr co_Sr_run) rfl rfl rfl ⟨rfl, hd_Sr_run⟩ ⟨Nat.le_of_ble_eq_true rfl, Nat.le_of_ble_eq_true rfl⟩) hK hP hD hS hA [5, 6, 7, 8, 9, 10, 11, 12, 13, 14] [0, 1, 2, 3, 4] [0, 1, 2, 3, 4, 5, 6, 7, 8, 9, 10, 11, 12, 13, 14] rfl (by decide) rfl (by decide) (by decide) rfl (by decide) 7 rfl rfl rfl rfl hl.1 rfl (Nat.le_of_ble_eq_true rfl) d_C_fill_34 ⟨Nat.zero_le _, Nat.zero_le _⟩ (fun H locs hP hD hS => ?_)
  cases hf
  exact hret _ _ 37 _ hP hD hS d_C_fill_37
abbrev rm_C_findRows : Room := { frames := 10, cells := 0, slots := 0, locals := 255 }
set_option maxHeartbeats 4000000 in
set_option maxRecDepth 100000 in
theorem c_C_findRows (l : Launch) (D : va_G) (cK : Nat → ClassId) (cr lg qs se sr rt rb ow lgA lgT lgC seO srO srV rtW rbW q qI qL : Nat) (crN : Int32) (crL : Int32) (crQ : Int32) (lgS : Int32) (lgAf : Nat → Int32) (lgTf : Nat → Int32) (lgCf : Nat → Int32) (seOf : Nat → Int32) (srOf : Nat → Int32) (srVf : Nat → Int32) (rtS : Int32) (rtWf : Nat → Int32) (rbS : Int32) (rbWf : Nat → Int32) (qW : Int32) (qP : Int32) (qV : Int32) (qIf : Nat → Int32) (qLf : Nat → Int32) (N : Nat) (v2 : Int32) (v3 : Int32) (r : Nat) (o_seOf : Nat → Int32) (o_srOf : Nat → Int32) (o_srVf : Nat → Int32) (o_rtS : Int32) (o_rtWf : Nat → Int32) (o_rbS : Int32) (o_rbWf : Nat → Int32) (hf : f_C_findRows N rt rb lgS lgAf lgTf lgCf seOf srOf srVf rtS rtWf rbS rbWf qW qP qV qIf qLf v2 v3 = some (r, o_seOf, o_srOf, o_srVf, o_rtS, o_rtWf, o_rbS, o_rbWf)) : WrR l y_C_findRows w_C_findRows rm_C_findRows D zz_cl (mt_ty cK RK2) [.ref cr, .ref q, .int v2, .int v3] [(cr, .inr (5, [.int crN, .ref lg, .ref qs, .ref se, .ref sr, .ref rt, .ref rb, .ref ow, .int crL, .int crQ])), (lg, .inr (0, [.ref lgA, .ref lgT, .ref lgC, .int lgS])), (lgA, .inl (cK 0, 400, .inl lgAf)), (lgT, .inl (cK 0, 400, .inl lgTf)), (lgC, .inl (cK 1, 400, .inl lgCf)), (se, .inr (1, [.ref seO])), (seO, .inl (cK 0, 128, .inl seOf)), (sr, .inr (3, [.ref se, .ref srO, .ref srV])), (srO, .inl (cK 0, 4, .inl srOf)), (srV, .inl (cK 0, 4, .inl srVf)), (rt, .inr (4, [.ref rtW, .int rtS])), (rtW, .inl (cK 0, 4096, .inl rtWf)), (rb, .inr (4, [.ref rbW, .int rbS])), (rbW, .inl (cK 0, 4096, .inl rbWf)), (q, .inr (2, [.ref qI, .ref qL, .int qW, .int qP, .int qV])), (qI, .inl (cK 0, 9, .inl qIf)), (qL, .inl (cK 0, 3, .inl qLf))] [(cr, .inr (5, [.int crN, .ref lg, .ref qs, .ref se, .ref sr, .ref rt, .ref rb, .ref ow, .int crL, .int crQ])), (lg, .inr (0, [.ref lgA, .ref lgT, .ref lgC, .int lgS])), (lgA, .inl (cK 0, 400, .inl lgAf)), (lgT, .inl (cK 0, 400, .inl lgTf)), (lgC, .inl (cK 1, 400, .inl lgCf)), (se, .inr (1, [.ref seO])), (seO, .inl (cK 0, 128, .inl o_seOf)), (sr, .inr (3, [.ref se, .ref srO, .ref srV])), (srO, .inl (cK 0, 4, .inl o_srOf)), (srV, .inl (cK 0, 4, .inl o_srVf)), (rt, .inr (4, [.ref rtW, .int o_rtS])), (rtW, .inl (cK 0, 4096, .inl o_rtWf)), (rb, .inr (4, [.ref rbW, .int o_rbS])), (rbW, .inl (cK 0, 4096, .inl o_rbWf)), (q, .inr (2, [.ref qI, .ref qL, .int qW, .int qP, .int qV])), (qI, .inl (cK 0, 9, .inl qIf)), (qL, .inl (cK 0, 3, .inl qLf))] r := by
  refine mk_WrR (cc := b_C_findRows) (maxL := 4) (Or.inl ⟨_, rfl⟩) (by decide +kernel) rfl (Nat.le_of_ble_eq_true rfl) ?_
  intro p e s m below meth c args Q A ls hx hb hml hown hts hA hK hP hD hret hl
  have hS : va_S A s.heap s.heap [] := va_S.rf
  have hl : lv_has ls 4 [(0, .ref cr), (1, .ref q), (2, .int v2), (3, .int v3)] := hl
  have J_42 : ∀ (seOf : Nat → Int32) (srOf : Nat → Int32) (srVf : Nat → Int32) (rtS : Int32) (rtWf : Nat → Int32) (rbS : Int32) (rbWf : Nat → Int32) (v3 : Int32) (H : Heap) (locs : List Loc) (ls : Array Slot), f_C_findRows_42 N rt rb lgS lgAf lgTf lgCf qW qP qV qIf qLf seOf srOf srVf rtS rtWf rbS rbWf v3 = some (r, o_seOf, o_srOf, o_srVf, o_rtS, o_rtWf, o_rbS, o_rbWf) → va_P D zz_cl [(cr, .inr (5, [.int crN, .ref lg, .ref qs, .ref se, .ref sr, .ref rt, .ref rb, .ref ow, .int crL, .int crQ])), (lg, .inr (0, [.ref lgA, .ref lgT, .ref lgC, .int lgS])), (lgA, .inl (cK 0, 400, .inl lgAf)), (lgT, .inl (cK 0, 400, .inl lgTf)), (lgC, .inl (cK 1, 400, .inl lgCf)), (se, .inr (1, [.ref seO])), (seO, .inl (cK 0, 128, .inl seOf)), (sr, .inr (3, [.ref se, .ref srO, .ref srV])), (srO, .inl (cK 0, 4, .inl srOf)), (srV, .inl (cK 0, 4, .inl srVf)), (rt, .inr (4, [.ref rtW, .int rtS])), (rtW, .inl (cK 0, 4096, .inl rtWf)), (rb, .inr (4, [.ref rbW, .int rbS])), (rbW, .inl (cK 0, 4096, .inl rbWf)), (q, .inr (2, [.ref qI, .ref qL, .int qW, .int qP, .int qV])), (qI, .inl (cK 0, 9, .inl qIf)), (qL, .inl (cK 0, 3, .inl qLf))] H → va_D A [(cr, .inr (5, [.int crN, .ref lg, .ref qs, .ref se, .ref sr, .ref rt, .ref rb, .ref ow, .int crL, .int crQ])), (lg, .inr (0, [.ref lgA, .ref lgT, .ref lgC, .int lgS])), (lgA, .inl (cK 0, 400, .inl lgAf)), (lgT, .inl (cK 0, 400, .inl lgTf)), (lgC, .inl (cK 1, 400, .inl lgCf)), (se, .inr (1, [.ref seO])), (seO, .inl (cK 0, 128, .inl seOf)), (sr, .inr (3, [.ref se, .ref srO, .ref srV])), (srO, .inl (cK 0, 4, .inl srOf)), (srV, .inl (cK 0, 4, .inl srVf)), (rt, .inr (4, [.ref rtW, .int rtS])), (rtW, .inl (cK 0, 4096, .inl rtWf)), (rb, .inr (4, [.ref rbW, .int rbS])), (rbW, .inl (cK 0, 4096, .inl rbWf)), (q, .inr (2, [.ref qI, .ref qL, .int qW, .int qP, .int qV])), (qI, .inl (cK 0, 9, .inl qIf)), (qL, .inl (cK 0, 3, .inl qLf))] → va_S A s.heap H locs → lv_has ls 4 [(0, .ref cr), (3, .int v3)] → W p l e rm_C_findRows s m args below meth c H locs 0 0 Q (F0 m 42 ls []) := by
    intro seOf srOf srVf rtS rtWf rbS rbWf v3 H locs ls hf hP hD hS hl
    unfold f_C_findRows_42 at hf
    refine lv_iload_n hx hb d_C_findRows_42 rfl (lv_at hl 1 rfl) ?_
    refine lv_iconst (v := 1) hx hb d_C_findRows_43 (by decide) ?_
    refine lv_icmp_ne (tgt := 63) hx hb d_C_findRows_44 (by decide) (fun hc => ?_) (fun hc => ?_)
    · have hf := fn_f hc hf
      refine lv_aload_n hx hb d_C_findRows_63 rfl (lv_at hl 0 rfl) ?_
      refine va_get (D := D) (ci := 5) (v := .ref rb) (C := RK5) (T := TK5) (N := 10) hx hb hts iwK5 hown hK hP 0 rfl rfl 6 (by decide) (hts _ fl_C_47) (fun _ h9 => h9) rfl d_C_findRows_64 ?_
      refine lv_aload_n hx hb d_C_findRows_67 rfl (lv_at hl 0 rfl) ?_
      refine va_get (D := D) (ci := 5) (v := .ref rt) (C := RK5) (T := TK5) (N := 10) hx hb hts iwK5 hown hK hP 0 rfl rfl 5 (by decide) (hts _ fl_C_43) (fun _ h9 => h9) rfl d_C_findRows_68 ?_
      obtain ⟨rbS_71, rbWf_71, hcl, hf⟩ := fn_e2 hf
      refine cv_WrV (rest := []) (wr := [(cr, .inr (5, [.int crN, .ref lg, .ref qs, .ref se, .ref sr, .ref rt, .ref rb, .ref ow, .int crL, .int crQ])), (lg, .inr (0, [.ref lgA, .ref lgT, .ref lgC, .int lgS])), (lgA, .inl (cK 0, 400, .inl lgAf)), (lgT, .inl (cK 0, 400, .inl lgTf)), (lgC, .inl (cK 1, 400, .inl lgCf)), (se, .inr (1, [.ref seO])), (seO, .inl (cK 0, 128, .inl seOf)), (sr, .inr (3, [.ref se, .ref srO, .ref srV])), (srO, .inl (cK 0, 4, .inl srOf)), (srV, .inl (cK 0, 4, .inl srVf)), (q, .inr (2, [.ref qI, .ref qL, .int qW, .int qP, .int qV])), (qI, .inl (cK 0, 9, .inl qIf)), (qL, .inl (cK 0, 3, .inl qLf))]) (w' := [(cr, .inr (5, [.int crN, .ref lg, .ref qs, .ref se, .ref sr, .ref rt, .ref rb, .ref ow, .int crL, .int crQ])), (lg, .inr (0, [.ref lgA, .ref lgT, .ref lgC, .int lgS])), (lgA, .inl (cK 0, 400, .inl lgAf)), (lgT, .inl (cK 0, 400, .inl lgTf)), (lgC, .inl (cK 1, 400, .inl lgCf)), (se, .inr (1, [.ref seO])), (seO, .inl (cK 0, 128, .inl seOf)), (sr, .inr (3, [.ref se, .ref srO, .ref srV])), (srO, .inl (cK 0, 4, .inl srOf)), (srV, .inl (cK 0, 4, .inl srVf)), (rt, .inr (4, [.ref rtW, .int rtS])), (rtW, .inl (cK 0, 4096, .inl rtWf)), (rb, .inr (4, [.ref rbW, .int rbS_71])), (rbW, .inl (cK 0, 4096, .inl rbWf_71)), (q, .inr (2, [.ref qI, .ref qL, .int qW, .int qP, .int qV])), (qI, .inl (cK 0, 9, .inl qIf)), (qL, .inl (cK 0, 3, .inl qLf))]) ⟨hx, hb, hml, hown, hts⟩ (c_Rs_removeAll l D cK rb rbW rt rtW rbS 4096 rbWf rtS 4096 rtWf N rbS_71 rbWf_71 hcl) (cwV 1 hts (zz_V ml_C_170 im_Rs_removeAll se_Rs_removeAll in_Rs co_Rs_removeAll) rfl rfl rfl ⟨rfl, hd_Rs_removeAll⟩ ⟨Nat.le_of_ble_eq_true rfl, Nat.le_of_ble_eq_true rfl⟩) hK hP hD hS hA [12, 13, 10, 11] [0, 1, 2, 3, 4, 5, 6, 7, 8, 9, 14, 15, 16] [0, 1, 2, 3, 4, 5, 6, 7, 8, 9, 15, 16, 13, 14, 10, 11, 12] rfl (by decide) rfl (by decide) (by decide) rfl (by decide) 12 rfl rfl rfl rfl hl.1 rfl (Nat.le_of_ble_eq_true rfl) d_C_findRows_71 ⟨Nat.zero_le _, Nat.zero_le _⟩ (fun H locs hP hD hS => ?_)
      refine lv_aload_n hx hb d_C_findRows_74 rfl (lv_at hl 0 rfl) ?_
      refine va_get (D := D) (ci := 5) (v := .ref rb) (C := RK5) (T := TK5) (N := 10) hx hb hts iwK5 hown hK hP 0 rfl rfl 6 (by decide) (hts _ fl_C_47) (fun _ h9 => h9) rfl d_C_findRows_75 ?_
      cases hf
      exact hret _ _ 78 _ hP hD hS d_C_findRows_78
    · have hf := fn_t hc hf
      refine lv_aload_n hx hb d_C_findRows_47 rfl (lv_at hl 0 rfl) ?_
      refine va_get (D := D) (ci := 5) (v := .ref rt) (C := RK5) (T := TK5) (N := 10) hx hb hts iwK5 hown hK hP 0 rfl rfl 5 (by decide) (hts _ fl_C_43) (fun _ h9 => h9) rfl d_C_findRows_48 ?_
      refine lv_aload_n hx hb d_C_findRows_51 rfl (lv_at hl 0 rfl) ?_
      refine va_get (D := D) (ci := 5) (v := .ref rb) (C := RK5) (T := TK5) (N := 10) hx hb hts iwK5 hown hK hP 0 rfl rfl 6 (by decide) (hts _ fl_C_47) (fun _ h9 => h9) rfl d_C_findRows_52 ?_
      obtain ⟨rtS_55, rtWf_55, hcl, hf⟩ := fn_e2 hf
      refine cv_WrV (rest := []) (wr := [(cr, .inr (5, [.int crN, .ref lg, .ref qs, .ref se, .ref sr, .ref rt, .ref rb, .ref ow, .int crL, .int crQ])), (lg, .inr (0, [.ref lgA, .ref lgT, .ref lgC, .int lgS])), (lgA, .inl (cK 0, 400, .inl lgAf)), (lgT, .inl (cK 0, 400, .inl lgTf)), (lgC, .inl (cK 1, 400, .inl lgCf)), (se, .inr (1, [.ref seO])), (seO, .inl (cK 0, 128, .inl seOf)), (sr, .inr (3, [.ref se, .ref srO, .ref srV])), (srO, .inl (cK 0, 4, .inl srOf)), (srV, .inl (cK 0, 4, .inl srVf)), (q, .inr (2, [.ref qI, .ref qL, .int qW, .int qP, .int qV])), (qI, .inl (cK 0, 9, .inl qIf)), (qL, .inl (cK 0, 3, .inl qLf))]) (w' := [(cr, .inr (5, [.int crN, .ref lg, .ref qs, .ref se, .ref sr, .ref rt, .ref rb, .ref ow, .int crL, .int crQ])), (lg, .inr (0, [.ref lgA, .ref lgT, .ref lgC, .int lgS])), (lgA, .inl (cK 0, 400, .inl lgAf)), (lgT, .inl (cK 0, 400, .inl lgTf)), (lgC, .inl (cK 1, 400, .inl lgCf)), (se, .inr (1, [.ref seO])), (seO, .inl (cK 0, 128, .inl seOf)), (sr, .inr (3, [.ref se, .ref srO, .ref srV])), (srO, .inl (cK 0, 4, .inl srOf)), (srV, .inl (cK 0, 4, .inl srVf)), (rt, .inr (4, [.ref rtW, .int rtS_55])), (rtW, .inl (cK 0, 4096, .inl rtWf_55)), (rb, .inr (4, [.ref rbW, .int rbS])), (rbW, .inl (cK 0, 4096, .inl rbWf)), (q, .inr (2, [.ref qI, .ref qL, .int qW, .int qP, .int qV])), (qI, .inl (cK 0, 9, .inl qIf)), (qL, .inl (cK 0, 3, .inl qLf))]) ⟨hx, hb, hml, hown, hts⟩ (c_Rs_removeAll l D cK rt rtW rb rbW rtS 4096 rtWf rbS 4096 rbWf N rtS_55 rtWf_55 hcl) (cwV 1 hts (zz_V ml_C_170 im_Rs_removeAll se_Rs_removeAll in_Rs co_Rs_removeAll) rfl rfl rfl ⟨rfl, hd_Rs_removeAll⟩ ⟨Nat.le_of_ble_eq_true rfl, Nat.le_of_ble_eq_true rfl⟩) hK hP hD hS hA [10, 11, 12, 13] [0, 1, 2, 3, 4, 5, 6, 7, 8, 9, 14, 15, 16] [0, 1, 2, 3, 4, 5, 6, 7, 8, 9, 13, 14, 15, 16, 10, 11, 12] rfl (by decide) rfl (by decide) (by decide) rfl (by decide) 10 rfl rfl rfl rfl hl.1 rfl (Nat.le_of_ble_eq_true rfl) d_C_findRows_55 ⟨Nat.zero_le _, Nat.zero_le _⟩ (fun H locs hP hD hS => ?_)
      refine lv_aload_n hx hb d_C_findRows_58 rfl (lv_at hl 0 rfl) ?_
      refine va_get (D := D) (ci := 5) (v := .ref rt) (C := RK5) (T := TK5) (N := 10) hx hb hts iwK5 hown hK hP 0 rfl rfl 5 (by decide) (hts _ fl_C_43) (fun _ h9 => h9) rfl d_C_findRows_59 ?_
      cases hf
      exact hret _ _ 62 _ hP hD hS d_C_findRows_62
  unfold f_C_findRows at hf
  refine lv_aload_n hx hb d_C_findRows_0 rfl (lv_at hl 0 rfl) ?_
  refine lv_aload_n hx hb d_C_findRows_1 rfl (lv_at hl 0 rfl) ?_
  refine va_get (D := D) (ci := 5) (v := .ref rt) (C := RK5) (T := TK5) (N := 10) hx hb hts iwK5 hown hK hP 0 rfl rfl 5 (by decide) (hts _ fl_C_43) (fun _ h9 => h9) rfl d_C_findRows_2 ?_
  refine lv_aload_n hx hb d_C_findRows_5 rfl (lv_at hl 1 rfl) ?_
  refine lv_iload_n hx hb d_C_findRows_6 rfl (lv_at hl 2 rfl) ?_
  obtain ⟨seOf_7, srOf_7, srVf_7, rtS_7, rtWf_7, hcl, hf⟩ := fn_e5 hf
  refine cv_WrV (rest := []) (wr := [(rb, .inr (4, [.ref rbW, .int rbS])), (rbW, .inl (cK 0, 4096, .inl rbWf))]) (w' := [(cr, .inr (5, [.int crN, .ref lg, .ref qs, .ref se, .ref sr, .ref rt, .ref rb, .ref ow, .int crL, .int crQ])), (lg, .inr (0, [.ref lgA, .ref lgT, .ref lgC, .int lgS])), (lgA, .inl (cK 0, 400, .inl lgAf)), (lgT, .inl (cK 0, 400, .inl lgTf)), (lgC, .inl (cK 1, 400, .inl lgCf)), (se, .inr (1, [.ref seO])), (seO, .inl (cK 0, 128, .inl seOf_7)), (sr, .inr (3, [.ref se, .ref srO, .ref srV])), (srO, .inl (cK 0, 4, .inl srOf_7)), (srV, .inl (cK 0, 4, .inl srVf_7)), (rt, .inr (4, [.ref rtW, .int rtS_7])), (rtW, .inl (cK 0, 4096, .inl rtWf_7)), (rb, .inr (4, [.ref rbW, .int rbS])), (rbW, .inl (cK 0, 4096, .inl rbWf)), (q, .inr (2, [.ref qI, .ref qL, .int qW, .int qP, .int qV])), (qI, .inl (cK 0, 9, .inl qIf)), (qL, .inl (cK 0, 3, .inl qLf))]) ⟨hx, hb, hml, hown, hts⟩ (c_C_fill l D cK cr lg qs se sr rt rb ow lgA lgT lgC seO srO srV rt rtW q qI qL crN crL crQ lgS lgAf lgTf lgCf seOf srOf srVf rtS 4096 rtWf qW qP qV qIf qLf N v2 seOf_7 srOf_7 srVf_7 rtS_7 rtWf_7 hcl) (cwV 3 hts (zz_V ml_C_144 im_C_fill se_C_fill in_C co_C_fill) rfl rfl rfl ⟨rfl, hd_C_fill⟩ ⟨Nat.le_of_ble_eq_true rfl, Nat.le_of_ble_eq_true rfl⟩) hK hP hD hS hA [0, 1, 2, 3, 4, 5, 6, 7, 8, 9, 10, 11, 14, 15, 16] [12, 13] [2, 3, 4, 5, 6, 7, 8, 9, 10, 11, 12, 13, 0, 1, 14, 15, 16] rfl (by decide) rfl (by decide) (by decide) rfl (by decide) 0 rfl rfl rfl rfl hl.1 rfl (Nat.le_of_ble_eq_true rfl) d_C_findRows_7 ⟨Nat.zero_le _, Nat.zero_le _⟩ (fun H locs hP hD hS => ?_)
  refine lv_iload_n hx hb d_C_findRows_10 rfl (lv_at hl 3 rfl) ?_
  refine lv_if_ne (tgt := 19) hx hb d_C_findRows_11 (by decide) (fun hc => ?_) (fun hc => ?_)
  · have hf := fn_f hc hf
    refine lv_aload_n hx hb d_C_findRows_19 rfl (lv_at hl 0 rfl) ?_
    refine va_get (D := D) (ci := 5) (v := .ref rb) (C := RK5) (T := TK5) (N := 10) hx hb hts iwK5 hown hK hP 0 rfl rfl 6 (by decide) (hts _ fl_C_47) (fun _ h9 => h9) rfl d_C_findRows_20 ?_
    obtain ⟨rbS_23, hcl, hf⟩ := fn_e1 hf
    refine cv_WrV (rest := []) (wr := [(cr, .inr (5, [.int crN, .ref lg, .ref qs, .ref se, .ref sr, .ref rt, .ref rb, .ref ow, .int crL, .int crQ])), (lg, .inr (0, [.ref lgA, .ref lgT, .ref lgC, .int lgS])), (lgA, .inl (cK 0, 400, .inl lgAf)), (lgT, .inl (cK 0, 400, .inl lgTf)), (lgC, .inl (cK 1, 400, .inl lgCf)), (se, .inr (1, [.ref seO])), (seO, .inl (cK 0, 128, .inl seOf_7)), (sr, .inr (3, [.ref se, .ref srO, .ref srV])), (srO, .inl (cK 0, 4, .inl srOf_7)), (srV, .inl (cK 0, 4, .inl srVf_7)), (rt, .inr (4, [.ref rtW, .int rtS_7])), (rtW, .inl (cK 0, 4096, .inl rtWf_7)), (rbW, .inl (cK 0, 4096, .inl rbWf)), (q, .inr (2, [.ref qI, .ref qL, .int qW, .int qP, .int qV])), (qI, .inl (cK 0, 9, .inl qIf)), (qL, .inl (cK 0, 3, .inl qLf))]) (w' := [(cr, .inr (5, [.int crN, .ref lg, .ref qs, .ref se, .ref sr, .ref rt, .ref rb, .ref ow, .int crL, .int crQ])), (lg, .inr (0, [.ref lgA, .ref lgT, .ref lgC, .int lgS])), (lgA, .inl (cK 0, 400, .inl lgAf)), (lgT, .inl (cK 0, 400, .inl lgTf)), (lgC, .inl (cK 1, 400, .inl lgCf)), (se, .inr (1, [.ref seO])), (seO, .inl (cK 0, 128, .inl seOf_7)), (sr, .inr (3, [.ref se, .ref srO, .ref srV])), (srO, .inl (cK 0, 4, .inl srOf_7)), (srV, .inl (cK 0, 4, .inl srVf_7)), (rt, .inr (4, [.ref rtW, .int rtS_7])), (rtW, .inl (cK 0, 4096, .inl rtWf_7)), (rb, .inr (4, [.ref rbW, .int rbS_23])), (rbW, .inl (cK 0, 4096, .inl rbWf)), (q, .inr (2, [.ref qI, .ref qL, .int qW, .int qP, .int qV])), (qI, .inl (cK 0, 9, .inl qIf)), (qL, .inl (cK 0, 3, .inl qLf))]) ⟨hx, hb, hml, hown, hts⟩ (c_Rs_clear l D cK rb rbW rbS rbS_23 hcl) (cwV 0 hts (zz_V ml_C_155 im_Rs_clear se_Rs_clear in_Rs co_Rs_clear) rfl rfl rfl ⟨rfl, hd_Rs_clear⟩ ⟨Nat.le_of_ble_eq_true rfl, Nat.le_of_ble_eq_true rfl⟩) hK hP hD hS hA [12] [0, 1, 2, 3, 4, 5, 6, 7, 8, 9, 10, 11, 13, 14, 15, 16] [0, 1, 2, 3, 4, 5, 6, 7, 8, 9, 10, 11, 16, 12, 13, 14, 15] rfl (by decide) rfl (by decide) (by decide) rfl (by decide) 12 rfl rfl rfl rfl hl.1 rfl (Nat.le_of_ble_eq_true rfl) d_C_findRows_23 ⟨Nat.zero_le _, Nat.zero_le _⟩ (fun H locs hP hD hS => ?_)
    refine lv_iload_n hx hb d_C_findRows_26 rfl (lv_at hl 2 rfl) ?_
    refine lv_if_le (tgt := 42) hx hb d_C_findRows_27 (by decide) (fun hc => ?_) (fun hc => ?_)
    · have hf := fn_t hc hf
      exact J_42 _ _ _ _ _ _ _ _ _ _ _ hf hP hD hS (lv_sub hl [0, 3] rfl)
    · have hf := fn_f hc hf
      refine lv_aload_n hx hb d_C_findRows_30 rfl (lv_at hl 0 rfl) ?_
      refine lv_aload_n hx hb d_C_findRows_31 rfl (lv_at hl 0 rfl) ?_
      refine va_get (D := D) (ci := 5) (v := .ref rb) (C := RK5) (T := TK5) (N := 10) hx hb hts iwK5 hown hK hP 0 rfl rfl 6 (by decide) (hts _ fl_C_47) (fun _ h9 => h9) rfl d_C_findRows_32 ?_
      refine lv_aload_n hx hb d_C_findRows_35 rfl (lv_at hl 1 rfl) ?_
      refine lv_iload_n hx hb d_C_findRows_36 rfl (lv_at hl 2 rfl) ?_
      refine lv_iconst (v := 1) hx hb d_C_findRows_37 (by decide) ?_
      refine lv_isub hx hb d_C_findRows_38 ?_
      obtain ⟨seOf_39, srOf_39, srVf_39, rbS_39, rbWf_39, hcl, hf⟩ := fn_e5 hf
      refine cv_WrV (rest := []) (wr := [(rt, .inr (4, [.ref rtW, .int rtS_7])), (rtW, .inl (cK 0, 4096, .inl rtWf_7))]) (w' := [(cr, .inr (5, [.int crN, .ref lg, .ref qs, .ref se, .ref sr, .ref rt, .ref rb, .ref ow, .int crL, .int crQ])), (lg, .inr (0, [.ref lgA, .ref lgT, .ref lgC, .int lgS])), (lgA, .inl (cK 0, 400, .inl lgAf)), (lgT, .inl (cK 0, 400, .inl lgTf)), (lgC, .inl (cK 1, 400, .inl lgCf)), (se, .inr (1, [.ref seO])), (seO, .inl (cK 0, 128, .inl seOf_39)), (sr, .inr (3, [.ref se, .ref srO, .ref srV])), (srO, .inl (cK 0, 4, .inl srOf_39)), (srV, .inl (cK 0, 4, .inl srVf_39)), (rt, .inr (4, [.ref rtW, .int rtS_7])), (rtW, .inl (cK 0, 4096, .inl rtWf_7)), (rb, .inr (4, [.ref rbW, .int rbS_39])), (rbW, .inl (cK 0, 4096, .inl rbWf_39)), (q, .inr (2, [.ref qI, .ref qL, .int qW, .int qP, .int qV])), (qI, .inl (cK 0, 9, .inl qIf)), (qL, .inl (cK 0, 3, .inl qLf))]) ⟨hx, hb, hml, hown, hts⟩ (c_C_fill l D cK cr lg qs se sr rt rb ow lgA lgT lgC seO srO srV rb rbW q qI qL crN crL crQ lgS lgAf lgTf lgCf seOf_7 srOf_7 srVf_7 rbS_23 4096 rbWf qW qP qV qIf qLf N (v2 - 1) seOf_39 srOf_39 srVf_39 rbS_39 rbWf_39 hcl) (cwV 3 hts (zz_V ml_C_144 im_C_fill se_C_fill in_C co_C_fill) rfl rfl rfl ⟨rfl, hd_C_fill⟩ ⟨Nat.le_of_ble_eq_true rfl, Nat.le_of_ble_eq_true rfl⟩) hK hP hD hS hA [0, 1, 2, 3, 4, 5, 6, 7, 8, 9, 12, 13, 14, 15, 16] [10, 11] [2, 3, 4, 5, 6, 7, 8, 9, 10, 11, 0, 1, 12, 13, 14, 15, 16] rfl (by decide) rfl (by decide) (by decide) rfl (by decide) 0 rfl rfl rfl rfl hl.1 rfl (Nat.le_of_ble_eq_true rfl) d_C_findRows_39 ⟨Nat.zero_le _, Nat.zero_le _⟩ (fun H locs hP hD hS => ?_)
      exact J_42 _ _ _ _ _ _ _ _ _ _ _ hf hP hD hS (lv_sub hl [0, 3] rfl)
  · have hf := fn_t hc hf
    refine lv_aload_n hx hb d_C_findRows_14 rfl (lv_at hl 0 rfl) ?_
    refine va_get (D := D) (ci := 5) (v := .ref rt) (C := RK5) (T := TK5) (N := 10) hx hb hts iwK5 hown hK hP 0 rfl rfl 5 (by decide) (hts _ fl_C_43) (fun _ h9 => h9) rfl d_C_findRows_15 ?_
    cases hf
    exact hret _ _ 18 _ hP hD hS d_C_findRows_18
abbrev rm_C_hasRowThrough : Room := { frames := 9, cells := 0, slots := 0, locals := 232 }
set_option maxHeartbeats 4000000 in
set_option maxRecDepth 100000 in
theorem c_C_hasRowThrough (l : Launch) (D : va_G) (cK : Nat → ClassId) (cr lg qs se sr rt rb ow lgA lgT lgC seO srO srV owW q qI qL : Nat) (crN : Int32) (crL : Int32) (crQ : Int32) (lgS : Int32) (lgAf : Nat → Int32) (lgTf : Nat → Int32) (lgCf : Nat → Int32) (seOf : Nat → Int32) (srOf : Nat → Int32) (srVf : Nat → Int32) (owS : Int32) (owWf : Nat → Int32) (qW : Int32) (qP : Int32) (qV : Int32) (qIf : Nat → Int32) (qLf : Nat → Int32) (N : Nat) (v2 : Int32) (v3 : Int32) (r : Int32) (o_seOf : Nat → Int32) (o_srOf : Nat → Int32) (o_srVf : Nat → Int32) (o_owS : Int32) (o_owWf : Nat → Int32) (hf : f_C_hasRowThrough N lgS lgAf lgTf lgCf seOf srOf srVf owS owWf qW qP qV qIf qLf v2 v3 = some (r, o_seOf, o_srOf, o_srVf, o_owS, o_owWf)) : WrI l y_C_hasRowThrough w_C_hasRowThrough rm_C_hasRowThrough D zz_cl (mt_ty cK RK2) [.ref cr, .ref q, .int v2, .int v3] [(cr, .inr (5, [.int crN, .ref lg, .ref qs, .ref se, .ref sr, .ref rt, .ref rb, .ref ow, .int crL, .int crQ])), (lg, .inr (0, [.ref lgA, .ref lgT, .ref lgC, .int lgS])), (lgA, .inl (cK 0, 400, .inl lgAf)), (lgT, .inl (cK 0, 400, .inl lgTf)), (lgC, .inl (cK 1, 400, .inl lgCf)), (se, .inr (1, [.ref seO])), (seO, .inl (cK 0, 128, .inl seOf)), (sr, .inr (3, [.ref se, .ref srO, .ref srV])), (srO, .inl (cK 0, 4, .inl srOf)), (srV, .inl (cK 0, 4, .inl srVf)), (ow, .inr (4, [.ref owW, .int owS])), (owW, .inl (cK 0, 1, .inl owWf)), (q, .inr (2, [.ref qI, .ref qL, .int qW, .int qP, .int qV])), (qI, .inl (cK 0, 9, .inl qIf)), (qL, .inl (cK 0, 3, .inl qLf))] [(cr, .inr (5, [.int crN, .ref lg, .ref qs, .ref se, .ref sr, .ref rt, .ref rb, .ref ow, .int crL, .int crQ])), (lg, .inr (0, [.ref lgA, .ref lgT, .ref lgC, .int lgS])), (lgA, .inl (cK 0, 400, .inl lgAf)), (lgT, .inl (cK 0, 400, .inl lgTf)), (lgC, .inl (cK 1, 400, .inl lgCf)), (se, .inr (1, [.ref seO])), (seO, .inl (cK 0, 128, .inl o_seOf)), (sr, .inr (3, [.ref se, .ref srO, .ref srV])), (srO, .inl (cK 0, 4, .inl o_srOf)), (srV, .inl (cK 0, 4, .inl o_srVf)), (ow, .inr (4, [.ref owW, .int o_owS])), (owW, .inl (cK 0, 1, .inl o_owWf)), (q, .inr (2, [.ref qI, .ref qL, .int qW, .int qP, .int qV])), (qI, .inl (cK 0, 9, .inl qIf)), (qL, .inl (cK 0, 3, .inl qLf))] r := by
  refine mk_WrI (cc := b_C_hasRowThrough) (maxL := 5) (ty := .boolean) (by decide +kernel) rfl (Nat.le_of_ble_eq_true rfl) ?_
  intro p e s m below meth c args Q A ls hx hb hml hown hts hA hK hP hD hret hl
  have hS : va_S A s.heap s.heap [] := va_S.rf
  have hl : lv_has ls 5 [(0, .ref cr), (1, .ref q), (2, .int v2), (3, .int v3)] := hl
  have J_3 : ∀ (v2 : Int32) (v3 : Int32) (n_3 : Nat) (seOf : Nat → Int32) (srOf : Nat → Int32) (srVf : Nat → Int32) (owS : Int32) (owWf : Nat → Int32) (v4 : Int32) (H : Heap) (locs : List Loc) (ls : Array Slot), f_C_hasRowThrough_3 N lgS lgAf lgTf lgCf qW qP qV qIf qLf v2 v3 n_3 seOf srOf srVf owS owWf v4 = some (r, o_seOf, o_srOf, o_srVf, o_owS, o_owWf) → va_P D zz_cl [(cr, .inr (5, [.int crN, .ref lg, .ref qs, .ref se, .ref sr, .ref rt, .ref rb, .ref ow, .int crL, .int crQ])), (lg, .inr (0, [.ref lgA, .ref lgT, .ref lgC, .int lgS])), (lgA, .inl (cK 0, 400, .inl lgAf)), (lgT, .inl (cK 0, 400, .inl lgTf)), (lgC, .inl (cK 1, 400, .inl lgCf)), (se, .inr (1, [.ref seO])), (seO, .inl (cK 0, 128, .inl seOf)), (sr, .inr (3, [.ref se, .ref srO, .ref srV])), (srO, .inl (cK 0, 4, .inl srOf)), (srV, .inl (cK 0, 4, .inl srVf)), (ow, .inr (4, [.ref owW, .int owS])), (owW, .inl (cK 0, 1, .inl owWf)), (q, .inr (2, [.ref qI, .ref qL, .int qW, .int qP, .int qV])), (qI, .inl (cK 0, 9, .inl qIf)), (qL, .inl (cK 0, 3, .inl qLf))] H → va_D A [(cr, .inr (5, [.int crN, .ref lg, .ref qs, .ref se, .ref sr, .ref rt, .ref rb, .ref ow, .int crL, .int crQ])), (lg, .inr (0, [.ref lgA, .ref lgT, .ref lgC, .int lgS])), (lgA, .inl (cK 0, 400, .inl lgAf)), (lgT, .inl (cK 0, 400, .inl lgTf)), (lgC, .inl (cK 1, 400, .inl lgCf)), (se, .inr (1, [.ref seO])), (seO, .inl (cK 0, 128, .inl seOf)), (sr, .inr (3, [.ref se, .ref srO, .ref srV])), (srO, .inl (cK 0, 4, .inl srOf)), (srV, .inl (cK 0, 4, .inl srVf)), (ow, .inr (4, [.ref owW, .int owS])), (owW, .inl (cK 0, 1, .inl owWf)), (q, .inr (2, [.ref qI, .ref qL, .int qW, .int qP, .int qV])), (qI, .inl (cK 0, 9, .inl qIf)), (qL, .inl (cK 0, 3, .inl qLf))] → va_S A s.heap H locs → lv_has ls 5 [(0, .ref cr), (1, .ref q), (2, .int v2), (3, .int v3), (4, .int v4)] → W p l e rm_C_hasRowThrough s m args below meth c H locs 0 0 Q (F0 m 3 ls []) := by
    intro v2 v3 n_3
    induction n_3 with
    | zero =>
      intro seOf srOf srVf owS owWf v4 H locs ls hf hP hD hS hl
      exact fn_0 hf
    | succ n_3 ih_3 =>
      intro seOf srOf srVf owS owWf v4 H locs ls hf hP hD hS hl
      rw [f_C_hasRowThrough_3.eq_2] at hf
      refine lv_iload hx hb d_C_hasRowThrough_3 (lv_at hl 4 rfl) ?_
      refine lv_aload_n hx hb d_C_hasRowThrough_5 rfl (lv_at hl 1 rfl) ?_
      refine va_get (D := D) (ci := 2) (v := .int qP) (C := RK2) (T := TK2) (N := 5) hx hb hts iwK2 hown hK hP 12 rfl rfl 3 (by decide) (hts _ fl_C_107) (fun _ h9 => h9) rfl d_C_hasRowThrough_6 ?_
      refine lv_icmp_ge (tgt := 96) hx hb d_C_hasRowThrough_9 (by decide) (fun hc => ?_) (fun hc => ?_)
      · have hf := fn_t hc hf
        refine lv_iconst (v := 0) hx hb d_C_hasRowThrough_96 (by decide) ?_
        cases hf
        exact hret _ _ 97 _ hP hD hS rfl d_C_hasRowThrough_97
      · have hf := fn_f hc hf
        refine lv_aload_n hx hb d_C_hasRowThrough_12 rfl (lv_at hl 0 rfl) ?_
        refine va_get (D := D) (ci := 5) (v := .ref sr) (C := RK5) (T := TK5) (N := 10) hx hb hts iwK5 hown hK hP 0 rfl rfl 4 (by decide) (hts _ fl_C_34) (fun _ h9 => h9) rfl d_C_hasRowThrough_13 ?_
        refine lv_aload_n hx hb d_C_hasRowThrough_16 rfl (lv_at hl 1 rfl) ?_
        obtain ⟨srOf_17, hcl, hf⟩ := fn_e1 hf
        refine cv_WrV (rest := []) (wr := [(cr, .inr (5, [.int crN, .ref lg, .ref qs, .ref se, .ref sr, .ref rt, .ref rb, .ref ow, .int crL, .int crQ])), (lg, .inr (0, [.ref lgA, .ref lgT, .ref lgC, .int lgS])), (lgA, .inl (cK 0, 400, .inl lgAf)), (lgT, .inl (cK 0, 400, .inl lgTf)), (lgC, .inl (cK 1, 400, .inl lgCf)), (se, .inr (1, [.ref seO])), (seO, .inl (cK 0, 128, .inl seOf)), (srV, .inl (cK 0, 4, .inl srVf)), (ow, .inr (4, [.ref owW, .int owS])), (owW, .inl (cK 0, 1, .inl owWf)), (qI, .inl (cK 0, 9, .inl qIf)), (qL, .inl (cK 0, 3, .inl qLf))]) (w' := [(cr, .inr (5, [.int crN, .ref lg, .ref qs, .ref se, .ref sr, .ref rt, .ref rb, .ref ow, .int crL, .int crQ])), (lg, .inr (0, [.ref lgA, .ref lgT, .ref lgC, .int lgS])), (lgA, .inl (cK 0, 400, .inl lgAf)), (lgT, .inl (cK 0, 400, .inl lgTf)), (lgC, .inl (cK 1, 400, .inl lgCf)), (se, .inr (1, [.ref seO])), (seO, .inl (cK 0, 128, .inl seOf)), (sr, .inr (3, [.ref se, .ref srO, .ref srV])), (srO, .inl (cK 0, 4, .inl srOf_17)), (srV, .inl (cK 0, 4, .inl srVf)), (ow, .inr (4, [.ref owW, .int owS])), (owW, .inl (cK 0, 1, .inl owWf)), (q, .inr (2, [.ref qI, .ref qL, .int qW, .int qP, .int qV])), (qI, .inl (cK 0, 9, .inl qIf)), (qL, .inl (cK 0, 3, .inl qLf))]) ⟨hx, hb, hml, hown, hts⟩ (c_Sr_begin l D cK sr se srO srV q qI qL srOf qW qP qV N srOf_17 hcl) (cwV 1 hts (zz_V ml_C_162 im_Sr_begin se_Sr_begin in_Sr co_Sr_begin) rfl rfl rfl ⟨rfl, hd_Sr_begin⟩ ⟨Nat.le_of_ble_eq_true rfl, Nat.le_of_ble_eq_true rfl⟩) hK hP hD hS hA [7, 8, 12] [0, 1, 2, 3, 4, 5, 6, 9, 10, 11, 13, 14] [0, 1, 2, 3, 4, 5, 6, 12, 13, 7, 8, 9, 14, 10, 11] rfl (by decide) rfl (by decide) (by decide) rfl (by decide) 7 rfl rfl rfl rfl hl.1 rfl (Nat.le_of_ble_eq_true rfl) d_C_hasRowThrough_17 ⟨Nat.zero_le _, Nat.zero_le _⟩ (fun H locs hP hD hS => ?_)
        refine lv_aload_n hx hb d_C_hasRowThrough_20 rfl (lv_at hl 0 rfl) ?_
        refine va_get (D := D) (ci := 5) (v := .ref sr) (C := RK5) (T := TK5) (N := 10) hx hb hts iwK5 hown hK hP 0 rfl rfl 4 (by decide) (hts _ fl_C_34) (fun _ h9 => h9) rfl d_C_hasRowThrough_21 ?_
        refine lv_aload_n hx hb d_C_hasRowThrough_24 rfl (lv_at hl 1 rfl) ?_
        refine lv_iload hx hb d_C_hasRowThrough_25 (lv_at hl 4 rfl) ?_
        refine lv_iload_n hx hb d_C_hasRowThrough_27 rfl (lv_at hl 3 rfl) ?_
        obtain ⟨r_28, srOf_28, hcl, hf⟩ := fn_e2 hf
        refine cv_WrI (rest := []) (wr := [(cr, .inr (5, [.int crN, .ref lg, .ref qs, .ref se, .ref sr, .ref rt, .ref rb, .ref ow, .int crL, .int crQ])), (lg, .inr (0, [.ref lgA, .ref lgT, .ref lgC, .int lgS])), (lgA, .inl (cK 0, 400, .inl lgAf)), (lgT, .inl (cK 0, 400, .inl lgTf)), (lgC, .inl (cK 1, 400, .inl lgCf)), (se, .inr (1, [.ref seO])), (seO, .inl (cK 0, 128, .inl seOf)), (srV, .inl (cK 0, 4, .inl srVf)), (ow, .inr (4, [.ref owW, .int owS])), (owW, .inl (cK 0, 1, .inl owWf)), (qL, .inl (cK 0, 3, .inl qLf))]) (w' := [(cr, .inr (5, [.int crN, .ref lg, .ref qs, .ref se, .ref sr, .ref rt, .ref rb, .ref ow, .int crL, .int crQ])), (lg, .inr (0, [.ref lgA, .ref lgT, .ref lgC, .int lgS])), (lgA, .inl (cK 0, 400, .inl lgAf)), (lgT, .inl (cK 0, 400, .inl lgTf)), (lgC, .inl (cK 1, 400, .inl lgCf)), (se, .inr (1, [.ref seO])), (seO, .inl (cK 0, 128, .inl seOf)), (sr, .inr (3, [.ref se, .ref srO, .ref srV])), (srO, .inl (cK 0, 4, .inl srOf_28)), (srV, .inl (cK 0, 4, .inl srVf)), (ow, .inr (4, [.ref owW, .int owS])), (owW, .inl (cK 0, 1, .inl owWf)), (q, .inr (2, [.ref qI, .ref qL, .int qW, .int qP, .int qV])), (qI, .inl (cK 0, 9, .inl qIf)), (qL, .inl (cK 0, 3, .inl qLf))]) ⟨hx, hb, hml, hown, hts⟩ (c_Sr_bind l D cK sr se srO srV q qI qL srOf_17 qW qP qV qIf v4 v3 r_28 srOf_28 hcl) (cwV 3 hts (zz_V ml_C_181 im_Sr_bind se_Sr_bind in_Sr co_Sr_bind) rfl rfl rfl ⟨rfl, hd_Sr_bind⟩ ⟨Nat.le_of_ble_eq_true rfl, Nat.le_of_ble_eq_true rfl⟩) hK hP hD hS hA [7, 8, 12, 13] [0, 1, 2, 3, 4, 5, 6, 9, 10, 11, 14] [0, 1, 2, 3, 4, 5, 6, 11, 12, 7, 8, 9, 13, 14, 10] rfl (by decide) rfl (by decide) (by decide) rfl (by decide) 7 rfl rfl rfl rfl hl.1 rfl (Nat.le_of_ble_eq_true rfl) d_C_hasRowThrough_28 ⟨Nat.zero_le _, Nat.zero_le _⟩ (fun H locs hP hD hS => ?_)
        refine lv_if_eq (tgt := 90) hx hb d_C_hasRowThrough_31 (by decide) (fun hc => ?_) (fun hc => ?_)
        · have hf := fn_t hc hf
          refine lv_iinc (v := (v4 + 1)) (lv' := [(4, .int (v4 + 1)), (0, .ref cr), (1, .ref q), (2, .int v2), (3, .int v3)]) hx hb d_C_hasRowThrough_90 hl (k := 4) rfl rfl (by decide) rfl (fun ls hl => ?_)
          refine lv_goto (tgt := 3) hx hb d_C_hasRowThrough_93 (by decide) ?_
          exact ih_3 _ _ _ _ _ _ _ _ _ hf hP hD hS (lv_sub hl [1, 2, 3, 4, 0] rfl)
        · have hf := fn_f hc hf
          refine lv_aload_n hx hb d_C_hasRowThrough_34 rfl (lv_at hl 0 rfl) ?_
          refine va_get (D := D) (ci := 5) (v := .ref ow) (C := RK5) (T := TK5) (N := 10) hx hb hts iwK5 hown hK hP 0 rfl rfl 7 (by decide) (hts _ fl_C_50) (fun _ h9 => h9) rfl d_C_hasRowThrough_35 ?_
          obtain ⟨owS_38, hcl, hf⟩ := fn_e1 hf
          refine cv_WrV (rest := []) (wr := [(cr, .inr (5, [.int crN, .ref lg, .ref qs, .ref se, .ref sr, .ref rt, .ref rb, .ref ow, .int crL, .int crQ])), (lg, .inr (0, [.ref lgA, .ref lgT, .ref lgC, .int lgS])), (lgA, .inl (cK 0, 400, .inl lgAf)), (lgT, .inl (cK 0, 400, .inl lgTf)), (lgC, .inl (cK 1, 400, .inl lgCf)), (se, .inr (1, [.ref seO])), (seO, .inl (cK 0, 128, .inl seOf)), (sr, .inr (3, [.ref se, .ref srO, .ref srV])), (srO, .inl (cK 0, 4, .inl srOf_28)), (srV, .inl (cK 0, 4, .inl srVf)), (owW, .inl (cK 0, 1, .inl owWf)), (q, .inr (2, [.ref qI, .ref qL, .int qW, .int qP, .int qV])), (qI, .inl (cK 0, 9, .inl qIf)), (qL, .inl (cK 0, 3, .inl qLf))]) (w' := [(cr, .inr (5, [.int crN, .ref lg, .ref qs, .ref se, .ref sr, .ref rt, .ref rb, .ref ow, .int crL, .int crQ])), (lg, .inr (0, [.ref lgA, .ref lgT, .ref lgC, .int lgS])), (lgA, .inl (cK 0, 400, .inl lgAf)), (lgT, .inl (cK 0, 400, .inl lgTf)), (lgC, .inl (cK 1, 400, .inl lgCf)), (se, .inr (1, [.ref seO])), (seO, .inl (cK 0, 128, .inl seOf)), (sr, .inr (3, [.ref se, .ref srO, .ref srV])), (srO, .inl (cK 0, 4, .inl srOf_28)), (srV, .inl (cK 0, 4, .inl srVf)), (ow, .inr (4, [.ref owW, .int owS_38])), (owW, .inl (cK 0, 1, .inl owWf)), (q, .inr (2, [.ref qI, .ref qL, .int qW, .int qP, .int qV])), (qI, .inl (cK 0, 9, .inl qIf)), (qL, .inl (cK 0, 3, .inl qLf))]) ⟨hx, hb, hml, hown, hts⟩ (c_Rs_clear l D cK ow owW owS owS_38 hcl) (cwV 0 hts (zz_V ml_C_155 im_Rs_clear se_Rs_clear in_Rs co_Rs_clear) rfl rfl rfl ⟨rfl, hd_Rs_clear⟩ ⟨Nat.le_of_ble_eq_true rfl, Nat.le_of_ble_eq_true rfl⟩) hK hP hD hS hA [10] [0, 1, 2, 3, 4, 5, 6, 7, 8, 9, 11, 12, 13, 14] [0, 1, 2, 3, 4, 5, 6, 7, 8, 9, 14, 10, 11, 12, 13] rfl (by decide) rfl (by decide) (by decide) rfl (by decide) 10 rfl rfl rfl rfl hl.1 rfl (Nat.le_of_ble_eq_true rfl) d_C_hasRowThrough_38 ⟨Nat.zero_le _, Nat.zero_le _⟩ (fun H locs hP hD hS => ?_)
          refine lv_aload_n hx hb d_C_hasRowThrough_41 rfl (lv_at hl 0 rfl) ?_
          refine va_get (D := D) (ci := 5) (v := .ref se) (C := RK5) (T := TK5) (N := 10) hx hb hts iwK5 hown hK hP 0 rfl rfl 3 (by decide) (hts _ fl_C_25) (fun _ h9 => h9) rfl d_C_hasRowThrough_42 ?_
          refine lv_aload_n hx hb d_C_hasRowThrough_45 rfl (lv_at hl 0 rfl) ?_
          refine va_get (D := D) (ci := 5) (v := .ref lg) (C := RK5) (T := TK5) (N := 10) hx hb hts iwK5 hown hK hP 0 rfl rfl 1 (by decide) (hts _ fl_C_12) (fun _ h9 => h9) rfl d_C_hasRowThrough_46 ?_
          refine lv_iload_n hx hb d_C_hasRowThrough_49 rfl (lv_at hl 2 rfl) ?_
          refine lv_aload_n hx hb d_C_hasRowThrough_50 rfl (lv_at hl 1 rfl) ?_
          refine va_get (D := D) (ci := 2) (v := .int qW) (C := RK2) (T := TK2) (N := 5) hx hb hts iwK2 hown hK hP 12 rfl rfl 2 (by decide) (hts _ fl_C_110) (fun _ h9 => h9) rfl d_C_hasRowThrough_51 ?_
          obtain ⟨seOf_54, hcl, hf⟩ := fn_e1 hf
          refine cv_WrV (rest := []) (wr := [(cr, .inr (5, [.int crN, .ref lg, .ref qs, .ref se, .ref sr, .ref rt, .ref rb, .ref ow, .int crL, .int crQ])), (sr, .inr (3, [.ref se, .ref srO, .ref srV])), (srO, .inl (cK 0, 4, .inl srOf_28)), (srV, .inl (cK 0, 4, .inl srVf)), (ow, .inr (4, [.ref owW, .int owS_38])), (owW, .inl (cK 0, 1, .inl owWf)), (q, .inr (2, [.ref qI, .ref qL, .int qW, .int qP, .int qV])), (qI, .inl (cK 0, 9, .inl qIf)), (qL, .inl (cK 0, 3, .inl qLf))]) (w' := [(cr, .inr (5, [.int crN, .ref lg, .ref qs, .ref se, .ref sr, .ref rt, .ref rb, .ref ow, .int crL, .int crQ])), (lg, .inr (0, [.ref lgA, .ref lgT, .ref lgC, .int lgS])), (lgA, .inl (cK 0, 400, .inl lgAf)), (lgT, .inl (cK 0, 400, .inl lgTf)), (lgC, .inl (cK 1, 400, .inl lgCf)), (se, .inr (1, [.ref seO])), (seO, .inl (cK 0, 128, .inl seOf_54)), (sr, .inr (3, [.ref se, .ref srO, .ref srV])), (srO, .inl (cK 0, 4, .inl srOf_28)), (srV, .inl (cK 0, 4, .inl srVf)), (ow, .inr (4, [.ref owW, .int owS_38])), (owW, .inl (cK 0, 1, .inl owWf)), (q, .inr (2, [.ref qI, .ref qL, .int qW, .int qP, .int qV])), (qI, .inl (cK 0, 9, .inl qIf)), (qL, .inl (cK 0, 3, .inl qLf))]) ⟨hx, hb, hml, hown, hts⟩ (c_Se_read l D cK lg lgA lgT lgC se seO lgS lgAf lgTf lgCf seOf N v2 qW seOf_54 hcl) (cwV 3 hts (zz_V ml_C_158 im_Se_read se_Se_read in_Se co_Se_read) rfl rfl rfl ⟨rfl, hd_Se_read⟩ ⟨Nat.le_of_ble_eq_true rfl, Nat.le_of_ble_eq_true rfl⟩) hK hP hD hS hA [1, 2, 3, 4, 5, 6] [0, 7, 8, 9, 10, 11, 12, 13, 14] [0, 9, 10, 11, 12, 13, 14, 1, 2, 3, 4, 5, 6, 7, 8] rfl (by decide) rfl (by decide) (by decide) rfl (by decide) 5 rfl rfl rfl rfl hl.1 rfl (Nat.le_of_ble_eq_true rfl) d_C_hasRowThrough_54 ⟨Nat.zero_le _, Nat.zero_le _⟩ (fun H locs hP hD hS => ?_)
          refine lv_aload_n hx hb d_C_hasRowThrough_57 rfl (lv_at hl 0 rfl) ?_
          refine va_get (D := D) (ci := 5) (v := .ref se) (C := RK5) (T := TK5) (N := 10) hx hb hts iwK5 hown hK hP 0 rfl rfl 3 (by decide) (hts _ fl_C_25) (fun _ h9 => h9) rfl d_C_hasRowThrough_58 ?_
          refine lv_iload_n hx hb d_C_hasRowThrough_61 rfl (lv_at hl 3 rfl) ?_
          refine lv_iconst (v := 1) hx hb d_C_hasRowThrough_62 (by decide) ?_
          obtain ⟨seOf_63, hcl, hf⟩ := fn_e1 hf
          refine cv_WrV (rest := []) (wr := [(cr, .inr (5, [.int crN, .ref lg, .ref qs, .ref se, .ref sr, .ref rt, .ref rb, .ref ow, .int crL, .int crQ])), (lg, .inr (0, [.ref lgA, .ref lgT, .ref lgC, .int lgS])), (lgA, .inl (cK 0, 400, .inl lgAf)), (lgT, .inl (cK 0, 400, .inl lgTf)), (lgC, .inl (cK 1, 400, .inl lgCf)), (sr, .inr (3, [.ref se, .ref srO, .ref srV])), (srO, .inl (cK 0, 4, .inl srOf_28)), (srV, .inl (cK 0, 4, .inl srVf)), (ow, .inr (4, [.ref owW, .int owS_38])), (owW, .inl (cK 0, 1, .inl owWf)), (q, .inr (2, [.ref qI, .ref qL, .int qW, .int qP, .int qV])), (qI, .inl (cK 0, 9, .inl qIf)), (qL, .inl (cK 0, 3, .inl qLf))]) (w' := [(cr, .inr (5, [.int crN, .ref lg, .ref qs, .ref se, .ref sr, .ref rt, .ref rb, .ref ow, .int crL, .int crQ])), (lg, .inr (0, [.ref lgA, .ref lgT, .ref lgC, .int lgS])), (lgA, .inl (cK 0, 400, .inl lgAf)), (lgT, .inl (cK 0, 400, .inl lgTf)), (lgC, .inl (cK 1, 400, .inl lgCf)), (se, .inr (1, [.ref seO])), (seO, .inl (cK 0, 128, .inl seOf_63)), (sr, .inr (3, [.ref se, .ref srO, .ref srV])), (srO, .inl (cK 0, 4, .inl srOf_28)), (srV, .inl (cK 0, 4, .inl srVf)), (ow, .inr (4, [.ref owW, .int owS_38])), (owW, .inl (cK 0, 1, .inl owWf)), (q, .inr (2, [.ref qI, .ref qL, .int qW, .int qP, .int qV])), (qI, .inl (cK 0, 9, .inl qIf)), (qL, .inl (cK 0, 3, .inl qLf))]) ⟨hx, hb, hml, hown, hts⟩ (c_Se_put l D cK se seO seOf_54 v3 1 seOf_63 hcl) (cwV 2 hts (zz_V ml_C_184 im_Se_put se_Se_put in_Se co_Se_put) rfl rfl rfl ⟨rfl, hd_Se_put⟩ ⟨Nat.le_of_ble_eq_true rfl, Nat.le_of_ble_eq_true rfl⟩) hK hP hD hS hA [5, 6] [0, 1, 2, 3, 4, 7, 8, 9, 10, 11, 12, 13, 14] [0, 1, 2, 3, 4, 13, 14, 5, 6, 7, 8, 9, 10, 11, 12] rfl (by decide) rfl (by decide) (by decide) rfl (by decide) 5 rfl rfl rfl rfl hl.1 rfl (Nat.le_of_ble_eq_true rfl) d_C_hasRowThrough_63 ⟨Nat.zero_le _, Nat.zero_le _⟩ (fun H locs hP hD hS => ?_)
          refine lv_aload_n hx hb d_C_hasRowThrough_66 rfl (lv_at hl 0 rfl) ?_
          refine va_get (D := D) (ci := 5) (v := .ref sr) (C := RK5) (T := TK5) (N := 10) hx hb hts iwK5 hown hK hP 0 rfl rfl 4 (by decide) (hts _ fl_C_34) (fun _ h9 => h9) rfl d_C_hasRowThrough_67 ?_
          refine lv_aload_n hx hb d_C_hasRowThrough_70 rfl (lv_at hl 1 rfl) ?_
          refine lv_aload_n hx hb d_C_hasRowThrough_71 rfl (lv_at hl 0 rfl) ?_
          refine va_get (D := D) (ci := 5) (v := .ref ow) (C := RK5) (T := TK5) (N := 10) hx hb hts iwK5 hown hK hP 0 rfl rfl 7 (by decide) (hts _ fl_C_50) (fun _ h9 => h9) rfl d_C_hasRowThrough_72 ?_
          obtain ⟨srOf_75, srVf_75, owS_75, owWf_75, hcl, hf⟩ := fn_e4 hf
          refine cv_WrV (rest := []) (wr := [(cr, .inr (5, [.int crN, .ref lg, .ref qs, .ref se, .ref sr, .ref rt, .ref rb, .ref ow, .int crL, .int crQ])), (lg, .inr (0, [.ref lgA, .ref lgT, .ref lgC, .int lgS])), (lgA, .inl (cK 0, 400, .inl lgAf)), (lgT, .inl (cK 0, 400, .inl lgTf)), (lgC, .inl (cK 1, 400, .inl lgCf))]) (w' := [(cr, .inr (5, [.int crN, .ref lg, .ref qs, .ref se, .ref sr, .ref rt, .ref rb, .ref ow, .int crL, .int crQ])), (lg, .inr (0, [.ref lgA, .ref lgT, .ref lgC, .int lgS])), (lgA, .inl (cK 0, 400, .inl lgAf)), (lgT, .inl (cK 0, 400, .inl lgTf)), (lgC, .inl (cK 1, 400, .inl lgCf)), (se, .inr (1, [.ref seO])), (seO, .inl (cK 0, 128, .inl seOf_63)), (sr, .inr (3, [.ref se, .ref srO, .ref srV])), (srO, .inl (cK 0, 4, .inl srOf_75)), (srV, .inl (cK 0, 4, .inl srVf_75)), (ow, .inr (4, [.ref owW, .int owS_75])), (owW, .inl (cK 0, 1, .inl owWf_75)), (q, .inr (2, [.ref qI, .ref qL, .int qW, .int qP, .int qV])), (qI, .inl (cK 0, 9, .inl qIf)), (qL, .inl (cK 0, 3, .inl qLf))]) ⟨hx, hb, hml, hown, hts⟩ (c_Sr_run l D cK se seO sr srO srV ow owW q qI qL seOf_63 srOf_28 srVf owS_38 1 owWf qW qP qV qIf qLf N srOf_75 srVf_75 owS_75 owWf_75 hcl) (cwV 2 hts (zz_V ml_C_166 im_Sr_run se_Sr_run in_Sr co_Sr_run) rfl rfl rfl ⟨rfl, hd_Sr_run⟩ ⟨Nat.le_of_ble_eq_true rfl, Nat.le_of_ble_eq_true rfl⟩) hK hP hD hS hA [5, 6, 7, 8, 9, 10, 11, 12, 13, 14] [0, 1, 2, 3, 4] [0, 1, 2, 3, 4, 5, 6, 7, 8, 9, 10, 11, 12, 13, 14] rfl (by decide) rfl (by decide) (by decide) rfl (by decide) 7 rfl rfl rfl rfl hl.1 rfl (Nat.le_of_ble_eq_true rfl) d_C_hasRowThrough_75 ⟨Nat.zero_le _, Nat.zero_le _⟩ (fun H locs hP hD hS => ?_)
          refine lv_aload_n hx hb d_C_hasRowThrough_78 rfl (lv_at hl 0 rfl) ?_
          refine va_get (D := D) (ci := 5) (v := .ref ow) (C := RK5) (T := TK5) (N := 10) hx hb hts iwK5 hown hK hP 0 rfl rfl 7 (by decide) (hts _ fl_C_50) (fun _ h9 => h9) rfl d_C_hasRowThrough_79 ?_
          refine va_get (D := D) (ci := 4) (v := .int owS_75) (C := RK4) (T := TK4) (N := 2) hx hb hts iwK4 hown hK hP 10 rfl rfl 1 (by decide) (hts _ fl_C_188) (fun _ h9 => h9) rfl d_C_hasRowThrough_82 ?_
          refine lv_if_le (tgt := 90) hx hb d_C_hasRowThrough_85 (by decide) (fun hc => ?_) (fun hc => ?_)
          · have hf := fn_t hc hf
            refine lv_iinc (v := (v4 + 1)) (lv' := [(4, .int (v4 + 1)), (0, .ref cr), (1, .ref q), (2, .int v2), (3, .int v3)]) hx hb d_C_hasRowThrough_90 hl (k := 4) rfl rfl (by decide) rfl (fun ls hl => ?_)
            refine lv_goto (tgt := 3) hx hb d_C_hasRowThrough_93 (by decide) ?_
            exact ih_3 _ _ _ _ _ _ _ _ _ hf hP hD hS (lv_sub hl [1, 2, 3, 4, 0] rfl)
          · have hf := fn_f hc hf
            refine lv_iconst (v := 1) hx hb d_C_hasRowThrough_88 (by decide) ?_
            cases hf
            exact hret _ _ 89 _ hP hD hS rfl d_C_hasRowThrough_89
  unfold f_C_hasRowThrough at hf
  refine lv_iconst (v := 0) hx hb d_C_hasRowThrough_0 (by decide) ?_
  refine lv_istore (lv' := [(4, .int 0), (0, .ref cr), (1, .ref q), (2, .int v2), (3, .int v3)]) hx hb d_C_hasRowThrough_1 hl (by decide) rfl (fun ls hl => ?_)
  exact J_3 _ _ _ _ _ _ _ _ _ _ _ _ hf hP hD hS (lv_sub hl [1, 2, 3, 4, 0] rfl)
abbrev rm_C_rows : Room := { frames := 1, cells := 0, slots := 0, locals := 21 }
set_option maxHeartbeats 4000000 in
set_option maxRecDepth 100000 in
theorem c_C_rows (l : Launch) (D : va_G) (cK : Nat → ClassId) (cr lg qs se sr rt rb ow : Nat) (crN : Int32) (crL : Int32) (crQ : Int32) (qsf : Nat → Option Nat) (v1 : Int32) (v2 : Int32) (r : Int32) (hf : f_C_rows crQ qsf v1 v2 = some r) : RdI l y_C_rows w_C_rows rm_C_rows D zz_cl (mt_ty cK RK2) [.ref cr, .int v1, .int v2] [(cr, .inr (5, [.int crN, .ref lg, .ref qs, .ref se, .ref sr, .ref rt, .ref rb, .ref ow, .int crL, .int crQ])), (qs, .inl (cK 3, 12, .inr (.inr (.inr (.inr qsf)))))] r := by
  refine mk_RdI (cc := b_C_rows) (maxL := 4) (ty := .int) (by decide +kernel) rfl (Nat.le_of_ble_eq_true rfl) ?_
  intro p e s m below meth c args Q ls hx hb hml hown hts hK hP hret hl
  have hl : lv_has ls 4 [(0, .ref cr), (1, .int v1), (2, .int v2)] := hl
  unfold f_C_rows at hf
  refine lv_aload_n hx hb d_C_rows_0 rfl (lv_at hl 0 rfl) ?_
  refine lv_iload_n hx hb d_C_rows_1 rfl (lv_at hl 1 rfl) ?_
  obtain ⟨r_2, hcl, hf⟩ := fn_e1 hf
  refine cv_RdQ (rest := []) ⟨hx, hb, hml, hown, hts⟩ (c_C_find l D cK cr lg qs se sr rt rb ow crN crL crQ qsf v1 r_2 hcl) (cwV 1 hts (zz_V ml_C_96 im_C_find se_C_find in_C co_C_find) rfl rfl rfl ⟨rfl, hd_C_find⟩ ⟨Nat.le_of_ble_eq_true rfl, Nat.le_of_ble_eq_true rfl⟩) hK hP [0, 1] rfl 0 rfl rfl rfl rfl hl.1 rfl (Nat.le_of_ble_eq_true rfl) d_C_rows_2 ⟨Nat.zero_le _, Nat.zero_le _⟩ ?_
  rcases r_2 with _ | aq
  · have hf := fn_oN hf
    refine lv_astore_nN (lv' := [(3, .null), (0, .ref cr), (1, .int v1), (2, .int v2)]) hx hb d_C_rows_5 rfl hl (by decide) rfl (fun ls hl => ?_)
    refine lv_aload_nN hx hb d_C_rows_6 rfl (lv_at hl 0 rfl) ?_
    refine lv_ifnullN (tgt := 18) hx hb d_C_rows_7 (by decide) ?_
    refine lv_iconst (v := (-1)) hx hb d_C_rows_18 (by decide) ?_
    cases hf
    exact hret 19 _ rfl d_C_rows_19
  · have hf := fn_oS hf
    exact fn_0 hf
abbrev rm_C_rowsq : Room := { frames := 11, cells := 0, slots := 0, locals := 278 }
set_option maxHeartbeats 4000000 in
set_option maxRecDepth 100000 in
theorem c_C_rowsq (l : Launch) (D : va_G) (cK : Nat → ClassId) (cr lg qs se sr rt rb ow lgA lgT lgC seO srO srV rtW rbW q qI qL : Nat) (crN : Int32) (crL : Int32) (crQ : Int32) (qsf : Nat → Option Nat) (lgS : Int32) (lgAf : Nat → Int32) (lgTf : Nat → Int32) (lgCf : Nat → Int32) (seOf : Nat → Int32) (srOf : Nat → Int32) (srVf : Nat → Int32) (rtS : Int32) (rtWf : Nat → Int32) (rbS : Int32) (rbWf : Nat → Int32) (qW : Int32) (qP : Int32) (qV : Int32) (qIf : Nat → Int32) (qLf : Nat → Int32) (N : Nat) (v1 : Int32) (v2 : Int32) (r : Int32) (o_seOf : Nat → Int32) (o_srOf : Nat → Int32) (o_srVf : Nat → Int32) (o_rtS : Int32) (o_rtWf : Nat → Int32) (o_rbS : Int32) (o_rbWf : Nat → Int32) (hf : f_C_rowsq N rt rb q crL crQ qsf lgS lgAf lgTf lgCf seOf srOf srVf rtS rtWf rbS rbWf qW qP qV qIf qLf v1 v2 = some (r, o_seOf, o_srOf, o_srVf, o_rtS, o_rtWf, o_rbS, o_rbWf)) : WrI l y_C_rows w_C_rows rm_C_rowsq D zz_cl (mt_ty cK RK2) [.ref cr, .int v1, .int v2] [(cr, .inr (5, [.int crN, .ref lg, .ref qs, .ref se, .ref sr, .ref rt, .ref rb, .ref ow, .int crL, .int crQ])), (qs, .inl (cK 3, 12, .inr (.inr (.inr (.inr qsf))))), (lg, .inr (0, [.ref lgA, .ref lgT, .ref lgC, .int lgS])), (lgA, .inl (cK 0, 400, .inl lgAf)), (lgT, .inl (cK 0, 400, .inl lgTf)), (lgC, .inl (cK 1, 400, .inl lgCf)), (se, .inr (1, [.ref seO])), (seO, .inl (cK 0, 128, .inl seOf)), (sr, .inr (3, [.ref se, .ref srO, .ref srV])), (srO, .inl (cK 0, 4, .inl srOf)), (srV, .inl (cK 0, 4, .inl srVf)), (rt, .inr (4, [.ref rtW, .int rtS])), (rtW, .inl (cK 0, 4096, .inl rtWf)), (rb, .inr (4, [.ref rbW, .int rbS])), (rbW, .inl (cK 0, 4096, .inl rbWf)), (q, .inr (2, [.ref qI, .ref qL, .int qW, .int qP, .int qV])), (qI, .inl (cK 0, 9, .inl qIf)), (qL, .inl (cK 0, 3, .inl qLf))] [(cr, .inr (5, [.int crN, .ref lg, .ref qs, .ref se, .ref sr, .ref rt, .ref rb, .ref ow, .int crL, .int crQ])), (qs, .inl (cK 3, 12, .inr (.inr (.inr (.inr qsf))))), (lg, .inr (0, [.ref lgA, .ref lgT, .ref lgC, .int lgS])), (lgA, .inl (cK 0, 400, .inl lgAf)), (lgT, .inl (cK 0, 400, .inl lgTf)), (lgC, .inl (cK 1, 400, .inl lgCf)), (se, .inr (1, [.ref seO])), (seO, .inl (cK 0, 128, .inl o_seOf)), (sr, .inr (3, [.ref se, .ref srO, .ref srV])), (srO, .inl (cK 0, 4, .inl o_srOf)), (srV, .inl (cK 0, 4, .inl o_srVf)), (rt, .inr (4, [.ref rtW, .int o_rtS])), (rtW, .inl (cK 0, 4096, .inl o_rtWf)), (rb, .inr (4, [.ref rbW, .int o_rbS])), (rbW, .inl (cK 0, 4096, .inl o_rbWf)), (q, .inr (2, [.ref qI, .ref qL, .int qW, .int qP, .int qV])), (qI, .inl (cK 0, 9, .inl qIf)), (qL, .inl (cK 0, 3, .inl qLf))] r := by
  refine mk_WrI (cc := b_C_rows) (maxL := 4) (ty := .int) (by decide +kernel) rfl (Nat.le_of_ble_eq_true rfl) ?_
  intro p e s m below meth c args Q A ls hx hb hml hown hts hA hK hP hD hret hl
  have hS : va_S A s.heap s.heap [] := va_S.rf
  have hl : lv_has ls 4 [(0, .ref cr), (1, .int v1), (2, .int v2)] := hl
  unfold f_C_rowsq at hf
  refine lv_aload_n hx hb d_C_rows_0 rfl (lv_at hl 0 rfl) ?_
  refine lv_iload_n hx hb d_C_rows_1 rfl (lv_at hl 1 rfl) ?_
  obtain ⟨r_2, hcl, hf⟩ := fn_e1 hf
  refine cv_RdQ (rest := []) ⟨hx, hb, hml, hown, hts⟩ (c_C_find l D cK cr lg qs se sr rt rb ow crN crL crQ qsf v1 r_2 hcl) (cwV 1 hts (zz_V ml_C_96 im_C_find se_C_find in_C co_C_find) rfl rfl rfl ⟨rfl, hd_C_find⟩ ⟨Nat.le_of_ble_eq_true rfl, Nat.le_of_ble_eq_true rfl⟩) hK hP [0, 1] rfl 0 rfl rfl rfl rfl hl.1 rfl (Nat.le_of_ble_eq_true rfl) d_C_rows_2 ⟨Nat.zero_le _, Nat.zero_le _⟩ ?_
  rcases r_2 with _ | aq
  · have hf := fn_oN hf
    refine lv_astore_nN (lv' := [(3, .null), (0, .ref cr), (1, .int v1), (2, .int v2)]) hx hb d_C_rows_5 rfl hl (by decide) rfl (fun ls hl => ?_)
    refine lv_aload_nN hx hb d_C_rows_6 rfl (lv_at hl 0 rfl) ?_
    refine lv_ifnullN (tgt := 18) hx hb d_C_rows_7 (by decide) ?_
    refine lv_iconst (v := (-1)) hx hb d_C_rows_18 (by decide) ?_
    cases hf
    exact hret _ _ 19 _ hP hD hS rfl d_C_rows_19
  · have hf := fn_oS hf
    have hg := fn_g hf
    have hf := fn_t hg hf
    rw [hg]
    refine lv_astore_n (lv' := [(3, .ref q), (0, .ref cr), (1, .int v1), (2, .int v2)]) hx hb d_C_rows_5 rfl hl (by decide) rfl (fun ls hl => ?_)
    refine lv_aload_n hx hb d_C_rows_6 rfl (lv_at hl 0 rfl) ?_
    refine lv_ifnull hx hb d_C_rows_7 ?_
    refine lv_aload_n hx hb d_C_rows_10 rfl (lv_at hl 1 rfl) ?_
    refine lv_iload_n hx hb d_C_rows_11 rfl (lv_at hl 3 rfl) ?_
    obtain ⟨r_12, hcl, hf⟩ := fn_e1 hf
    refine cv_RdI (rest := []) ⟨hx, hb, hml, hown, hts⟩ (c_C_isPast l D cK cr lg qs se sr rt rb ow crN crL crQ v2 r_12 hcl) (cwV 1 hts (zz_V ml_C_113 im_C_isPast se_C_isPast in_C co_C_isPast) rfl rfl rfl ⟨rfl, hd_C_isPast⟩ ⟨Nat.le_of_ble_eq_true rfl, Nat.le_of_ble_eq_true rfl⟩) hK hP [0] rfl 0 rfl rfl rfl rfl hl.1 rfl (Nat.le_of_ble_eq_true rfl) d_C_rows_12 ⟨Nat.zero_le _, Nat.zero_le _⟩ ?_
    refine lv_if_ne (tgt := 20) hx hb d_C_rows_15 (by decide) (fun hc => ?_) (fun hc => ?_)
    · have hf := fn_f hc hf
      refine lv_aload_n hx hb d_C_rows_20 rfl (lv_at hl 1 rfl) ?_
      refine lv_aload_n hx hb d_C_rows_21 rfl (lv_at hl 0 rfl) ?_
      refine lv_iload_n hx hb d_C_rows_22 rfl (lv_at hl 3 rfl) ?_
      refine lv_iconst (v := 0) hx hb d_C_rows_23 (by decide) ?_
      obtain ⟨r_24, seOf_24, srOf_24, srVf_24, rtS_24, rtWf_24, rbS_24, rbWf_24, hcl, hf⟩ := fn_e8 hf
      refine cv_WrR (rest := []) (wr := [(qs, .inl (cK 3, 12, .inr (.inr (.inr (.inr qsf)))))]) (w' := [(cr, .inr (5, [.int crN, .ref lg, .ref qs, .ref se, .ref sr, .ref rt, .ref rb, .ref ow, .int crL, .int crQ])), (qs, .inl (cK 3, 12, .inr (.inr (.inr (.inr qsf))))), (lg, .inr (0, [.ref lgA, .ref lgT, .ref lgC, .int lgS])), (lgA, .inl (cK 0, 400, .inl lgAf)), (lgT, .inl (cK 0, 400, .inl lgTf)), (lgC, .inl (cK 1, 400, .inl lgCf)), (se, .inr (1, [.ref seO])), (seO, .inl (cK 0, 128, .inl seOf_24)), (sr, .inr (3, [.ref se, .ref srO, .ref srV])), (srO, .inl (cK 0, 4, .inl srOf_24)), (srV, .inl (cK 0, 4, .inl srVf_24)), (rt, .inr (4, [.ref rtW, .int rtS_24])), (rtW, .inl (cK 0, 4096, .inl rtWf_24)), (rb, .inr (4, [.ref rbW, .int rbS_24])), (rbW, .inl (cK 0, 4096, .inl rbWf_24)), (q, .inr (2, [.ref qI, .ref qL, .int qW, .int qP, .int qV])), (qI, .inl (cK 0, 9, .inl qIf)), (qL, .inl (cK 0, 3, .inl qLf))]) ⟨hx, hb, hml, hown, hts⟩ (c_C_findRows l D cK cr lg qs se sr rt rb ow lgA lgT lgC seO srO srV rtW rbW q qI qL crN crL crQ lgS lgAf lgTf lgCf seOf srOf srVf rtS rtWf rbS rbWf qW qP qV qIf qLf N v2 0 r_24 seOf_24 srOf_24 srVf_24 rtS_24 rtWf_24 rbS_24 rbWf_24 hcl) (cwV 3 hts (zz_V ml_C_116 im_C_findRows se_C_findRows in_C co_C_findRows) rfl rfl rfl ⟨rfl, hd_C_findRows⟩ ⟨Nat.le_of_ble_eq_true rfl, Nat.le_of_ble_eq_true rfl⟩) hK hP hD hS hA [0, 2, 3, 4, 5, 6, 7, 8, 9, 10, 11, 12, 13, 14, 15, 16, 17] [1] [1, 0, 2, 3, 4, 5, 6, 7, 8, 9, 10, 11, 12, 13, 14, 15, 16, 17] rfl (by decide) rfl (by decide) (by decide) rfl (by decide) 0 rfl rfl rfl rfl hl.1 rfl (Nat.le_of_ble_eq_true rfl) d_C_rows_24 ⟨Nat.zero_le _, Nat.zero_le _⟩ (fun H locs hP hD hS => ?_)
      by_cases hc : r_24 = rt
      · have hf := fn_t hc hf
        rw [hc]
        obtain ⟨r_27, hcl, hf⟩ := fn_e1 hf
        refine cv_RdI (rest := []) ⟨hx, hb, hml, hown, hts⟩ (c_Rs_count l D cK rt rtW rtS_24 4096 rtWf_24 N r_27 hcl) (cwV 0 hts (zz_V ml_C_120 im_Rs_count se_Rs_count in_Rs co_Rs_count) rfl rfl rfl ⟨rfl, hd_Rs_count⟩ ⟨Nat.le_of_ble_eq_true rfl, Nat.le_of_ble_eq_true rfl⟩) hK hP [11, 12] rfl 11 rfl rfl rfl rfl hl.1 rfl (Nat.le_of_ble_eq_true rfl) d_C_rows_27 ⟨Nat.zero_le _, Nat.zero_le _⟩ ?_
        cases hf
        exact hret _ _ 30 _ hP hD hS rfl d_C_rows_30
      · have hf := fn_f hc hf
        by_cases hc : r_24 = rb
        · have hf := fn_t hc hf
          rw [hc]
          obtain ⟨r_27, hcl, hf⟩ := fn_e1 hf
          refine cv_RdI (rest := []) ⟨hx, hb, hml, hown, hts⟩ (c_Rs_count l D cK rb rbW rbS_24 4096 rbWf_24 N r_27 hcl) (cwV 0 hts (zz_V ml_C_120 im_Rs_count se_Rs_count in_Rs co_Rs_count) rfl rfl rfl ⟨rfl, hd_Rs_count⟩ ⟨Nat.le_of_ble_eq_true rfl, Nat.le_of_ble_eq_true rfl⟩) hK hP [13, 14] rfl 13 rfl rfl rfl rfl hl.1 rfl (Nat.le_of_ble_eq_true rfl) d_C_rows_27 ⟨Nat.zero_le _, Nat.zero_le _⟩ ?_
          cases hf
          exact hret _ _ 30 _ hP hD hS rfl d_C_rows_30
        · have hf := fn_f hc hf
          exact fn_0 hf
    · have hf := fn_t hc hf
      refine lv_iconst (v := (-1)) hx hb d_C_rows_18 (by decide) ?_
      cases hf
      exact hret _ _ 19 _ hP hD hS rfl d_C_rows_19
abbrev rm_C_changed : Room := { frames := 1, cells := 0, slots := 0, locals := 21 }
set_option maxHeartbeats 4000000 in
set_option maxRecDepth 100000 in
theorem c_C_changed (l : Launch) (D : va_G) (cK : Nat → ClassId) (cr lg qs se sr rt rb ow : Nat) (crN : Int32) (crL : Int32) (crQ : Int32) (qsf : Nat → Option Nat) (v1 : Int32) (v2 : Int32) (v3 : Int32) (r : Int32) (hf : f_C_changed crQ qsf v1 v2 v3 = some r) : RdI l y_C_changed w_C_changed rm_C_changed D zz_cl (mt_ty cK RK2) [.ref cr, .int v1, .int v2, .int v3] [(cr, .inr (5, [.int crN, .ref lg, .ref qs, .ref se, .ref sr, .ref rt, .ref rb, .ref ow, .int crL, .int crQ])), (qs, .inl (cK 3, 12, .inr (.inr (.inr (.inr qsf)))))] r := by
  refine mk_RdI (cc := b_C_changed) (maxL := 5) (ty := .int) (by decide +kernel) rfl (Nat.le_of_ble_eq_true rfl) ?_
  intro p e s m below meth c args Q ls hx hb hml hown hts hK hP hret hl
  have hl : lv_has ls 5 [(0, .ref cr), (1, .int v1), (2, .int v2), (3, .int v3)] := hl
  unfold f_C_changed at hf
  refine lv_aload_n hx hb d_C_changed_0 rfl (lv_at hl 0 rfl) ?_
  refine lv_iload_n hx hb d_C_changed_1 rfl (lv_at hl 1 rfl) ?_
  obtain ⟨r_2, hcl, hf⟩ := fn_e1 hf
  refine cv_RdQ (rest := []) ⟨hx, hb, hml, hown, hts⟩ (c_C_find l D cK cr lg qs se sr rt rb ow crN crL crQ qsf v1 r_2 hcl) (cwV 1 hts (zz_V ml_C_96 im_C_find se_C_find in_C co_C_find) rfl rfl rfl ⟨rfl, hd_C_find⟩ ⟨Nat.le_of_ble_eq_true rfl, Nat.le_of_ble_eq_true rfl⟩) hK hP [0, 1] rfl 0 rfl rfl rfl rfl hl.1 rfl (Nat.le_of_ble_eq_true rfl) d_C_changed_2 ⟨Nat.zero_le _, Nat.zero_le _⟩ ?_
  rcases r_2 with _ | aq
  · have hf := fn_oN hf
    refine lv_astoreN (lv' := [(4, .null), (0, .ref cr), (1, .int v1), (2, .int v2), (3, .int v3)]) hx hb d_C_changed_5 hl (by decide) rfl (fun ls hl => ?_)
    refine lv_aloadN hx hb d_C_changed_7 (lv_at hl 0 rfl) ?_
    refine lv_ifnullN (tgt := 20) hx hb d_C_changed_9 (by decide) ?_
    refine lv_iconst (v := (-1)) hx hb d_C_changed_20 (by decide) ?_
    cases hf
    exact hret 21 _ rfl d_C_changed_21
  · have hf := fn_oS hf
    exact fn_0 hf
abbrev rm_C_changedq : Room := { frames := 11, cells := 0, slots := 0, locals := 278 }
set_option maxHeartbeats 4000000 in
set_option maxRecDepth 100000 in
theorem c_C_changedq (l : Launch) (D : va_G) (cK : Nat → ClassId) (cr lg qs se sr rt rb ow lgA lgT lgC seO srO srV rtW rbW q qI qL : Nat) (crN : Int32) (crL : Int32) (crQ : Int32) (qsf : Nat → Option Nat) (lgS : Int32) (lgAf : Nat → Int32) (lgTf : Nat → Int32) (lgCf : Nat → Int32) (seOf : Nat → Int32) (srOf : Nat → Int32) (srVf : Nat → Int32) (rtS : Int32) (rtWf : Nat → Int32) (rbS : Int32) (rbWf : Nat → Int32) (qW : Int32) (qP : Int32) (qV : Int32) (qIf : Nat → Int32) (qLf : Nat → Int32) (N : Nat) (v1 : Int32) (v2 : Int32) (v3 : Int32) (r : Int32) (o_seOf : Nat → Int32) (o_srOf : Nat → Int32) (o_srVf : Nat → Int32) (o_rtS : Int32) (o_rtWf : Nat → Int32) (o_rbS : Int32) (o_rbWf : Nat → Int32) (hf : f_C_changedq N rt rb q crL crQ qsf lgS lgAf lgTf lgCf seOf srOf srVf rtS rtWf rbS rbWf qW qP qV qIf qLf v1 v2 v3 = some (r, o_seOf, o_srOf, o_srVf, o_rtS, o_rtWf, o_rbS, o_rbWf)) : WrI l y_C_changed w_C_changed rm_C_changedq D zz_cl (mt_ty cK RK2) [.ref cr, .int v1, .int v2, .int v3] [(cr, .inr (5, [.int crN, .ref lg, .ref qs, .ref se, .ref sr, .ref rt, .ref rb, .ref ow, .int crL, .int crQ])), (qs, .inl (cK 3, 12, .inr (.inr (.inr (.inr qsf))))), (lg, .inr (0, [.ref lgA, .ref lgT, .ref lgC, .int lgS])), (lgA, .inl (cK 0, 400, .inl lgAf)), (lgT, .inl (cK 0, 400, .inl lgTf)), (lgC, .inl (cK 1, 400, .inl lgCf)), (se, .inr (1, [.ref seO])), (seO, .inl (cK 0, 128, .inl seOf)), (sr, .inr (3, [.ref se, .ref srO, .ref srV])), (srO, .inl (cK 0, 4, .inl srOf)), (srV, .inl (cK 0, 4, .inl srVf)), (rt, .inr (4, [.ref rtW, .int rtS])), (rtW, .inl (cK 0, 4096, .inl rtWf)), (rb, .inr (4, [.ref rbW, .int rbS])), (rbW, .inl (cK 0, 4096, .inl rbWf)), (q, .inr (2, [.ref qI, .ref qL, .int qW, .int qP, .int qV])), (qI, .inl (cK 0, 9, .inl qIf)), (qL, .inl (cK 0, 3, .inl qLf))] [(cr, .inr (5, [.int crN, .ref lg, .ref qs, .ref se, .ref sr, .ref rt, .ref rb, .ref ow, .int crL, .int crQ])), (qs, .inl (cK 3, 12, .inr (.inr (.inr (.inr qsf))))), (lg, .inr (0, [.ref lgA, .ref lgT, .ref lgC, .int lgS])), (lgA, .inl (cK 0, 400, .inl lgAf)), (lgT, .inl (cK 0, 400, .inl lgTf)), (lgC, .inl (cK 1, 400, .inl lgCf)), (se, .inr (1, [.ref seO])), (seO, .inl (cK 0, 128, .inl o_seOf)), (sr, .inr (3, [.ref se, .ref srO, .ref srV])), (srO, .inl (cK 0, 4, .inl o_srOf)), (srV, .inl (cK 0, 4, .inl o_srVf)), (rt, .inr (4, [.ref rtW, .int o_rtS])), (rtW, .inl (cK 0, 4096, .inl o_rtWf)), (rb, .inr (4, [.ref rbW, .int o_rbS])), (rbW, .inl (cK 0, 4096, .inl o_rbWf)), (q, .inr (2, [.ref qI, .ref qL, .int qW, .int qP, .int qV])), (qI, .inl (cK 0, 9, .inl qIf)), (qL, .inl (cK 0, 3, .inl qLf))] r := by
  refine mk_WrI (cc := b_C_changed) (maxL := 5) (ty := .int) (by decide +kernel) rfl (Nat.le_of_ble_eq_true rfl) ?_
  intro p e s m below meth c args Q A ls hx hb hml hown hts hA hK hP hD hret hl
  have hS : va_S A s.heap s.heap [] := va_S.rf
  have hl : lv_has ls 5 [(0, .ref cr), (1, .int v1), (2, .int v2), (3, .int v3)] := hl
  unfold f_C_changedq at hf
  refine lv_aload_n hx hb d_C_changed_0 rfl (lv_at hl 0 rfl) ?_
  refine lv_iload_n hx hb d_C_changed_1 rfl (lv_at hl 1 rfl) ?_
  obtain ⟨r_2, hcl, hf⟩ := fn_e1 hf
  refine cv_RdQ (rest := []) ⟨hx, hb, hml, hown, hts⟩ (c_C_find l D cK cr lg qs se sr rt rb ow crN crL crQ qsf v1 r_2 hcl) (cwV 1 hts (zz_V ml_C_96 im_C_find se_C_find in_C co_C_find) rfl rfl rfl ⟨rfl, hd_C_find⟩ ⟨Nat.le_of_ble_eq_true rfl, Nat.le_of_ble_eq_true rfl⟩) hK hP [0, 1] rfl 0 rfl rfl rfl rfl hl.1 rfl (Nat.le_of_ble_eq_true rfl) d_C_changed_2 ⟨Nat.zero_le _, Nat.zero_le _⟩ ?_
  rcases r_2 with _ | aq
  · have hf := fn_oN hf
    refine lv_astoreN (lv' := [(4, .null), (0, .ref cr), (1, .int v1), (2, .int v2), (3, .int v3)]) hx hb d_C_changed_5 hl (by decide) rfl (fun ls hl => ?_)
    refine lv_aloadN hx hb d_C_changed_7 (lv_at hl 0 rfl) ?_
    refine lv_ifnullN (tgt := 20) hx hb d_C_changed_9 (by decide) ?_
    refine lv_iconst (v := (-1)) hx hb d_C_changed_20 (by decide) ?_
    cases hf
    exact hret _ _ 21 _ hP hD hS rfl d_C_changed_21
  · have hf := fn_oS hf
    have hg := fn_g hf
    have hf := fn_t hg hf
    rw [hg]
    refine lv_astore (lv' := [(4, .ref q), (0, .ref cr), (1, .int v1), (2, .int v2), (3, .int v3)]) hx hb d_C_changed_5 hl (by decide) rfl (fun ls hl => ?_)
    refine lv_aload hx hb d_C_changed_7 (lv_at hl 0 rfl) ?_
    refine lv_ifnull hx hb d_C_changed_9 ?_
    refine lv_aload_n hx hb d_C_changed_12 rfl (lv_at hl 1 rfl) ?_
    refine lv_iload_n hx hb d_C_changed_13 rfl (lv_at hl 3 rfl) ?_
    obtain ⟨r_14, hcl, hf⟩ := fn_e1 hf
    refine cv_RdI (rest := []) ⟨hx, hb, hml, hown, hts⟩ (c_C_isPast l D cK cr lg qs se sr rt rb ow crN crL crQ v2 r_14 hcl) (cwV 1 hts (zz_V ml_C_113 im_C_isPast se_C_isPast in_C co_C_isPast) rfl rfl rfl ⟨rfl, hd_C_isPast⟩ ⟨Nat.le_of_ble_eq_true rfl, Nat.le_of_ble_eq_true rfl⟩) hK hP [0] rfl 0 rfl rfl rfl rfl hl.1 rfl (Nat.le_of_ble_eq_true rfl) d_C_changed_14 ⟨Nat.zero_le _, Nat.zero_le _⟩ ?_
    refine lv_if_ne (tgt := 22) hx hb d_C_changed_17 (by decide) (fun hc => ?_) (fun hc => ?_)
    · have hf := fn_f hc hf
      refine lv_aload_n hx hb d_C_changed_22 rfl (lv_at hl 1 rfl) ?_
      refine lv_aload hx hb d_C_changed_23 (lv_at hl 0 rfl) ?_
      refine lv_iload_n hx hb d_C_changed_25 rfl (lv_at hl 3 rfl) ?_
      refine lv_iload_n hx hb d_C_changed_26 rfl (lv_at hl 4 rfl) ?_
      refine lv_if_eq (tgt := 34) hx hb d_C_changed_27 (by decide) (fun hc => ?_) (fun hc => ?_)
      · have hf := fn_t hc hf
        refine lv_iconst (v := 2) hx hb d_C_changed_34 (by decide) ?_
        obtain ⟨r_35, seOf_35, srOf_35, srVf_35, rtS_35, rtWf_35, rbS_35, rbWf_35, hcl, hf⟩ := fn_e8 hf
        refine cv_WrR (rest := []) (wr := [(qs, .inl (cK 3, 12, .inr (.inr (.inr (.inr qsf)))))]) (w' := [(cr, .inr (5, [.int crN, .ref lg, .ref qs, .ref se, .ref sr, .ref rt, .ref rb, .ref ow, .int crL, .int crQ])), (qs, .inl (cK 3, 12, .inr (.inr (.inr (.inr qsf))))), (lg, .inr (0, [.ref lgA, .ref lgT, .ref lgC, .int lgS])), (lgA, .inl (cK 0, 400, .inl lgAf)), (lgT, .inl (cK 0, 400, .inl lgTf)), (lgC, .inl (cK 1, 400, .inl lgCf)), (se, .inr (1, [.ref seO])), (seO, .inl (cK 0, 128, .inl seOf_35)), (sr, .inr (3, [.ref se, .ref srO, .ref srV])), (srO, .inl (cK 0, 4, .inl srOf_35)), (srV, .inl (cK 0, 4, .inl srVf_35)), (rt, .inr (4, [.ref rtW, .int rtS_35])), (rtW, .inl (cK 0, 4096, .inl rtWf_35)), (rb, .inr (4, [.ref rbW, .int rbS_35])), (rbW, .inl (cK 0, 4096, .inl rbWf_35)), (q, .inr (2, [.ref qI, .ref qL, .int qW, .int qP, .int qV])), (qI, .inl (cK 0, 9, .inl qIf)), (qL, .inl (cK 0, 3, .inl qLf))]) ⟨hx, hb, hml, hown, hts⟩ (c_C_findRows l D cK cr lg qs se sr rt rb ow lgA lgT lgC seO srO srV rtW rbW q qI qL crN crL crQ lgS lgAf lgTf lgCf seOf srOf srVf rtS rtWf rbS rbWf qW qP qV qIf qLf N v2 2 r_35 seOf_35 srOf_35 srVf_35 rtS_35 rtWf_35 rbS_35 rbWf_35 hcl) (cwV 3 hts (zz_V ml_C_116 im_C_findRows se_C_findRows in_C co_C_findRows) rfl rfl rfl ⟨rfl, hd_C_findRows⟩ ⟨Nat.le_of_ble_eq_true rfl, Nat.le_of_ble_eq_true rfl⟩) hK hP hD hS hA [0, 2, 3, 4, 5, 6, 7, 8, 9, 10, 11, 12, 13, 14, 15, 16, 17] [1] [1, 0, 2, 3, 4, 5, 6, 7, 8, 9, 10, 11, 12, 13, 14, 15, 16, 17] rfl (by decide) rfl (by decide) (by decide) rfl (by decide) 0 rfl rfl rfl rfl hl.1 rfl (Nat.le_of_ble_eq_true rfl) d_C_changed_35 ⟨Nat.zero_le _, Nat.zero_le _⟩ (fun H locs hP hD hS => ?_)
        by_cases hc : r_35 = rt
        · have hf := fn_t hc hf
          rw [hc]
          obtain ⟨r_38, hcl, hf⟩ := fn_e1 hf
          refine cv_RdI (rest := []) ⟨hx, hb, hml, hown, hts⟩ (c_Rs_count l D cK rt rtW rtS_35 4096 rtWf_35 N r_38 hcl) (cwV 0 hts (zz_V ml_C_120 im_Rs_count se_Rs_count in_Rs co_Rs_count) rfl rfl rfl ⟨rfl, hd_Rs_count⟩ ⟨Nat.le_of_ble_eq_true rfl, Nat.le_of_ble_eq_true rfl⟩) hK hP [11, 12] rfl 11 rfl rfl rfl rfl hl.1 rfl (Nat.le_of_ble_eq_true rfl) d_C_changed_38 ⟨Nat.zero_le _, Nat.zero_le _⟩ ?_
          cases hf
          exact hret _ _ 41 _ hP hD hS rfl d_C_changed_41
        · have hf := fn_f hc hf
          by_cases hc : r_35 = rb
          · have hf := fn_t hc hf
            rw [hc]
            obtain ⟨r_38, hcl, hf⟩ := fn_e1 hf
            refine cv_RdI (rest := []) ⟨hx, hb, hml, hown, hts⟩ (c_Rs_count l D cK rb rbW rbS_35 4096 rbWf_35 N r_38 hcl) (cwV 0 hts (zz_V ml_C_120 im_Rs_count se_Rs_count in_Rs co_Rs_count) rfl rfl rfl ⟨rfl, hd_Rs_count⟩ ⟨Nat.le_of_ble_eq_true rfl, Nat.le_of_ble_eq_true rfl⟩) hK hP [13, 14] rfl 13 rfl rfl rfl rfl hl.1 rfl (Nat.le_of_ble_eq_true rfl) d_C_changed_38 ⟨Nat.zero_le _, Nat.zero_le _⟩ ?_
            cases hf
            exact hret _ _ 41 _ hP hD hS rfl d_C_changed_41
          · have hf := fn_f hc hf
            exact fn_0 hf
      · have hf := fn_f hc hf
        refine lv_iconst (v := 1) hx hb d_C_changed_30 (by decide) ?_
        refine lv_goto (tgt := 35) hx hb d_C_changed_31 (by decide) ?_
        obtain ⟨r_35, seOf_35, srOf_35, srVf_35, rtS_35, rtWf_35, rbS_35, rbWf_35, hcl, hf⟩ := fn_e8 hf
        refine cv_WrR (rest := []) (wr := [(qs, .inl (cK 3, 12, .inr (.inr (.inr (.inr qsf)))))]) (w' := [(cr, .inr (5, [.int crN, .ref lg, .ref qs, .ref se, .ref sr, .ref rt, .ref rb, .ref ow, .int crL, .int crQ])), (qs, .inl (cK 3, 12, .inr (.inr (.inr (.inr qsf))))), (lg, .inr (0, [.ref lgA, .ref lgT, .ref lgC, .int lgS])), (lgA, .inl (cK 0, 400, .inl lgAf)), (lgT, .inl (cK 0, 400, .inl lgTf)), (lgC, .inl (cK 1, 400, .inl lgCf)), (se, .inr (1, [.ref seO])), (seO, .inl (cK 0, 128, .inl seOf_35)), (sr, .inr (3, [.ref se, .ref srO, .ref srV])), (srO, .inl (cK 0, 4, .inl srOf_35)), (srV, .inl (cK 0, 4, .inl srVf_35)), (rt, .inr (4, [.ref rtW, .int rtS_35])), (rtW, .inl (cK 0, 4096, .inl rtWf_35)), (rb, .inr (4, [.ref rbW, .int rbS_35])), (rbW, .inl (cK 0, 4096, .inl rbWf_35)), (q, .inr (2, [.ref qI, .ref qL, .int qW, .int qP, .int qV])), (qI, .inl (cK 0, 9, .inl qIf)), (qL, .inl (cK 0, 3, .inl qLf))]) ⟨hx, hb, hml, hown, hts⟩ (c_C_findRows l D cK cr lg qs se sr rt rb ow lgA lgT lgC seO srO srV rtW rbW q qI qL crN crL crQ lgS lgAf lgTf lgCf seOf srOf srVf rtS rtWf rbS rbWf qW qP qV qIf qLf N v2 1 r_35 seOf_35 srOf_35 srVf_35 rtS_35 rtWf_35 rbS_35 rbWf_35 hcl) (cwV 3 hts (zz_V ml_C_116 im_C_findRows se_C_findRows in_C co_C_findRows) rfl rfl rfl ⟨rfl, hd_C_findRows⟩ ⟨Nat.le_of_ble_eq_true rfl, Nat.le_of_ble_eq_true rfl⟩) hK hP hD hS hA [0, 2, 3, 4, 5, 6, 7, 8, 9, 10, 11, 12, 13, 14, 15, 16, 17] [1] [1, 0, 2, 3, 4, 5, 6, 7, 8, 9, 10, 11, 12, 13, 14, 15, 16, 17] rfl (by decide) rfl (by decide) (by decide) rfl (by decide) 0 rfl rfl rfl rfl hl.1 rfl (Nat.le_of_ble_eq_true rfl) d_C_changed_35 ⟨Nat.zero_le _, Nat.zero_le _⟩ (fun H locs hP hD hS => ?_)
        by_cases hc : r_35 = rt
        · have hf := fn_t hc hf
          rw [hc]
          obtain ⟨r_38, hcl, hf⟩ := fn_e1 hf
          refine cv_RdI (rest := []) ⟨hx, hb, hml, hown, hts⟩ (c_Rs_count l D cK rt rtW rtS_35 4096 rtWf_35 N r_38 hcl) (cwV 0 hts (zz_V ml_C_120 im_Rs_count se_Rs_count in_Rs co_Rs_count) rfl rfl rfl ⟨rfl, hd_Rs_count⟩ ⟨Nat.le_of_ble_eq_true rfl, Nat.le_of_ble_eq_true rfl⟩) hK hP [11, 12] rfl 11 rfl rfl rfl rfl hl.1 rfl (Nat.le_of_ble_eq_true rfl) d_C_changed_38 ⟨Nat.zero_le _, Nat.zero_le _⟩ ?_
          cases hf
          exact hret _ _ 41 _ hP hD hS rfl d_C_changed_41
        · have hf := fn_f hc hf
          by_cases hc : r_35 = rb
          · have hf := fn_t hc hf
            rw [hc]
            obtain ⟨r_38, hcl, hf⟩ := fn_e1 hf
            refine cv_RdI (rest := []) ⟨hx, hb, hml, hown, hts⟩ (c_Rs_count l D cK rb rbW rbS_35 4096 rbWf_35 N r_38 hcl) (cwV 0 hts (zz_V ml_C_120 im_Rs_count se_Rs_count in_Rs co_Rs_count) rfl rfl rfl ⟨rfl, hd_Rs_count⟩ ⟨Nat.le_of_ble_eq_true rfl, Nat.le_of_ble_eq_true rfl⟩) hK hP [13, 14] rfl 13 rfl rfl rfl rfl hl.1 rfl (Nat.le_of_ble_eq_true rfl) d_C_changed_38 ⟨Nat.zero_le _, Nat.zero_le _⟩ ?_
            cases hf
            exact hret _ _ 41 _ hP hD hS rfl d_C_changed_41
          · have hf := fn_f hc hf
            exact fn_0 hf
    · have hf := fn_t hc hf
      refine lv_iconst (v := (-1)) hx hb d_C_changed_20 (by decide) ?_
      cases hf
      exact hret _ _ 21 _ hP hD hS rfl d_C_changed_21
abbrev rm_C_row : Room := { frames := 1, cells := 0, slots := 0, locals := 21 }
set_option maxHeartbeats 4000000 in
set_option maxRecDepth 100000 in
theorem c_C_row (l : Launch) (D : va_G) (cK : Nat → ClassId) (cr lg qs se sr rt rb ow : Nat) (crN : Int32) (crL : Int32) (crQ : Int32) (qsf : Nat → Option Nat) (v1 : Int32) (v2 : Int32) (v3 : Int32) (v4 : Int32) (r : Int32) (hf : f_C_row crQ qsf v1 v2 v3 v4 = some r) : RdI l y_C_row w_C_row rm_C_row D zz_cl (mt_ty cK RK2) [.ref cr, .int v1, .int v2, .int v3, .int v4] [(cr, .inr (5, [.int crN, .ref lg, .ref qs, .ref se, .ref sr, .ref rt, .ref rb, .ref ow, .int crL, .int crQ])), (qs, .inl (cK 3, 12, .inr (.inr (.inr (.inr qsf)))))] r := by
  refine mk_RdI (cc := b_C_row) (maxL := 6) (ty := .int) (by decide +kernel) rfl (Nat.le_of_ble_eq_true rfl) ?_
  intro p e s m below meth c args Q ls hx hb hml hown hts hK hP hret hl
  have hl : lv_has ls 6 [(0, .ref cr), (1, .int v1), (2, .int v2), (3, .int v3), (4, .int v4)] := hl
  unfold f_C_row at hf
  refine lv_aload_n hx hb d_C_row_0 rfl (lv_at hl 0 rfl) ?_
  refine lv_iload_n hx hb d_C_row_1 rfl (lv_at hl 1 rfl) ?_
  obtain ⟨r_2, hcl, hf⟩ := fn_e1 hf
  refine cv_RdQ (rest := []) ⟨hx, hb, hml, hown, hts⟩ (c_C_find l D cK cr lg qs se sr rt rb ow crN crL crQ qsf v1 r_2 hcl) (cwV 1 hts (zz_V ml_C_96 im_C_find se_C_find in_C co_C_find) rfl rfl rfl ⟨rfl, hd_C_find⟩ ⟨Nat.le_of_ble_eq_true rfl, Nat.le_of_ble_eq_true rfl⟩) hK hP [0, 1] rfl 0 rfl rfl rfl rfl hl.1 rfl (Nat.le_of_ble_eq_true rfl) d_C_row_2 ⟨Nat.zero_le _, Nat.zero_le _⟩ ?_
  rcases r_2 with _ | aq
  · have hf := fn_oN hf
    refine lv_astoreN (lv' := [(5, .null), (0, .ref cr), (1, .int v1), (2, .int v2), (3, .int v3), (4, .int v4)]) hx hb d_C_row_5 hl (by decide) rfl (fun ls hl => ?_)
    refine lv_aloadN hx hb d_C_row_7 (lv_at hl 0 rfl) ?_
    refine lv_ifnullN (tgt := 29) hx hb d_C_row_9 (by decide) ?_
    refine lv_iconst (v := (-1)) hx hb d_C_row_29 (by decide) ?_
    cases hf
    exact hret 30 _ rfl d_C_row_30
  · have hf := fn_oS hf
    exact fn_0 hf
abbrev rm_C_rowq : Room := { frames := 11, cells := 0, slots := 0, locals := 278 }
set_option maxHeartbeats 4000000 in
set_option maxRecDepth 100000 in
theorem c_C_rowq (l : Launch) (D : va_G) (cK : Nat → ClassId) (cr lg qs se sr rt rb ow lgA lgT lgC seO srO srV rtW rbW q qI qL : Nat) (crN : Int32) (crL : Int32) (crQ : Int32) (qsf : Nat → Option Nat) (lgS : Int32) (lgAf : Nat → Int32) (lgTf : Nat → Int32) (lgCf : Nat → Int32) (seOf : Nat → Int32) (srOf : Nat → Int32) (srVf : Nat → Int32) (rtS : Int32) (rtWf : Nat → Int32) (rbS : Int32) (rbWf : Nat → Int32) (qW : Int32) (qP : Int32) (qV : Int32) (qIf : Nat → Int32) (qLf : Nat → Int32) (N : Nat) (v1 : Int32) (v2 : Int32) (v3 : Int32) (v4 : Int32) (r : Int32) (o_seOf : Nat → Int32) (o_srOf : Nat → Int32) (o_srVf : Nat → Int32) (o_rtS : Int32) (o_rtWf : Nat → Int32) (o_rbS : Int32) (o_rbWf : Nat → Int32) (hf : f_C_rowq N rt rb q crL crQ qsf lgS lgAf lgTf lgCf seOf srOf srVf rtS rtWf rbS rbWf qW qP qV qIf qLf v1 v2 v3 v4 = some (r, o_seOf, o_srOf, o_srVf, o_rtS, o_rtWf, o_rbS, o_rbWf)) : WrI l y_C_row w_C_row rm_C_rowq D zz_cl (mt_ty cK RK2) [.ref cr, .int v1, .int v2, .int v3, .int v4] [(cr, .inr (5, [.int crN, .ref lg, .ref qs, .ref se, .ref sr, .ref rt, .ref rb, .ref ow, .int crL, .int crQ])), (qs, .inl (cK 3, 12, .inr (.inr (.inr (.inr qsf))))), (lg, .inr (0, [.ref lgA, .ref lgT, .ref lgC, .int lgS])), (lgA, .inl (cK 0, 400, .inl lgAf)), (lgT, .inl (cK 0, 400, .inl lgTf)), (lgC, .inl (cK 1, 400, .inl lgCf)), (se, .inr (1, [.ref seO])), (seO, .inl (cK 0, 128, .inl seOf)), (sr, .inr (3, [.ref se, .ref srO, .ref srV])), (srO, .inl (cK 0, 4, .inl srOf)), (srV, .inl (cK 0, 4, .inl srVf)), (rt, .inr (4, [.ref rtW, .int rtS])), (rtW, .inl (cK 0, 4096, .inl rtWf)), (rb, .inr (4, [.ref rbW, .int rbS])), (rbW, .inl (cK 0, 4096, .inl rbWf)), (q, .inr (2, [.ref qI, .ref qL, .int qW, .int qP, .int qV])), (qI, .inl (cK 0, 9, .inl qIf)), (qL, .inl (cK 0, 3, .inl qLf))] [(cr, .inr (5, [.int crN, .ref lg, .ref qs, .ref se, .ref sr, .ref rt, .ref rb, .ref ow, .int crL, .int crQ])), (qs, .inl (cK 3, 12, .inr (.inr (.inr (.inr qsf))))), (lg, .inr (0, [.ref lgA, .ref lgT, .ref lgC, .int lgS])), (lgA, .inl (cK 0, 400, .inl lgAf)), (lgT, .inl (cK 0, 400, .inl lgTf)), (lgC, .inl (cK 1, 400, .inl lgCf)), (se, .inr (1, [.ref seO])), (seO, .inl (cK 0, 128, .inl o_seOf)), (sr, .inr (3, [.ref se, .ref srO, .ref srV])), (srO, .inl (cK 0, 4, .inl o_srOf)), (srV, .inl (cK 0, 4, .inl o_srVf)), (rt, .inr (4, [.ref rtW, .int o_rtS])), (rtW, .inl (cK 0, 4096, .inl o_rtWf)), (rb, .inr (4, [.ref rbW, .int o_rbS])), (rbW, .inl (cK 0, 4096, .inl o_rbWf)), (q, .inr (2, [.ref qI, .ref qL, .int qW, .int qP, .int qV])), (qI, .inl (cK 0, 9, .inl qIf)), (qL, .inl (cK 0, 3, .inl qLf))] r := by
  refine mk_WrI (cc := b_C_row) (maxL := 6) (ty := .int) (by decide +kernel) rfl (Nat.le_of_ble_eq_true rfl) ?_
  intro p e s m below meth c args Q A ls hx hb hml hown hts hA hK hP hD hret hl
  have hS : va_S A s.heap s.heap [] := va_S.rf
  have hl : lv_has ls 6 [(0, .ref cr), (1, .int v1), (2, .int v2), (3, .int v3), (4, .int v4)] := hl
  unfold f_C_rowq at hf
  refine lv_aload_n hx hb d_C_row_0 rfl (lv_at hl 0 rfl) ?_
  refine lv_iload_n hx hb d_C_row_1 rfl (lv_at hl 1 rfl) ?_
  obtain ⟨r_2, hcl, hf⟩ := fn_e1 hf
  refine cv_RdQ (rest := []) ⟨hx, hb, hml, hown, hts⟩ (c_C_find l D cK cr lg qs se sr rt rb ow crN crL crQ qsf v1 r_2 hcl) (cwV 1 hts (zz_V ml_C_96 im_C_find se_C_find in_C co_C_find) rfl rfl rfl ⟨rfl, hd_C_find⟩ ⟨Nat.le_of_ble_eq_true rfl, Nat.le_of_ble_eq_true rfl⟩) hK hP [0, 1] rfl 0 rfl rfl rfl rfl hl.1 rfl (Nat.le_of_ble_eq_true rfl) d_C_row_2 ⟨Nat.zero_le _, Nat.zero_le _⟩ ?_
  rcases r_2 with _ | aq
  · have hf := fn_oN hf
    refine lv_astoreN (lv' := [(5, .null), (0, .ref cr), (1, .int v1), (2, .int v2), (3, .int v3), (4, .int v4)]) hx hb d_C_row_5 hl (by decide) rfl (fun ls hl => ?_)
    refine lv_aloadN hx hb d_C_row_7 (lv_at hl 0 rfl) ?_
    refine lv_ifnullN (tgt := 29) hx hb d_C_row_9 (by decide) ?_
    refine lv_iconst (v := (-1)) hx hb d_C_row_29 (by decide) ?_
    cases hf
    exact hret _ _ 30 _ hP hD hS rfl d_C_row_30
  · have hf := fn_oS hf
    have hg := fn_g hf
    have hf := fn_t hg hf
    rw [hg]
    refine lv_astore (lv' := [(5, .ref q), (0, .ref cr), (1, .int v1), (2, .int v2), (3, .int v3), (4, .int v4)]) hx hb d_C_row_5 hl (by decide) rfl (fun ls hl => ?_)
    refine lv_aload hx hb d_C_row_7 (lv_at hl 0 rfl) ?_
    refine lv_ifnull hx hb d_C_row_9 ?_
    refine lv_aload_n hx hb d_C_row_12 rfl (lv_at hl 1 rfl) ?_
    refine lv_iload_n hx hb d_C_row_13 rfl (lv_at hl 3 rfl) ?_
    obtain ⟨r_14, hcl, hf⟩ := fn_e1 hf
    refine cv_RdI (rest := []) ⟨hx, hb, hml, hown, hts⟩ (c_C_isPast l D cK cr lg qs se sr rt rb ow crN crL crQ v2 r_14 hcl) (cwV 1 hts (zz_V ml_C_113 im_C_isPast se_C_isPast in_C co_C_isPast) rfl rfl rfl ⟨rfl, hd_C_isPast⟩ ⟨Nat.le_of_ble_eq_true rfl, Nat.le_of_ble_eq_true rfl⟩) hK hP [0] rfl 0 rfl rfl rfl rfl hl.1 rfl (Nat.le_of_ble_eq_true rfl) d_C_row_14 ⟨Nat.zero_le _, Nat.zero_le _⟩ ?_
    refine lv_if_eq (tgt := 29) hx hb d_C_row_17 (by decide) (fun hc => ?_) (fun hc => ?_)
    · have hf := fn_t hc hf
      refine lv_iconst (v := (-1)) hx hb d_C_row_29 (by decide) ?_
      cases hf
      exact hret _ _ 30 _ hP hD hS rfl d_C_row_30
    · have hf := fn_f hc hf
      refine lv_iload_n hx hb d_C_row_20 rfl (lv_at hl 4 rfl) ?_
      refine lv_if_lt (tgt := 29) hx hb d_C_row_21 (by decide) (fun hc => ?_) (fun hc => ?_)
      · have hf := fn_t hc hf
        refine lv_iconst (v := (-1)) hx hb d_C_row_29 (by decide) ?_
        cases hf
        exact hret _ _ 30 _ hP hD hS rfl d_C_row_30
      · have hf := fn_f hc hf
        refine lv_iload_n hx hb d_C_row_24 rfl (lv_at hl 4 rfl) ?_
        refine lv_iconst (v := 2) hx hb d_C_row_25 (by decide) ?_
        refine lv_icmp_le (tgt := 31) hx hb d_C_row_26 (by decide) (fun hc => ?_) (fun hc => ?_)
        · have hf := fn_t hc hf
          refine lv_aload_n hx hb d_C_row_31 rfl (lv_at hl 1 rfl) ?_
          refine lv_aload hx hb d_C_row_32 (lv_at hl 0 rfl) ?_
          refine lv_iload_n hx hb d_C_row_34 rfl (lv_at hl 3 rfl) ?_
          refine lv_iload_n hx hb d_C_row_35 rfl (lv_at hl 4 rfl) ?_
          obtain ⟨r_36, seOf_36, srOf_36, srVf_36, rtS_36, rtWf_36, rbS_36, rbWf_36, hcl, hf⟩ := fn_e8 hf
          refine cv_WrR (rest := []) (wr := [(qs, .inl (cK 3, 12, .inr (.inr (.inr (.inr qsf)))))]) (w' := [(cr, .inr (5, [.int crN, .ref lg, .ref qs, .ref se, .ref sr, .ref rt, .ref rb, .ref ow, .int crL, .int crQ])), (qs, .inl (cK 3, 12, .inr (.inr (.inr (.inr qsf))))), (lg, .inr (0, [.ref lgA, .ref lgT, .ref lgC, .int lgS])), (lgA, .inl (cK 0, 400, .inl lgAf)), (lgT, .inl (cK 0, 400, .inl lgTf)), (lgC, .inl (cK 1, 400, .inl lgCf)), (se, .inr (1, [.ref seO])), (seO, .inl (cK 0, 128, .inl seOf_36)), (sr, .inr (3, [.ref se, .ref srO, .ref srV])), (srO, .inl (cK 0, 4, .inl srOf_36)), (srV, .inl (cK 0, 4, .inl srVf_36)), (rt, .inr (4, [.ref rtW, .int rtS_36])), (rtW, .inl (cK 0, 4096, .inl rtWf_36)), (rb, .inr (4, [.ref rbW, .int rbS_36])), (rbW, .inl (cK 0, 4096, .inl rbWf_36)), (q, .inr (2, [.ref qI, .ref qL, .int qW, .int qP, .int qV])), (qI, .inl (cK 0, 9, .inl qIf)), (qL, .inl (cK 0, 3, .inl qLf))]) ⟨hx, hb, hml, hown, hts⟩ (c_C_findRows l D cK cr lg qs se sr rt rb ow lgA lgT lgC seO srO srV rtW rbW q qI qL crN crL crQ lgS lgAf lgTf lgCf seOf srOf srVf rtS rtWf rbS rbWf qW qP qV qIf qLf N v2 v3 r_36 seOf_36 srOf_36 srVf_36 rtS_36 rtWf_36 rbS_36 rbWf_36 hcl) (cwV 3 hts (zz_V ml_C_116 im_C_findRows se_C_findRows in_C co_C_findRows) rfl rfl rfl ⟨rfl, hd_C_findRows⟩ ⟨Nat.le_of_ble_eq_true rfl, Nat.le_of_ble_eq_true rfl⟩) hK hP hD hS hA [0, 2, 3, 4, 5, 6, 7, 8, 9, 10, 11, 12, 13, 14, 15, 16, 17] [1] [1, 0, 2, 3, 4, 5, 6, 7, 8, 9, 10, 11, 12, 13, 14, 15, 16, 17] rfl (by decide) rfl (by decide) (by decide) rfl (by decide) 0 rfl rfl rfl rfl hl.1 rfl (Nat.le_of_ble_eq_true rfl) d_C_row_36 ⟨Nat.zero_le _, Nat.zero_le _⟩ (fun H locs hP hD hS => ?_)
          by_cases hc : r_36 = rt
          · have hf := fn_t hc hf
            rw [hc]
            refine lv_iload hx hb d_C_row_39 (lv_at hl 5 rfl) ?_
            obtain ⟨r_41, hcl, hf⟩ := fn_e1 hf
            refine cv_RdI (rest := []) ⟨hx, hb, hml, hown, hts⟩ (c_Rs_keyAt l D cK rt rtW rtS_36 4096 rtWf_36 N v4 r_41 hcl) (cwV 1 hts (zz_V ml_C_124 im_Rs_keyAt se_Rs_keyAt in_Rs co_Rs_keyAt) rfl rfl rfl ⟨rfl, hd_Rs_keyAt⟩ ⟨Nat.le_of_ble_eq_true rfl, Nat.le_of_ble_eq_true rfl⟩) hK hP [11, 12] rfl 11 rfl rfl rfl rfl hl.1 rfl (Nat.le_of_ble_eq_true rfl) d_C_row_41 ⟨Nat.zero_le _, Nat.zero_le _⟩ ?_
            cases hf
            exact hret _ _ 44 _ hP hD hS rfl d_C_row_44
          · have hf := fn_f hc hf
            by_cases hc : r_36 = rb
            · have hf := fn_t hc hf
              rw [hc]
              refine lv_iload hx hb d_C_row_39 (lv_at hl 5 rfl) ?_
              obtain ⟨r_41, hcl, hf⟩ := fn_e1 hf
              refine cv_RdI (rest := []) ⟨hx, hb, hml, hown, hts⟩ (c_Rs_keyAt l D cK rb rbW rbS_36 4096 rbWf_36 N v4 r_41 hcl) (cwV 1 hts (zz_V ml_C_124 im_Rs_keyAt se_Rs_keyAt in_Rs co_Rs_keyAt) rfl rfl rfl ⟨rfl, hd_Rs_keyAt⟩ ⟨Nat.le_of_ble_eq_true rfl, Nat.le_of_ble_eq_true rfl⟩) hK hP [13, 14] rfl 13 rfl rfl rfl rfl hl.1 rfl (Nat.le_of_ble_eq_true rfl) d_C_row_41 ⟨Nat.zero_le _, Nat.zero_le _⟩ ?_
              cases hf
              exact hret _ _ 44 _ hP hD hS rfl d_C_row_44
            · have hf := fn_f hc hf
              exact fn_0 hf
        · have hf := fn_f hc hf
          refine lv_iconst (v := (-1)) hx hb d_C_row_29 (by decide) ?_
          cases hf
          exact hret _ _ 30 _ hP hD hS rfl d_C_row_30
abbrev rm_C_aggregate : Room := { frames := 1, cells := 0, slots := 0, locals := 21 }
set_option maxHeartbeats 4000000 in
set_option maxRecDepth 100000 in
theorem c_C_aggregate (l : Launch) (D : va_G) (cK : Nat → ClassId) (cr lg qs se sr rt rb ow : Nat) (crN : Int32) (crL : Int32) (crQ : Int32) (qsf : Nat → Option Nat) (v1 : Int32) (v2 : Int32) (v3 : Int32) (v4 : Int32) (r : Int32) (hf : f_C_aggregate crQ qsf v1 v2 v3 v4 = some r) : RdI l y_C_aggregate w_C_aggregate rm_C_aggregate D zz_cl (mt_ty cK RK2) [.ref cr, .int v1, .int v2, .int v3, .int v4] [(cr, .inr (5, [.int crN, .ref lg, .ref qs, .ref se, .ref sr, .ref rt, .ref rb, .ref ow, .int crL, .int crQ])), (qs, .inl (cK 3, 12, .inr (.inr (.inr (.inr qsf)))))] r := by
  refine mk_RdI (cc := b_C_aggregate) (maxL := 7) (ty := .int) (by decide +kernel) rfl (Nat.le_of_ble_eq_true rfl) ?_
  intro p e s m below meth c args Q ls hx hb hml hown hts hK hP hret hl
  have hl : lv_has ls 7 [(0, .ref cr), (1, .int v1), (2, .int v2), (3, .int v3), (4, .int v4)] := hl
  unfold f_C_aggregate at hf
  refine lv_aload_n hx hb d_C_aggregate_0 rfl (lv_at hl 0 rfl) ?_
  refine lv_iload_n hx hb d_C_aggregate_1 rfl (lv_at hl 1 rfl) ?_
  obtain ⟨r_2, hcl, hf⟩ := fn_e1 hf
  refine cv_RdQ (rest := []) ⟨hx, hb, hml, hown, hts⟩ (c_C_find l D cK cr lg qs se sr rt rb ow crN crL crQ qsf v1 r_2 hcl) (cwV 1 hts (zz_V ml_C_96 im_C_find se_C_find in_C co_C_find) rfl rfl rfl ⟨rfl, hd_C_find⟩ ⟨Nat.le_of_ble_eq_true rfl, Nat.le_of_ble_eq_true rfl⟩) hK hP [0, 1] rfl 0 rfl rfl rfl rfl hl.1 rfl (Nat.le_of_ble_eq_true rfl) d_C_aggregate_2 ⟨Nat.zero_le _, Nat.zero_le _⟩ ?_
  rcases r_2 with _ | aq
  · have hf := fn_oN hf
    refine lv_astoreN (lv' := [(5, .null), (0, .ref cr), (1, .int v1), (2, .int v2), (3, .int v3), (4, .int v4)]) hx hb d_C_aggregate_5 hl (by decide) rfl (fun ls hl => ?_)
    refine lv_aloadN hx hb d_C_aggregate_7 (lv_at hl 0 rfl) ?_
    refine lv_ifnullN (tgt := 41) hx hb d_C_aggregate_9 (by decide) ?_
    refine lv_iconst (v := (-1)) hx hb d_C_aggregate_41 (by decide) ?_
    cases hf
    exact hret 42 _ rfl d_C_aggregate_42
  · have hf := fn_oS hf
    exact fn_0 hf
abbrev rm_C_aggregateq : Room := { frames := 11, cells := 0, slots := 0, locals := 278 }
set_option maxHeartbeats 4000000 in
set_option maxRecDepth 100000 in
theorem c_C_aggregateq (l : Launch) (D : va_G) (cK : Nat → ClassId) (cr lg qs se sr rt rb ow lgA lgT lgC seO srO srV rtW rbW q qI qL : Nat) (crN : Int32) (crL : Int32) (crQ : Int32) (qsf : Nat → Option Nat) (lgS : Int32) (lgAf : Nat → Int32) (lgTf : Nat → Int32) (lgCf : Nat → Int32) (seOf : Nat → Int32) (srOf : Nat → Int32) (srVf : Nat → Int32) (rtS : Int32) (rtWf : Nat → Int32) (rbS : Int32) (rbWf : Nat → Int32) (qW : Int32) (qP : Int32) (qV : Int32) (qIf : Nat → Int32) (qLf : Nat → Int32) (N : Nat) (v1 : Int32) (v2 : Int32) (v3 : Int32) (v4 : Int32) (r : Int32) (o_seOf : Nat → Int32) (o_srOf : Nat → Int32) (o_srVf : Nat → Int32) (o_rtS : Int32) (o_rtWf : Nat → Int32) (o_rbS : Int32) (o_rbWf : Nat → Int32) (hf : f_C_aggregateq N rt rb q crL crQ qsf lgS lgAf lgTf lgCf seOf srOf srVf rtS rtWf rbS rbWf qW qP qV qIf qLf v1 v2 v3 v4 = some (r, o_seOf, o_srOf, o_srVf, o_rtS, o_rtWf, o_rbS, o_rbWf)) : WrI l y_C_aggregate w_C_aggregate rm_C_aggregateq D zz_cl (mt_ty cK RK2) [.ref cr, .int v1, .int v2, .int v3, .int v4] [(cr, .inr (5, [.int crN, .ref lg, .ref qs, .ref se, .ref sr, .ref rt, .ref rb, .ref ow, .int crL, .int crQ])), (qs, .inl (cK 3, 12, .inr (.inr (.inr (.inr qsf))))), (lg, .inr (0, [.ref lgA, .ref lgT, .ref lgC, .int lgS])), (lgA, .inl (cK 0, 400, .inl lgAf)), (lgT, .inl (cK 0, 400, .inl lgTf)), (lgC, .inl (cK 1, 400, .inl lgCf)), (se, .inr (1, [.ref seO])), (seO, .inl (cK 0, 128, .inl seOf)), (sr, .inr (3, [.ref se, .ref srO, .ref srV])), (srO, .inl (cK 0, 4, .inl srOf)), (srV, .inl (cK 0, 4, .inl srVf)), (rt, .inr (4, [.ref rtW, .int rtS])), (rtW, .inl (cK 0, 4096, .inl rtWf)), (rb, .inr (4, [.ref rbW, .int rbS])), (rbW, .inl (cK 0, 4096, .inl rbWf)), (q, .inr (2, [.ref qI, .ref qL, .int qW, .int qP, .int qV])), (qI, .inl (cK 0, 9, .inl qIf)), (qL, .inl (cK 0, 3, .inl qLf))] [(cr, .inr (5, [.int crN, .ref lg, .ref qs, .ref se, .ref sr, .ref rt, .ref rb, .ref ow, .int crL, .int crQ])), (qs, .inl (cK 3, 12, .inr (.inr (.inr (.inr qsf))))), (lg, .inr (0, [.ref lgA, .ref lgT, .ref lgC, .int lgS])), (lgA, .inl (cK 0, 400, .inl lgAf)), (lgT, .inl (cK 0, 400, .inl lgTf)), (lgC, .inl (cK 1, 400, .inl lgCf)), (se, .inr (1, [.ref seO])), (seO, .inl (cK 0, 128, .inl o_seOf)), (sr, .inr (3, [.ref se, .ref srO, .ref srV])), (srO, .inl (cK 0, 4, .inl o_srOf)), (srV, .inl (cK 0, 4, .inl o_srVf)), (rt, .inr (4, [.ref rtW, .int o_rtS])), (rtW, .inl (cK 0, 4096, .inl o_rtWf)), (rb, .inr (4, [.ref rbW, .int o_rbS])), (rbW, .inl (cK 0, 4096, .inl o_rbWf)), (q, .inr (2, [.ref qI, .ref qL, .int qW, .int qP, .int qV])), (qI, .inl (cK 0, 9, .inl qIf)), (qL, .inl (cK 0, 3, .inl qLf))] r := by
  refine mk_WrI (cc := b_C_aggregate) (maxL := 7) (ty := .int) (by decide +kernel) rfl (Nat.le_of_ble_eq_true rfl) ?_
  intro p e s m below meth c args Q A ls hx hb hml hown hts hA hK hP hD hret hl
  have hS : va_S A s.heap s.heap [] := va_S.rf
  have hl : lv_has ls 7 [(0, .ref cr), (1, .int v1), (2, .int v2), (3, .int v3), (4, .int v4)] := hl
  unfold f_C_aggregateq at hf
  refine lv_aload_n hx hb d_C_aggregate_0 rfl (lv_at hl 0 rfl) ?_
  refine lv_iload_n hx hb d_C_aggregate_1 rfl (lv_at hl 1 rfl) ?_
  obtain ⟨r_2, hcl, hf⟩ := fn_e1 hf
  refine cv_RdQ (rest := []) ⟨hx, hb, hml, hown, hts⟩ (c_C_find l D cK cr lg qs se sr rt rb ow crN crL crQ qsf v1 r_2 hcl) (cwV 1 hts (zz_V ml_C_96 im_C_find se_C_find in_C co_C_find) rfl rfl rfl ⟨rfl, hd_C_find⟩ ⟨Nat.le_of_ble_eq_true rfl, Nat.le_of_ble_eq_true rfl⟩) hK hP [0, 1] rfl 0 rfl rfl rfl rfl hl.1 rfl (Nat.le_of_ble_eq_true rfl) d_C_aggregate_2 ⟨Nat.zero_le _, Nat.zero_le _⟩ ?_
  rcases r_2 with _ | aq
  · have hf := fn_oN hf
    refine lv_astoreN (lv' := [(5, .null), (0, .ref cr), (1, .int v1), (2, .int v2), (3, .int v3), (4, .int v4)]) hx hb d_C_aggregate_5 hl (by decide) rfl (fun ls hl => ?_)
    refine lv_aloadN hx hb d_C_aggregate_7 (lv_at hl 0 rfl) ?_
    refine lv_ifnullN (tgt := 41) hx hb d_C_aggregate_9 (by decide) ?_
    refine lv_iconst (v := (-1)) hx hb d_C_aggregate_41 (by decide) ?_
    cases hf
    exact hret _ _ 42 _ hP hD hS rfl d_C_aggregate_42
  · have hf := fn_oS hf
    have hg := fn_g hf
    have hf := fn_t hg hf
    rw [hg]
    refine lv_astore (lv' := [(5, .ref q), (0, .ref cr), (1, .int v1), (2, .int v2), (3, .int v3), (4, .int v4)]) hx hb d_C_aggregate_5 hl (by decide) rfl (fun ls hl => ?_)
    refine lv_aload hx hb d_C_aggregate_7 (lv_at hl 0 rfl) ?_
    refine lv_ifnull hx hb d_C_aggregate_9 ?_
    refine lv_aload_n hx hb d_C_aggregate_12 rfl (lv_at hl 1 rfl) ?_
    refine lv_iload_n hx hb d_C_aggregate_13 rfl (lv_at hl 3 rfl) ?_
    obtain ⟨r_14, hcl, hf⟩ := fn_e1 hf
    refine cv_RdI (rest := []) ⟨hx, hb, hml, hown, hts⟩ (c_C_isPast l D cK cr lg qs se sr rt rb ow crN crL crQ v2 r_14 hcl) (cwV 1 hts (zz_V ml_C_113 im_C_isPast se_C_isPast in_C co_C_isPast) rfl rfl rfl ⟨rfl, hd_C_isPast⟩ ⟨Nat.le_of_ble_eq_true rfl, Nat.le_of_ble_eq_true rfl⟩) hK hP [0] rfl 0 rfl rfl rfl rfl hl.1 rfl (Nat.le_of_ble_eq_true rfl) d_C_aggregate_14 ⟨Nat.zero_le _, Nat.zero_le _⟩ ?_
    refine lv_if_eq (tgt := 41) hx hb d_C_aggregate_17 (by decide) (fun hc => ?_) (fun hc => ?_)
    · have hf := fn_t hc hf
      refine lv_iconst (v := (-1)) hx hb d_C_aggregate_41 (by decide) ?_
      cases hf
      exact hret _ _ 42 _ hP hD hS rfl d_C_aggregate_42
    · have hf := fn_f hc hf
      refine lv_iload_n hx hb d_C_aggregate_20 rfl (lv_at hl 4 rfl) ?_
      refine lv_if_lt (tgt := 41) hx hb d_C_aggregate_21 (by decide) (fun hc => ?_) (fun hc => ?_)
      · have hf := fn_t hc hf
        refine lv_iconst (v := (-1)) hx hb d_C_aggregate_41 (by decide) ?_
        cases hf
        exact hret _ _ 42 _ hP hD hS rfl d_C_aggregate_42
      · have hf := fn_f hc hf
        refine lv_iload_n hx hb d_C_aggregate_24 rfl (lv_at hl 4 rfl) ?_
        refine lv_iconst (v := 2) hx hb d_C_aggregate_25 (by decide) ?_
        refine lv_icmp_gt (tgt := 41) hx hb d_C_aggregate_26 (by decide) (fun hc => ?_) (fun hc => ?_)
        · have hf := fn_t hc hf
          refine lv_iconst (v := (-1)) hx hb d_C_aggregate_41 (by decide) ?_
          cases hf
          exact hret _ _ 42 _ hP hD hS rfl d_C_aggregate_42
        · have hf := fn_f hc hf
          refine lv_iload hx hb d_C_aggregate_29 (lv_at hl 5 rfl) ?_
          refine lv_iconst (v := 1) hx hb d_C_aggregate_31 (by decide) ?_
          refine lv_icmp_lt (tgt := 41) hx hb d_C_aggregate_32 (by decide) (fun hc => ?_) (fun hc => ?_)
          · have hf := fn_t hc hf
            refine lv_iconst (v := (-1)) hx hb d_C_aggregate_41 (by decide) ?_
            cases hf
            exact hret _ _ 42 _ hP hD hS rfl d_C_aggregate_42
          · have hf := fn_f hc hf
            refine lv_iload hx hb d_C_aggregate_35 (lv_at hl 5 rfl) ?_
            refine lv_iconst (v := 4) hx hb d_C_aggregate_37 (by decide) ?_
            refine lv_icmp_le (tgt := 43) hx hb d_C_aggregate_38 (by decide) (fun hc => ?_) (fun hc => ?_)
            · have hf := fn_t hc hf
              refine lv_aload_n hx hb d_C_aggregate_43 rfl (lv_at hl 1 rfl) ?_
              refine lv_aload hx hb d_C_aggregate_44 (lv_at hl 0 rfl) ?_
              refine lv_iload_n hx hb d_C_aggregate_46 rfl (lv_at hl 3 rfl) ?_
              refine lv_iconst (v := 0) hx hb d_C_aggregate_47 (by decide) ?_
              obtain ⟨r_48, seOf_48, srOf_48, srVf_48, rtS_48, rtWf_48, rbS_48, rbWf_48, hcl, hf⟩ := fn_e8 hf
              refine cv_WrR (rest := []) (wr := [(qs, .inl (cK 3, 12, .inr (.inr (.inr (.inr qsf)))))]) (w' := [(cr, .inr (5, [.int crN, .ref lg, .ref qs, .ref se, .ref sr, .ref rt, .ref rb, .ref ow, .int crL, .int crQ])), (qs, .inl (cK 3, 12, .inr (.inr (.inr (.inr qsf))))), (lg, .inr (0, [.ref lgA, .ref lgT, .ref lgC, .int lgS])), (lgA, .inl (cK 0, 400, .inl lgAf)), (lgT, .inl (cK 0, 400, .inl lgTf)), (lgC, .inl (cK 1, 400, .inl lgCf)), (se, .inr (1, [.ref seO])), (seO, .inl (cK 0, 128, .inl seOf_48)), (sr, .inr (3, [.ref se, .ref srO, .ref srV])), (srO, .inl (cK 0, 4, .inl srOf_48)), (srV, .inl (cK 0, 4, .inl srVf_48)), (rt, .inr (4, [.ref rtW, .int rtS_48])), (rtW, .inl (cK 0, 4096, .inl rtWf_48)), (rb, .inr (4, [.ref rbW, .int rbS_48])), (rbW, .inl (cK 0, 4096, .inl rbWf_48)), (q, .inr (2, [.ref qI, .ref qL, .int qW, .int qP, .int qV])), (qI, .inl (cK 0, 9, .inl qIf)), (qL, .inl (cK 0, 3, .inl qLf))]) ⟨hx, hb, hml, hown, hts⟩ (c_C_findRows l D cK cr lg qs se sr rt rb ow lgA lgT lgC seO srO srV rtW rbW q qI qL crN crL crQ lgS lgAf lgTf lgCf seOf srOf srVf rtS rtWf rbS rbWf qW qP qV qIf qLf N v2 0 r_48 seOf_48 srOf_48 srVf_48 rtS_48 rtWf_48 rbS_48 rbWf_48 hcl) (cwV 3 hts (zz_V ml_C_116 im_C_findRows se_C_findRows in_C co_C_findRows) rfl rfl rfl ⟨rfl, hd_C_findRows⟩ ⟨Nat.le_of_ble_eq_true rfl, Nat.le_of_ble_eq_true rfl⟩) hK hP hD hS hA [0, 2, 3, 4, 5, 6, 7, 8, 9, 10, 11, 12, 13, 14, 15, 16, 17] [1] [1, 0, 2, 3, 4, 5, 6, 7, 8, 9, 10, 11, 12, 13, 14, 15, 16, 17] rfl (by decide) rfl (by decide) (by decide) rfl (by decide) 0 rfl rfl rfl rfl hl.1 rfl (Nat.le_of_ble_eq_true rfl) d_C_aggregate_48 ⟨Nat.zero_le _, Nat.zero_le _⟩ (fun H locs hP hD hS => ?_)
              by_cases hc : r_48 = rt
              · have hf := fn_t hc hf
                rw [hc]
                refine lv_astore (lv' := [(6, .ref rt), (5, .ref q), (0, .ref cr), (1, .int v1), (2, .int v2), (3, .int v3), (4, .int v4)]) hx hb d_C_aggregate_51 hl (by decide) rfl (fun ls hl => ?_)
                refine lv_iload_n hx hb d_C_aggregate_53 rfl (lv_at hl 5 rfl) ?_
                refine lv_if_ne (tgt := 65) hx hb d_C_aggregate_54 (by decide) (fun hc => ?_) (fun hc => ?_)
                · have hf := fn_f hc hf
                  refine lv_iload_n hx hb d_C_aggregate_65 rfl (lv_at hl 5 rfl) ?_
                  refine lv_iconst (v := 1) hx hb d_C_aggregate_66 (by decide) ?_
                  refine lv_icmp_ne (tgt := 80) hx hb d_C_aggregate_67 (by decide) (fun hc => ?_) (fun hc => ?_)
                  · have hf := fn_f hc hf
                    refine lv_aload hx hb d_C_aggregate_80 (lv_at hl 0 rfl) ?_
                    refine lv_iload hx hb d_C_aggregate_82 (lv_at hl 6 rfl) ?_
                    obtain ⟨r_84, hcl, hf⟩ := fn_e1 hf
                    refine cv_RdI (rest := []) ⟨hx, hb, hml, hown, hts⟩ (c_Rs_greatestOf l D cK rt rtW rtS_48 4096 rtWf_48 N v4 r_84 hcl) (cwV 1 hts (zz_V ml_C_134 im_Rs_greatestOf se_Rs_greatestOf in_Rs co_Rs_greatestOf) rfl rfl rfl ⟨rfl, hd_Rs_greatestOf⟩ ⟨Nat.le_of_ble_eq_true rfl, Nat.le_of_ble_eq_true rfl⟩) hK hP [11, 12] rfl 11 rfl rfl rfl rfl hl.1 rfl (Nat.le_of_ble_eq_true rfl) d_C_aggregate_84 ⟨Nat.zero_le _, Nat.zero_le _⟩ ?_
                    cases hf
                    exact hret _ _ 87 _ hP hD hS rfl d_C_aggregate_87
                  · have hf := fn_t hc hf
                    refine lv_aload hx hb d_C_aggregate_70 (lv_at hl 0 rfl) ?_
                    refine lv_iload hx hb d_C_aggregate_72 (lv_at hl 6 rfl) ?_
                    obtain ⟨r_74, hcl, hf⟩ := fn_e1 hf
                    refine cv_RdI (rest := []) ⟨hx, hb, hml, hown, hts⟩ (c_Rs_leastOf l D cK rt rtW rtS_48 4096 rtWf_48 N v4 r_74 hcl) (cwV 1 hts (zz_V ml_C_131 im_Rs_leastOf se_Rs_leastOf in_Rs co_Rs_leastOf) rfl rfl rfl ⟨rfl, hd_Rs_leastOf⟩ ⟨Nat.le_of_ble_eq_true rfl, Nat.le_of_ble_eq_true rfl⟩) hK hP [11, 12] rfl 11 rfl rfl rfl rfl hl.1 rfl (Nat.le_of_ble_eq_true rfl) d_C_aggregate_74 ⟨Nat.zero_le _, Nat.zero_le _⟩ ?_
                    refine lv_goto (tgt := 87) hx hb d_C_aggregate_77 (by decide) ?_
                    cases hf
                    exact hret _ _ 87 _ hP hD hS rfl d_C_aggregate_87
                · have hf := fn_t hc hf
                  refine lv_aload hx hb d_C_aggregate_57 (lv_at hl 0 rfl) ?_
                  refine lv_iload hx hb d_C_aggregate_59 (lv_at hl 6 rfl) ?_
                  obtain ⟨r_61, hcl, hf⟩ := fn_e1 hf
                  refine cv_RdI (rest := []) ⟨hx, hb, hml, hown, hts⟩ (c_Rs_sumOf l D cK rt rtW rtS_48 4096 rtWf_48 N v4 r_61 hcl) (cwV 1 hts (zz_V ml_C_128 im_Rs_sumOf se_Rs_sumOf in_Rs co_Rs_sumOf) rfl rfl rfl ⟨rfl, hd_Rs_sumOf⟩ ⟨Nat.le_of_ble_eq_true rfl, Nat.le_of_ble_eq_true rfl⟩) hK hP [11, 12] rfl 11 rfl rfl rfl rfl hl.1 rfl (Nat.le_of_ble_eq_true rfl) d_C_aggregate_61 ⟨Nat.zero_le _, Nat.zero_le _⟩ ?_
                  cases hf
                  exact hret _ _ 64 _ hP hD hS rfl d_C_aggregate_64
              · have hf := fn_f hc hf
                by_cases hc : r_48 = rb
                · have hf := fn_t hc hf
                  rw [hc]
                  refine lv_astore (lv' := [(6, .ref rb), (5, .ref q), (0, .ref cr), (1, .int v1), (2, .int v2), (3, .int v3), (4, .int v4)]) hx hb d_C_aggregate_51 hl (by decide) rfl (fun ls hl => ?_)
                  refine lv_iload_n hx hb d_C_aggregate_53 rfl (lv_at hl 5 rfl) ?_
                  refine lv_if_ne (tgt := 65) hx hb d_C_aggregate_54 (by decide) (fun hc => ?_) (fun hc => ?_)
                  · have hf := fn_f hc hf
                    refine lv_iload_n hx hb d_C_aggregate_65 rfl (lv_at hl 5 rfl) ?_
                    refine lv_iconst (v := 1) hx hb d_C_aggregate_66 (by decide) ?_
                    refine lv_icmp_ne (tgt := 80) hx hb d_C_aggregate_67 (by decide) (fun hc => ?_) (fun hc => ?_)
                    · have hf := fn_f hc hf
                      refine lv_aload hx hb d_C_aggregate_80 (lv_at hl 0 rfl) ?_
                      refine lv_iload hx hb d_C_aggregate_82 (lv_at hl 6 rfl) ?_
                      obtain ⟨r_84, hcl, hf⟩ := fn_e1 hf
                      refine cv_RdI (rest := []) ⟨hx, hb, hml, hown, hts⟩ (c_Rs_greatestOf l D cK rb rbW rbS_48 4096 rbWf_48 N v4 r_84 hcl) (cwV 1 hts (zz_V ml_C_134 im_Rs_greatestOf se_Rs_greatestOf in_Rs co_Rs_greatestOf) rfl rfl rfl ⟨rfl, hd_Rs_greatestOf⟩ ⟨Nat.le_of_ble_eq_true rfl, Nat.le_of_ble_eq_true rfl⟩) hK hP [13, 14] rfl 13 rfl rfl rfl rfl hl.1 rfl (Nat.le_of_ble_eq_true rfl) d_C_aggregate_84 ⟨Nat.zero_le _, Nat.zero_le _⟩ ?_
                      cases hf
                      exact hret _ _ 87 _ hP hD hS rfl d_C_aggregate_87
                    · have hf := fn_t hc hf
                      refine lv_aload hx hb d_C_aggregate_70 (lv_at hl 0 rfl) ?_
                      refine lv_iload hx hb d_C_aggregate_72 (lv_at hl 6 rfl) ?_
                      obtain ⟨r_74, hcl, hf⟩ := fn_e1 hf
                      refine cv_RdI (rest := []) ⟨hx, hb, hml, hown, hts⟩ (c_Rs_leastOf l D cK rb rbW rbS_48 4096 rbWf_48 N v4 r_74 hcl) (cwV 1 hts (zz_V ml_C_131 im_Rs_leastOf se_Rs_leastOf in_Rs co_Rs_leastOf) rfl rfl rfl ⟨rfl, hd_Rs_leastOf⟩ ⟨Nat.le_of_ble_eq_true rfl, Nat.le_of_ble_eq_true rfl⟩) hK hP [13, 14] rfl 13 rfl rfl rfl rfl hl.1 rfl (Nat.le_of_ble_eq_true rfl) d_C_aggregate_74 ⟨Nat.zero_le _, Nat.zero_le _⟩ ?_
                      refine lv_goto (tgt := 87) hx hb d_C_aggregate_77 (by decide) ?_
                      cases hf
                      exact hret _ _ 87 _ hP hD hS rfl d_C_aggregate_87
                  · have hf := fn_t hc hf
                    refine lv_aload hx hb d_C_aggregate_57 (lv_at hl 0 rfl) ?_
                    refine lv_iload hx hb d_C_aggregate_59 (lv_at hl 6 rfl) ?_
                    obtain ⟨r_61, hcl, hf⟩ := fn_e1 hf
                    refine cv_RdI (rest := []) ⟨hx, hb, hml, hown, hts⟩ (c_Rs_sumOf l D cK rb rbW rbS_48 4096 rbWf_48 N v4 r_61 hcl) (cwV 1 hts (zz_V ml_C_128 im_Rs_sumOf se_Rs_sumOf in_Rs co_Rs_sumOf) rfl rfl rfl ⟨rfl, hd_Rs_sumOf⟩ ⟨Nat.le_of_ble_eq_true rfl, Nat.le_of_ble_eq_true rfl⟩) hK hP [13, 14] rfl 13 rfl rfl rfl rfl hl.1 rfl (Nat.le_of_ble_eq_true rfl) d_C_aggregate_61 ⟨Nat.zero_le _, Nat.zero_le _⟩ ?_
                    cases hf
                    exact hret _ _ 64 _ hP hD hS rfl d_C_aggregate_64
                · have hf := fn_f hc hf
                  exact fn_0 hf
            · have hf := fn_f hc hf
              refine lv_iconst (v := (-1)) hx hb d_C_aggregate_41 (by decide) ?_
              cases hf
              exact hret _ _ 42 _ hP hD hS rfl d_C_aggregate_42
abbrev rm_C_still : Room := { frames := 1, cells := 0, slots := 0, locals := 21 }
set_option maxHeartbeats 4000000 in
set_option maxRecDepth 100000 in
theorem c_C_still (l : Launch) (D : va_G) (cK : Nat → ClassId) (cr lg qs se sr rt rb ow : Nat) (crN : Int32) (crL : Int32) (crQ : Int32) (qsf : Nat → Option Nat) (N : Nat) (v1 : Int32) (r : Int32) (hf : f_C_still N crQ qsf v1 = some r) : RdI l y_C_still w_C_still rm_C_still D zz_cl (mt_ty cK RK2) [.ref cr, .int v1] [(cr, .inr (5, [.int crN, .ref lg, .ref qs, .ref se, .ref sr, .ref rt, .ref rb, .ref ow, .int crL, .int crQ])), (qs, .inl (cK 3, 12, .inr (.inr (.inr (.inr qsf)))))] r := by
  refine mk_RdI (cc := b_C_still) (maxL := 4) (ty := .int) (by decide +kernel) rfl (Nat.le_of_ble_eq_true rfl) ?_
  intro p e s m below meth c args Q ls hx hb hml hown hts hK hP hret hl
  have hl : lv_has ls 4 [(0, .ref cr), (1, .int v1)] := hl
  unfold f_C_still at hf
  refine lv_aload_n hx hb d_C_still_0 rfl (lv_at hl 0 rfl) ?_
  refine lv_iload_n hx hb d_C_still_1 rfl (lv_at hl 1 rfl) ?_
  obtain ⟨r_2, hcl, hf⟩ := fn_e1 hf
  refine cv_RdQ (rest := []) ⟨hx, hb, hml, hown, hts⟩ (c_C_find l D cK cr lg qs se sr rt rb ow crN crL crQ qsf v1 r_2 hcl) (cwV 1 hts (zz_V ml_C_96 im_C_find se_C_find in_C co_C_find) rfl rfl rfl ⟨rfl, hd_C_find⟩ ⟨Nat.le_of_ble_eq_true rfl, Nat.le_of_ble_eq_true rfl⟩) hK hP [0, 1] rfl 0 rfl rfl rfl rfl hl.1 rfl (Nat.le_of_ble_eq_true rfl) d_C_still_2 ⟨Nat.zero_le _, Nat.zero_le _⟩ ?_
  rcases r_2 with _ | aq
  · have hf := fn_oN hf
    refine lv_astore_nN (lv' := [(2, .null), (0, .ref cr), (1, .int v1)]) hx hb d_C_still_5 rfl hl (by decide) rfl (fun ls hl => ?_)
    refine lv_aload_nN hx hb d_C_still_6 rfl (lv_at hl 0 rfl) ?_
    refine lv_ifnonnullN hx hb d_C_still_7 ?_
    refine lv_iconst (v := (-1)) hx hb d_C_still_10 (by decide) ?_
    cases hf
    exact hret 11 _ rfl d_C_still_11
  · have hf := fn_oS hf
    exact fn_0 hf
abbrev rm_C_stillq : Room := { frames := 10, cells := 0, slots := 0, locals := 255 }
set_option maxHeartbeats 4000000 in
set_option maxRecDepth 100000 in
theorem c_C_stillq (l : Launch) (D : va_G) (cK : Nat → ClassId) (cr lg qs se sr rt rb ow lgA lgT lgC seO srO srV rtW rbW q qI qL : Nat) (crN : Int32) (crL : Int32) (crQ : Int32) (qsf : Nat → Option Nat) (lgS : Int32) (lgAf : Nat → Int32) (lgTf : Nat → Int32) (lgCf : Nat → Int32) (seOf : Nat → Int32) (srOf : Nat → Int32) (srVf : Nat → Int32) (rtS : Int32) (rtWf : Nat → Int32) (rbS : Int32) (rbWf : Nat → Int32) (qW : Int32) (qP : Int32) (qV : Int32) (qIf : Nat → Int32) (qLf : Nat → Int32) (N : Nat) (v1 : Int32) (r : Int32) (o_seOf : Nat → Int32) (o_srOf : Nat → Int32) (o_srVf : Nat → Int32) (o_rtS : Int32) (o_rtWf : Nat → Int32) (o_rbS : Int32) (o_rbWf : Nat → Int32) (hf : f_C_stillq N q crL crQ qsf lgS lgAf lgTf lgCf seOf srOf srVf rtS rtWf rbS rbWf qW qP qV qIf qLf v1 = some (r, o_seOf, o_srOf, o_srVf, o_rtS, o_rtWf, o_rbS, o_rbWf)) : WrI l y_C_still w_C_still rm_C_stillq D zz_cl (mt_ty cK RK2) [.ref cr, .int v1] [(cr, .inr (5, [.int crN, .ref lg, .ref qs, .ref se, .ref sr, .ref rt, .ref rb, .ref ow, .int crL, .int crQ])), (qs, .inl (cK 3, 12, .inr (.inr (.inr (.inr qsf))))), (lg, .inr (0, [.ref lgA, .ref lgT, .ref lgC, .int lgS])), (lgA, .inl (cK 0, 400, .inl lgAf)), (lgT, .inl (cK 0, 400, .inl lgTf)), (lgC, .inl (cK 1, 400, .inl lgCf)), (se, .inr (1, [.ref seO])), (seO, .inl (cK 0, 128, .inl seOf)), (sr, .inr (3, [.ref se, .ref srO, .ref srV])), (srO, .inl (cK 0, 4, .inl srOf)), (srV, .inl (cK 0, 4, .inl srVf)), (rt, .inr (4, [.ref rtW, .int rtS])), (rtW, .inl (cK 0, 4096, .inl rtWf)), (rb, .inr (4, [.ref rbW, .int rbS])), (rbW, .inl (cK 0, 4096, .inl rbWf)), (q, .inr (2, [.ref qI, .ref qL, .int qW, .int qP, .int qV])), (qI, .inl (cK 0, 9, .inl qIf)), (qL, .inl (cK 0, 3, .inl qLf))] [(cr, .inr (5, [.int crN, .ref lg, .ref qs, .ref se, .ref sr, .ref rt, .ref rb, .ref ow, .int crL, .int crQ])), (qs, .inl (cK 3, 12, .inr (.inr (.inr (.inr qsf))))), (lg, .inr (0, [.ref lgA, .ref lgT, .ref lgC, .int lgS])), (lgA, .inl (cK 0, 400, .inl lgAf)), (lgT, .inl (cK 0, 400, .inl lgTf)), (lgC, .inl (cK 1, 400, .inl lgCf)), (se, .inr (1, [.ref seO])), (seO, .inl (cK 0, 128, .inl o_seOf)), (sr, .inr (3, [.ref se, .ref srO, .ref srV])), (srO, .inl (cK 0, 4, .inl o_srOf)), (srV, .inl (cK 0, 4, .inl o_srVf)), (rt, .inr (4, [.ref rtW, .int o_rtS])), (rtW, .inl (cK 0, 4096, .inl o_rtWf)), (rb, .inr (4, [.ref rbW, .int o_rbS])), (rbW, .inl (cK 0, 4096, .inl o_rbWf)), (q, .inr (2, [.ref qI, .ref qL, .int qW, .int qP, .int qV])), (qI, .inl (cK 0, 9, .inl qIf)), (qL, .inl (cK 0, 3, .inl qLf))] r := by
  refine mk_WrI (cc := b_C_still) (maxL := 4) (ty := .int) (by decide +kernel) rfl (Nat.le_of_ble_eq_true rfl) ?_
  intro p e s m below meth c args Q A ls hx hb hml hown hts hA hK hP hD hret hl
  have hS : va_S A s.heap s.heap [] := va_S.rf
  have hl : lv_has ls 4 [(0, .ref cr), (1, .int v1)] := hl
  have J_30 : ∀  (n_30 : Nat) (seOf : Nat → Int32) (srOf : Nat → Int32) (srVf : Nat → Int32) (rtS : Int32) (rtWf : Nat → Int32) (rbS : Int32) (rbWf : Nat → Int32) (v3 : Int32) (H : Heap) (locs : List Loc) (ls : Array Slot), f_C_stillq_30 N q crL crQ qsf lgS lgAf lgTf lgCf qW qP qV qIf qLf n_30 seOf srOf srVf rtS rtWf rbS rbWf v3 = some (r, o_seOf, o_srOf, o_srVf, o_rtS, o_rtWf, o_rbS, o_rbWf) → va_P D zz_cl [(cr, .inr (5, [.int crN, .ref lg, .ref qs, .ref se, .ref sr, .ref rt, .ref rb, .ref ow, .int crL, .int crQ])), (qs, .inl (cK 3, 12, .inr (.inr (.inr (.inr qsf))))), (lg, .inr (0, [.ref lgA, .ref lgT, .ref lgC, .int lgS])), (lgA, .inl (cK 0, 400, .inl lgAf)), (lgT, .inl (cK 0, 400, .inl lgTf)), (lgC, .inl (cK 1, 400, .inl lgCf)), (se, .inr (1, [.ref seO])), (seO, .inl (cK 0, 128, .inl seOf)), (sr, .inr (3, [.ref se, .ref srO, .ref srV])), (srO, .inl (cK 0, 4, .inl srOf)), (srV, .inl (cK 0, 4, .inl srVf)), (rt, .inr (4, [.ref rtW, .int rtS])), (rtW, .inl (cK 0, 4096, .inl rtWf)), (rb, .inr (4, [.ref rbW, .int rbS])), (rbW, .inl (cK 0, 4096, .inl rbWf)), (q, .inr (2, [.ref qI, .ref qL, .int qW, .int qP, .int qV])), (qI, .inl (cK 0, 9, .inl qIf)), (qL, .inl (cK 0, 3, .inl qLf))] H → va_D A [(cr, .inr (5, [.int crN, .ref lg, .ref qs, .ref se, .ref sr, .ref rt, .ref rb, .ref ow, .int crL, .int crQ])), (qs, .inl (cK 3, 12, .inr (.inr (.inr (.inr qsf))))), (lg, .inr (0, [.ref lgA, .ref lgT, .ref lgC, .int lgS])), (lgA, .inl (cK 0, 400, .inl lgAf)), (lgT, .inl (cK 0, 400, .inl lgTf)), (lgC, .inl (cK 1, 400, .inl lgCf)), (se, .inr (1, [.ref seO])), (seO, .inl (cK 0, 128, .inl seOf)), (sr, .inr (3, [.ref se, .ref srO, .ref srV])), (srO, .inl (cK 0, 4, .inl srOf)), (srV, .inl (cK 0, 4, .inl srVf)), (rt, .inr (4, [.ref rtW, .int rtS])), (rtW, .inl (cK 0, 4096, .inl rtWf)), (rb, .inr (4, [.ref rbW, .int rbS])), (rbW, .inl (cK 0, 4096, .inl rbWf)), (q, .inr (2, [.ref qI, .ref qL, .int qW, .int qP, .int qV])), (qI, .inl (cK 0, 9, .inl qIf)), (qL, .inl (cK 0, 3, .inl qLf))] → va_S A s.heap H locs → lv_has ls 4 [(0, .ref cr), (2, .ref q), (3, .int v3)] → W p l e rm_C_stillq s m args below meth c H locs 0 0 Q (F0 m 30 ls []) := by
    intro n_30
    induction n_30 with
    | zero =>
      intro seOf srOf srVf rtS rtWf rbS rbWf v3 H locs ls hf hP hD hS hl
      exact fn_0 hf
    | succ n_30 ih_30 =>
      intro seOf srOf srVf rtS rtWf rbS rbWf v3 H locs ls hf hP hD hS hl
      rw [f_C_stillq_30.eq_2] at hf
      refine lv_iload_n hx hb d_C_still_30 rfl (lv_at hl 2 rfl) ?_
      refine lv_if_le (tgt := 68) hx hb d_C_still_31 (by decide) (fun hc => ?_) (fun hc => ?_)
      · have hf := fn_t hc hf
        refine lv_iconst (v := 0) hx hb d_C_still_68 (by decide) ?_
        cases hf
        exact hret _ _ 69 _ hP hD hS rfl d_C_still_69
      · have hf := fn_f hc hf
        refine lv_aload_n hx hb d_C_still_34 rfl (lv_at hl 0 rfl) ?_
        refine lv_aload_n hx hb d_C_still_35 rfl (lv_at hl 0 rfl) ?_
        refine va_get (D := D) (ci := 5) (v := .ref rb) (C := RK5) (T := TK5) (N := 10) hx hb hts iwK5 hown hK hP 0 rfl rfl 6 (by decide) (hts _ fl_C_47) (fun _ h9 => h9) rfl d_C_still_36 ?_
        refine lv_aload_n hx hb d_C_still_39 rfl (lv_at hl 1 rfl) ?_
        refine lv_iload_n hx hb d_C_still_40 rfl (lv_at hl 2 rfl) ?_
        refine lv_iconst (v := 1) hx hb d_C_still_41 (by decide) ?_
        refine lv_isub hx hb d_C_still_42 ?_
        obtain ⟨seOf_43, srOf_43, srVf_43, rbS_43, rbWf_43, hcl, hf⟩ := fn_e5 hf
        refine cv_WrV (rest := []) (wr := [(qs, .inl (cK 3, 12, .inr (.inr (.inr (.inr qsf))))), (rt, .inr (4, [.ref rtW, .int rtS])), (rtW, .inl (cK 0, 4096, .inl rtWf))]) (w' := [(cr, .inr (5, [.int crN, .ref lg, .ref qs, .ref se, .ref sr, .ref rt, .ref rb, .ref ow, .int crL, .int crQ])), (qs, .inl (cK 3, 12, .inr (.inr (.inr (.inr qsf))))), (lg, .inr (0, [.ref lgA, .ref lgT, .ref lgC, .int lgS])), (lgA, .inl (cK 0, 400, .inl lgAf)), (lgT, .inl (cK 0, 400, .inl lgTf)), (lgC, .inl (cK 1, 400, .inl lgCf)), (se, .inr (1, [.ref seO])), (seO, .inl (cK 0, 128, .inl seOf_43)), (sr, .inr (3, [.ref se, .ref srO, .ref srV])), (srO, .inl (cK 0, 4, .inl srOf_43)), (srV, .inl (cK 0, 4, .inl srVf_43)), (rt, .inr (4, [.ref rtW, .int rtS])), (rtW, .inl (cK 0, 4096, .inl rtWf)), (rb, .inr (4, [.ref rbW, .int rbS_43])), (rbW, .inl (cK 0, 4096, .inl rbWf_43)), (q, .inr (2, [.ref qI, .ref qL, .int qW, .int qP, .int qV])), (qI, .inl (cK 0, 9, .inl qIf)), (qL, .inl (cK 0, 3, .inl qLf))]) ⟨hx, hb, hml, hown, hts⟩ (c_C_fill l D cK cr lg qs se sr rt rb ow lgA lgT lgC seO srO srV rb rbW q qI qL crN crL crQ lgS lgAf lgTf lgCf seOf srOf srVf rbS 4096 rbWf qW qP qV qIf qLf N (v3 - 1) seOf_43 srOf_43 srVf_43 rbS_43 rbWf_43 hcl) (cwV 3 hts (zz_V ml_C_144 im_C_fill se_C_fill in_C co_C_fill) rfl rfl rfl ⟨rfl, hd_C_fill⟩ ⟨Nat.le_of_ble_eq_true rfl, Nat.le_of_ble_eq_true rfl⟩) hK hP hD hS hA [0, 2, 3, 4, 5, 6, 7, 8, 9, 10, 13, 14, 15, 16, 17] [1, 11, 12] [3, 0, 4, 5, 6, 7, 8, 9, 10, 11, 12, 1, 2, 13, 14, 15, 16, 17] rfl (by decide) rfl (by decide) (by decide) rfl (by decide) 0 rfl rfl rfl rfl hl.1 rfl (Nat.le_of_ble_eq_true rfl) d_C_still_43 ⟨Nat.zero_le _, Nat.zero_le _⟩ (fun H locs hP hD hS => ?_)
        refine lv_aload_n hx hb d_C_still_46 rfl (lv_at hl 0 rfl) ?_
        refine va_get (D := D) (ci := 5) (v := .ref rb) (C := RK5) (T := TK5) (N := 10) hx hb hts iwK5 hown hK hP 0 rfl rfl 6 (by decide) (hts _ fl_C_47) (fun _ h9 => h9) rfl d_C_still_47 ?_
        refine lv_aload_n hx hb d_C_still_50 rfl (lv_at hl 0 rfl) ?_
        refine va_get (D := D) (ci := 5) (v := .ref rt) (C := RK5) (T := TK5) (N := 10) hx hb hts iwK5 hown hK hP 0 rfl rfl 5 (by decide) (hts _ fl_C_43) (fun _ h9 => h9) rfl d_C_still_51 ?_
        obtain ⟨r_54, hcl, hf⟩ := fn_e1 hf
        refine cv_RdI (rest := []) ⟨hx, hb, hml, hown, hts⟩ (c_Rs_isSameAs l D cK rb rbW rt rtW rbS_43 4096 rbWf_43 rtS 4096 rtWf N r_54 hcl) (cwV 1 hts (zz_V ml_C_148 im_Rs_isSameAs se_Rs_isSameAs in_Rs co_Rs_isSameAs) rfl rfl rfl ⟨rfl, hd_Rs_isSameAs⟩ ⟨Nat.le_of_ble_eq_true rfl, Nat.le_of_ble_eq_true rfl⟩) hK hP [13, 14, 11, 12] rfl 13 rfl rfl rfl rfl hl.1 rfl (Nat.le_of_ble_eq_true rfl) d_C_still_54 ⟨Nat.zero_le _, Nat.zero_le _⟩ ?_
        refine lv_if_ne (tgt := 62) hx hb d_C_still_57 (by decide) (fun hc => ?_) (fun hc => ?_)
        · have hf := fn_f hc hf
          refine lv_iinc (v := (v3 + (-1))) (lv' := [(3, .int (v3 + (-1))), (0, .ref cr), (2, .ref q)]) hx hb d_C_still_62 hl (k := 2) rfl rfl (by decide) rfl (fun ls hl => ?_)
          refine lv_goto (tgt := 30) hx hb d_C_still_65 (by decide) ?_
          exact ih_30 _ _ _ _ _ _ _ _ _ _ _ hf hP hD hS (lv_sub hl [1, 2, 0] rfl)
        · have hf := fn_t hc hf
          refine lv_iload_n hx hb d_C_still_60 rfl (lv_at hl 2 rfl) ?_
          cases hf
          exact hret _ _ 61 _ hP hD hS rfl d_C_still_61
  unfold f_C_stillq at hf
  refine lv_aload_n hx hb d_C_still_0 rfl (lv_at hl 0 rfl) ?_
  refine lv_iload_n hx hb d_C_still_1 rfl (lv_at hl 1 rfl) ?_
  obtain ⟨r_2, hcl, hf⟩ := fn_e1 hf
  refine cv_RdQ (rest := []) ⟨hx, hb, hml, hown, hts⟩ (c_C_find l D cK cr lg qs se sr rt rb ow crN crL crQ qsf v1 r_2 hcl) (cwV 1 hts (zz_V ml_C_96 im_C_find se_C_find in_C co_C_find) rfl rfl rfl ⟨rfl, hd_C_find⟩ ⟨Nat.le_of_ble_eq_true rfl, Nat.le_of_ble_eq_true rfl⟩) hK hP [0, 1] rfl 0 rfl rfl rfl rfl hl.1 rfl (Nat.le_of_ble_eq_true rfl) d_C_still_2 ⟨Nat.zero_le _, Nat.zero_le _⟩ ?_
  rcases r_2 with _ | aq
  · have hf := fn_oN hf
    refine lv_astore_nN (lv' := [(2, .null), (0, .ref cr), (1, .int v1)]) hx hb d_C_still_5 rfl hl (by decide) rfl (fun ls hl => ?_)
    refine lv_aload_nN hx hb d_C_still_6 rfl (lv_at hl 0 rfl) ?_
    refine lv_ifnonnullN hx hb d_C_still_7 ?_
    refine lv_iconst (v := (-1)) hx hb d_C_still_10 (by decide) ?_
    cases hf
    exact hret _ _ 11 _ hP hD hS rfl d_C_still_11
  · have hf := fn_oS hf
    have hg := fn_g hf
    have hf := fn_t hg hf
    rw [hg]
    refine lv_astore_n (lv' := [(2, .ref q), (0, .ref cr), (1, .int v1)]) hx hb d_C_still_5 rfl hl (by decide) rfl (fun ls hl => ?_)
    refine lv_aload_n hx hb d_C_still_6 rfl (lv_at hl 0 rfl) ?_
    refine lv_ifnonnull (tgt := 12) hx hb d_C_still_7 (by decide) ?_
    refine lv_aload_n hx hb d_C_still_12 rfl (lv_at hl 1 rfl) ?_
    refine lv_aload_n hx hb d_C_still_13 rfl (lv_at hl 1 rfl) ?_
    refine va_get (D := D) (ci := 5) (v := .ref rt) (C := RK5) (T := TK5) (N := 10) hx hb hts iwK5 hown hK hP 0 rfl rfl 5 (by decide) (hts _ fl_C_43) (fun _ h9 => h9) rfl d_C_still_14 ?_
    refine lv_aload_n hx hb d_C_still_17 rfl (lv_at hl 0 rfl) ?_
    refine lv_aload_n hx hb d_C_still_18 rfl (lv_at hl 1 rfl) ?_
    refine va_get (D := D) (ci := 5) (v := .int crL) (C := RK5) (T := TK5) (N := 10) hx hb hts iwK5 hown hK hP 0 rfl rfl 8 (by decide) (hts _ fl_C_75) (fun _ h9 => h9) rfl d_C_still_19 ?_
    obtain ⟨seOf_22, srOf_22, srVf_22, rtS_22, rtWf_22, hcl, hf⟩ := fn_e5 hf
    refine cv_WrV (rest := []) (wr := [(qs, .inl (cK 3, 12, .inr (.inr (.inr (.inr qsf))))), (rb, .inr (4, [.ref rbW, .int rbS])), (rbW, .inl (cK 0, 4096, .inl rbWf))]) (w' := [(cr, .inr (5, [.int crN, .ref lg, .ref qs, .ref se, .ref sr, .ref rt, .ref rb, .ref ow, .int crL, .int crQ])), (qs, .inl (cK 3, 12, .inr (.inr (.inr (.inr qsf))))), (lg, .inr (0, [.ref lgA, .ref lgT, .ref lgC, .int lgS])), (lgA, .inl (cK 0, 400, .inl lgAf)), (lgT, .inl (cK 0, 400, .inl lgTf)), (lgC, .inl (cK 1, 400, .inl lgCf)), (se, .inr (1, [.ref seO])), (seO, .inl (cK 0, 128, .inl seOf_22)), (sr, .inr (3, [.ref se, .ref srO, .ref srV])), (srO, .inl (cK 0, 4, .inl srOf_22)), (srV, .inl (cK 0, 4, .inl srVf_22)), (rt, .inr (4, [.ref rtW, .int rtS_22])), (rtW, .inl (cK 0, 4096, .inl rtWf_22)), (rb, .inr (4, [.ref rbW, .int rbS])), (rbW, .inl (cK 0, 4096, .inl rbWf)), (q, .inr (2, [.ref qI, .ref qL, .int qW, .int qP, .int qV])), (qI, .inl (cK 0, 9, .inl qIf)), (qL, .inl (cK 0, 3, .inl qLf))]) ⟨hx, hb, hml, hown, hts⟩ (c_C_fill l D cK cr lg qs se sr rt rb ow lgA lgT lgC seO srO srV rt rtW q qI qL crN crL crQ lgS lgAf lgTf lgCf seOf srOf srVf rtS 4096 rtWf qW qP qV qIf qLf N crL seOf_22 srOf_22 srVf_22 rtS_22 rtWf_22 hcl) (cwV 3 hts (zz_V ml_C_144 im_C_fill se_C_fill in_C co_C_fill) rfl rfl rfl ⟨rfl, hd_C_fill⟩ ⟨Nat.le_of_ble_eq_true rfl, Nat.le_of_ble_eq_true rfl⟩) hK hP hD hS hA [0, 2, 3, 4, 5, 6, 7, 8, 9, 10, 11, 12, 15, 16, 17] [1, 13, 14] [3, 0, 4, 5, 6, 7, 8, 9, 10, 11, 12, 13, 14, 1, 2, 15, 16, 17] rfl (by decide) rfl (by decide) (by decide) rfl (by decide) 0 rfl rfl rfl rfl hl.1 rfl (Nat.le_of_ble_eq_true rfl) d_C_still_22 ⟨Nat.zero_le _, Nat.zero_le _⟩ (fun H locs hP hD hS => ?_)
    refine lv_aload_n hx hb d_C_still_25 rfl (lv_at hl 1 rfl) ?_
    refine va_get (D := D) (ci := 5) (v := .int crL) (C := RK5) (T := TK5) (N := 10) hx hb hts iwK5 hown hK hP 0 rfl rfl 8 (by decide) (hts _ fl_C_75) (fun _ h9 => h9) rfl d_C_still_26 ?_
    refine lv_istore_n (lv' := [(3, .int crL), (2, .ref q), (0, .ref cr), (1, .int v1)]) hx hb d_C_still_29 rfl hl (by decide) rfl (fun ls hl => ?_)
    exact J_30 _ _ _ _ _ _ _ _ _ _ _ _ hf hP hD hS (lv_sub hl [2, 1, 0] rfl)
abbrev rm_C_areRowsOthers : Room := { frames := 10, cells := 0, slots := 0, locals := 256 }
set_option maxHeartbeats 4000000 in
set_option maxRecDepth 100000 in
theorem c_C_areRowsOthers (l : Launch) (D : va_G) (cK : Nat → ClassId) (cr lg qs se sr rt rb ow lgA lgT lgC seO srO srV owW : Nat) (crN : Int32) (crL : Int32) (crQ : Int32) (qsf : Nat → Option Nat) (lgS : Int32) (lgAf : Nat → Int32) (lgTf : Nat → Int32) (lgCf : Nat → Int32) (seOf : Nat → Int32) (srOf : Nat → Int32) (srVf : Nat → Int32) (owS : Int32) (owWf : Nat → Int32) (L : List mt_Q) (N : Nat) (v1 : Int32) (v2 : Int32) (v3 : Int32) (v4 : Int32) (r : Int32) (o_seOf : Nat → Int32) (o_srOf : Nat → Int32) (o_srVf : Nat → Int32) (o_owS : Int32) (o_owWf : Nat → Int32) (hf : f_C_areRowsOthers L N crQ qsf lgS lgAf lgTf lgCf seOf srOf srVf owS owWf v1 v2 v3 v4 = some (r, o_seOf, o_srOf, o_srVf, o_owS, o_owWf)) : WrI l y_C_areRowsOthers w_C_areRowsOthers rm_C_areRowsOthers D zz_cl (mt_ty cK RK2) [.ref cr, .int v1, .int v2, .int v3, .int v4] ([(cr, .inr (5, [.int crN, .ref lg, .ref qs, .ref se, .ref sr, .ref rt, .ref rb, .ref ow, .int crL, .int crQ])), (qs, .inl (cK 3, 12, .inr (.inr (.inr (.inr qsf))))), (lg, .inr (0, [.ref lgA, .ref lgT, .ref lgC, .int lgS])), (lgA, .inl (cK 0, 400, .inl lgAf)), (lgT, .inl (cK 0, 400, .inl lgTf)), (lgC, .inl (cK 1, 400, .inl lgCf)), (se, .inr (1, [.ref seO])), (seO, .inl (cK 0, 128, .inl seOf)), (sr, .inr (3, [.ref se, .ref srO, .ref srV])), (srO, .inl (cK 0, 4, .inl srOf)), (srV, .inl (cK 0, 4, .inl srVf)), (ow, .inr (4, [.ref owW, .int owS])), (owW, .inl (cK 0, 1, .inl owWf))] ++ mt_pool 2 (cK 0) L) ([(cr, .inr (5, [.int crN, .ref lg, .ref qs, .ref se, .ref sr, .ref rt, .ref rb, .ref ow, .int crL, .int crQ])), (qs, .inl (cK 3, 12, .inr (.inr (.inr (.inr qsf))))), (lg, .inr (0, [.ref lgA, .ref lgT, .ref lgC, .int lgS])), (lgA, .inl (cK 0, 400, .inl lgAf)), (lgT, .inl (cK 0, 400, .inl lgTf)), (lgC, .inl (cK 1, 400, .inl lgCf)), (se, .inr (1, [.ref seO])), (seO, .inl (cK 0, 128, .inl o_seOf)), (sr, .inr (3, [.ref se, .ref srO, .ref srV])), (srO, .inl (cK 0, 4, .inl o_srOf)), (srV, .inl (cK 0, 4, .inl o_srVf)), (ow, .inr (4, [.ref owW, .int o_owS])), (owW, .inl (cK 0, 1, .inl o_owWf))] ++ mt_pool 2 (cK 0) L) r := by
  refine mk_WrI (cc := b_C_areRowsOthers) (maxL := 7) (ty := .boolean) (by decide +kernel) rfl (Nat.le_of_ble_eq_true rfl) ?_
  intro p e s m below meth c args Q A ls hx hb hml hown hts hA hK hP hD hret hl
  have hS : va_S A s.heap s.heap [] := va_S.rf
  have hl : lv_has ls 7 [(0, .ref cr), (1, .int v1), (2, .int v2), (3, .int v3), (4, .int v4)] := hl
  have J_3 : ∀ (v1 : Int32) (v2 : Int32) (v3 : Int32) (v4 : Int32) (n_3 : Nat) (seOf : Nat → Int32) (srOf : Nat → Int32) (srVf : Nat → Int32) (owS : Int32) (owWf : Nat → Int32) (v5 : Int32) (H : Heap) (locs : List Loc) (ls : Array Slot), f_C_areRowsOthers_3 L N crQ qsf lgS lgAf lgTf lgCf v1 v2 v3 v4 n_3 seOf srOf srVf owS owWf v5 = some (r, o_seOf, o_srOf, o_srVf, o_owS, o_owWf) → va_P D zz_cl ([(cr, .inr (5, [.int crN, .ref lg, .ref qs, .ref se, .ref sr, .ref rt, .ref rb, .ref ow, .int crL, .int crQ])), (qs, .inl (cK 3, 12, .inr (.inr (.inr (.inr qsf))))), (lg, .inr (0, [.ref lgA, .ref lgT, .ref lgC, .int lgS])), (lgA, .inl (cK 0, 400, .inl lgAf)), (lgT, .inl (cK 0, 400, .inl lgTf)), (lgC, .inl (cK 1, 400, .inl lgCf)), (se, .inr (1, [.ref seO])), (seO, .inl (cK 0, 128, .inl seOf)), (sr, .inr (3, [.ref se, .ref srO, .ref srV])), (srO, .inl (cK 0, 4, .inl srOf)), (srV, .inl (cK 0, 4, .inl srVf)), (ow, .inr (4, [.ref owW, .int owS])), (owW, .inl (cK 0, 1, .inl owWf))] ++ mt_pool 2 (cK 0) L) H → va_D A ([(cr, .inr (5, [.int crN, .ref lg, .ref qs, .ref se, .ref sr, .ref rt, .ref rb, .ref ow, .int crL, .int crQ])), (qs, .inl (cK 3, 12, .inr (.inr (.inr (.inr qsf))))), (lg, .inr (0, [.ref lgA, .ref lgT, .ref lgC, .int lgS])), (lgA, .inl (cK 0, 400, .inl lgAf)), (lgT, .inl (cK 0, 400, .inl lgTf)), (lgC, .inl (cK 1, 400, .inl lgCf)), (se, .inr (1, [.ref seO])), (seO, .inl (cK 0, 128, .inl seOf)), (sr, .inr (3, [.ref se, .ref srO, .ref srV])), (srO, .inl (cK 0, 4, .inl srOf)), (srV, .inl (cK 0, 4, .inl srVf)), (ow, .inr (4, [.ref owW, .int owS])), (owW, .inl (cK 0, 1, .inl owWf))] ++ mt_pool 2 (cK 0) L) → va_S A s.heap H locs → lv_has ls 7 [(0, .ref cr), (1, .int v1), (2, .int v2), (3, .int v3), (4, .int v4), (5, .int v5)] → W p l e rm_C_areRowsOthers s m args below meth c H locs 0 0 Q (F0 m 3 ls []) := by
    intro v1 v2 v3 v4 n_3
    induction n_3 with
    | zero =>
      intro seOf srOf srVf owS owWf v5 H locs ls hf hP hD hS hl
      exact fn_0 hf
    | succ n_3 ih_3 =>
      intro seOf srOf srVf owS owWf v5 H locs ls hf hP hD hS hl
      rw [f_C_areRowsOthers_3.eq_2] at hf
      refine lv_iload hx hb d_C_areRowsOthers_3 (lv_at hl 5 rfl) ?_
      refine lv_aload_n hx hb d_C_areRowsOthers_5 rfl (lv_at hl 0 rfl) ?_
      refine va_get (D := D) (ci := 5) (v := .int crQ) (C := RK5) (T := TK5) (N := 10) hx hb hts iwK5 hown hK hP 0 rfl rfl 9 (by decide) (hts _ fl_C_92) (fun _ h9 => h9) rfl d_C_areRowsOthers_6 ?_
      refine lv_icmp_ge (tgt := 77) hx hb d_C_areRowsOthers_9 (by decide) (fun hc => ?_) (fun hc => ?_)
      · have hf := fn_t hc hf
        refine lv_iconst (v := 0) hx hb d_C_areRowsOthers_77 (by decide) ?_
        cases hf
        exact hret _ _ 78 _ hP hD hS rfl d_C_areRowsOthers_78
      · have hf := fn_f hc hf
        refine lv_aload_n hx hb d_C_areRowsOthers_12 rfl (lv_at hl 0 rfl) ?_
        refine va_get (D := D) (ci := 5) (v := .ref qs) (C := RK5) (T := TK5) (N := 10) hx hb hts iwK5 hown hK hP 0 rfl rfl 2 (by decide) (hts _ fl_C_18) (fun _ h9 => h9) rfl d_C_areRowsOthers_13 ?_
        refine lv_iload hx hb d_C_areRowsOthers_16 (lv_at hl 5 rfl) ?_
        have hg := fn_g hf
        have hf := fn_t hg hf
        refine va_aldq hx hb hK hP 1 3 rfl rfl (fn_v hg) d_C_areRowsOthers_18 ?_
        generalize (qsf (Int32.toNatClampNeg v5)) = rq at hf ⊢
        rcases rq with _ | aq
        · have hf := fn_oN hf
          refine lv_astoreN (lv' := [(6, .null), (0, .ref cr), (1, .int v1), (2, .int v2), (3, .int v3), (4, .int v4), (5, .int v5)]) hx hb d_C_areRowsOthers_19 hl (by decide) rfl (fun ls hl => ?_)
          refine lv_aloadN hx hb d_C_areRowsOthers_21 (lv_at hl 0 rfl) ?_
          refine lv_ifnullN (tgt := 71) hx hb d_C_areRowsOthers_23 (by decide) ?_
          refine lv_iinc (v := (v5 + 1)) (lv' := [(5, .int (v5 + 1)), (6, .null), (0, .ref cr), (1, .int v1), (2, .int v2), (3, .int v3), (4, .int v4)]) hx hb d_C_areRowsOthers_71 hl (k := 6) rfl rfl (by decide) rfl (fun ls hl => ?_)
          refine lv_goto (tgt := 3) hx hb d_C_areRowsOthers_74 (by decide) ?_
          exact ih_3 _ _ _ _ _ _ _ _ _ hf hP hD hS (lv_sub hl [2, 3, 4, 5, 6, 0] rfl)
        · have hf := fn_oS hf
          obtain ⟨q, qI, qL, qW, qP, qV, qIf, qLf, hsel, hf⟩ := fn_qe hf
          have hg := fn_g hf
          have hf := fn_t hg hf
          rw [hg]
          have hP : va_P D zz_cl ([(cr, .inr (5, [.int crN, .ref lg, .ref qs, .ref se, .ref sr, .ref rt, .ref rb, .ref ow, .int crL, .int crQ])), (qs, .inl (cK 3, 12, .inr (.inr (.inr (.inr qsf))))), (lg, .inr (0, [.ref lgA, .ref lgT, .ref lgC, .int lgS])), (lgA, .inl (cK 0, 400, .inl lgAf)), (lgT, .inl (cK 0, 400, .inl lgTf)), (lgC, .inl (cK 1, 400, .inl lgCf)), (se, .inr (1, [.ref seO])), (seO, .inl (cK 0, 128, .inl seOf)), (sr, .inr (3, [.ref se, .ref srO, .ref srV])), (srO, .inl (cK 0, 4, .inl srOf)), (srV, .inl (cK 0, 4, .inl srVf)), (ow, .inr (4, [.ref owW, .int owS])), (owW, .inl (cK 0, 1, .inl owWf)), (q, .inr (2, [.ref qI, .ref qL, .int qW, .int qP, .int qV])), (qI, .inl (cK 0, 9, .inl qIf)), (qL, .inl (cK 0, 3, .inl qLf))] ++ mt_rest 2 (cK 0) L (Int32.toNatClampNeg v5)) H := mt_P_perm (mt_open hsel) hP
          have hD : va_D A ([(cr, .inr (5, [.int crN, .ref lg, .ref qs, .ref se, .ref sr, .ref rt, .ref rb, .ref ow, .int crL, .int crQ])), (qs, .inl (cK 3, 12, .inr (.inr (.inr (.inr qsf))))), (lg, .inr (0, [.ref lgA, .ref lgT, .ref lgC, .int lgS])), (lgA, .inl (cK 0, 400, .inl lgAf)), (lgT, .inl (cK 0, 400, .inl lgTf)), (lgC, .inl (cK 1, 400, .inl lgCf)), (se, .inr (1, [.ref seO])), (seO, .inl (cK 0, 128, .inl seOf)), (sr, .inr (3, [.ref se, .ref srO, .ref srV])), (srO, .inl (cK 0, 4, .inl srOf)), (srV, .inl (cK 0, 4, .inl srVf)), (ow, .inr (4, [.ref owW, .int owS])), (owW, .inl (cK 0, 1, .inl owWf)), (q, .inr (2, [.ref qI, .ref qL, .int qW, .int qP, .int qV])), (qI, .inl (cK 0, 9, .inl qIf)), (qL, .inl (cK 0, 3, .inl qLf))] ++ mt_rest 2 (cK 0) L (Int32.toNatClampNeg v5)) := mt_D_perm (mt_open hsel) hD
          refine lv_astore (lv' := [(6, .ref q), (0, .ref cr), (1, .int v1), (2, .int v2), (3, .int v3), (4, .int v4), (5, .int v5)]) hx hb d_C_areRowsOthers_19 hl (by decide) rfl (fun ls hl => ?_)
          refine lv_aload hx hb d_C_areRowsOthers_21 (lv_at hl 0 rfl) ?_
          refine lv_ifnull hx hb d_C_areRowsOthers_23 ?_
          refine lv_aload_n hx hb d_C_areRowsOthers_26 rfl (lv_at hl 1 rfl) ?_
          refine va_get (D := D) (ci := 5) (v := .ref lg) (C := RK5) (T := TK5) (N := 10) hx hb hts iwK5 hown hK hP 0 rfl rfl 1 (by decide) (hts _ fl_C_12) (fun _ h9 => h9) rfl d_C_areRowsOthers_27 ?_
          refine lv_iload_n hx hb d_C_areRowsOthers_30 rfl (lv_at hl 4 rfl) ?_
          refine lv_iload_n hx hb d_C_areRowsOthers_31 rfl (lv_at hl 2 rfl) ?_
          refine lv_aload hx hb d_C_areRowsOthers_32 (lv_at hl 0 rfl) ?_
          refine va_get (D := D) (ci := 2) (v := .int qW) (C := RK2) (T := TK2) (N := 5) hx hb hts iwK2 hown hK hP 13 rfl rfl 2 (by decide) (hts _ fl_C_110) (fun _ h9 => h9) rfl d_C_areRowsOthers_34 ?_
          obtain ⟨r_37, hcl, hf⟩ := fn_e1 hf
          refine cv_RdI (rest := []) ⟨hx, hb, hml, hown, hts⟩ (c_Lg_shows l D cK lg lgA lgT lgC lgS lgAf lgCf v3 v1 qW r_37 hcl) (cwV 3 hts (zz_V ml_C_174 im_Lg_shows se_Lg_shows in_Lg co_Lg_shows) rfl rfl rfl ⟨rfl, hd_Lg_shows⟩ ⟨Nat.le_of_ble_eq_true rfl, Nat.le_of_ble_eq_true rfl⟩) hK hP [2, 3, 5] rfl 2 rfl rfl rfl rfl hl.1 rfl (Nat.le_of_ble_eq_true rfl) d_C_areRowsOthers_37 ⟨Nat.zero_le _, Nat.zero_le _⟩ ?_
          refine lv_aload_n hx hb d_C_areRowsOthers_40 rfl (lv_at hl 1 rfl) ?_
          refine va_get (D := D) (ci := 5) (v := .ref lg) (C := RK5) (T := TK5) (N := 10) hx hb hts iwK5 hown hK hP 0 rfl rfl 1 (by decide) (hts _ fl_C_12) (fun _ h9 => h9) rfl d_C_areRowsOthers_41 ?_
          refine lv_iload hx hb d_C_areRowsOthers_44 (lv_at hl 5 rfl) ?_
          refine lv_iload_n hx hb d_C_areRowsOthers_46 rfl (lv_at hl 2 rfl) ?_
          refine lv_aload hx hb d_C_areRowsOthers_47 (lv_at hl 0 rfl) ?_
          refine va_get (D := D) (ci := 2) (v := .int qW) (C := RK2) (T := TK2) (N := 5) hx hb hts iwK2 hown hK hP 13 rfl rfl 2 (by decide) (hts _ fl_C_110) (fun _ h9 => h9) rfl d_C_areRowsOthers_49 ?_
          obtain ⟨r_52, hcl, hf⟩ := fn_e1 hf
          refine cv_RdI (rest := [.int r_37]) ⟨hx, hb, hml, hown, hts⟩ (c_Lg_shows l D cK lg lgA lgT lgC lgS lgAf lgCf v4 v1 qW r_52 hcl) (cwV 3 hts (zz_V ml_C_174 im_Lg_shows se_Lg_shows in_Lg co_Lg_shows) rfl rfl rfl ⟨rfl, hd_Lg_shows⟩ ⟨Nat.le_of_ble_eq_true rfl, Nat.le_of_ble_eq_true rfl⟩) hK hP [2, 3, 5] rfl 2 rfl rfl rfl rfl hl.1 rfl (Nat.le_of_ble_eq_true rfl) d_C_areRowsOthers_52 ⟨Nat.zero_le _, Nat.zero_le _⟩ ?_
          refine lv_icmp_eq (tgt := 71) hx hb d_C_areRowsOthers_55 (by decide) (fun hc => ?_) (fun hc => ?_)
          · have hf := fn_t hc hf
            refine lv_iinc (v := (v5 + 1)) (lv' := [(5, .int (v5 + 1)), (6, .ref q), (0, .ref cr), (1, .int v1), (2, .int v2), (3, .int v3), (4, .int v4)]) hx hb d_C_areRowsOthers_71 hl (k := 6) rfl rfl (by decide) rfl (fun ls hl => ?_)
            refine lv_goto (tgt := 3) hx hb d_C_areRowsOthers_74 (by decide) ?_
            have hP : va_P D zz_cl ([(cr, .inr (5, [.int crN, .ref lg, .ref qs, .ref se, .ref sr, .ref rt, .ref rb, .ref ow, .int crL, .int crQ])), (qs, .inl (cK 3, 12, .inr (.inr (.inr (.inr qsf))))), (lg, .inr (0, [.ref lgA, .ref lgT, .ref lgC, .int lgS])), (lgA, .inl (cK 0, 400, .inl lgAf)), (lgT, .inl (cK 0, 400, .inl lgTf)), (lgC, .inl (cK 1, 400, .inl lgCf)), (se, .inr (1, [.ref seO])), (seO, .inl (cK 0, 128, .inl seOf)), (sr, .inr (3, [.ref se, .ref srO, .ref srV])), (srO, .inl (cK 0, 4, .inl srOf)), (srV, .inl (cK 0, 4, .inl srVf)), (ow, .inr (4, [.ref owW, .int owS])), (owW, .inl (cK 0, 1, .inl owWf))] ++ mt_pool 2 (cK 0) L) H := mt_P_perm (mt_open (X := [(cr, .inr (5, [.int crN, .ref lg, .ref qs, .ref se, .ref sr, .ref rt, .ref rb, .ref ow, .int crL, .int crQ])), (qs, .inl (cK 3, 12, .inr (.inr (.inr (.inr qsf))))), (lg, .inr (0, [.ref lgA, .ref lgT, .ref lgC, .int lgS])), (lgA, .inl (cK 0, 400, .inl lgAf)), (lgT, .inl (cK 0, 400, .inl lgTf)), (lgC, .inl (cK 1, 400, .inl lgCf)), (se, .inr (1, [.ref seO])), (seO, .inl (cK 0, 128, .inl seOf)), (sr, .inr (3, [.ref se, .ref srO, .ref srV])), (srO, .inl (cK 0, 4, .inl srOf)), (srV, .inl (cK 0, 4, .inl srVf)), (ow, .inr (4, [.ref owW, .int owS])), (owW, .inl (cK 0, 1, .inl owWf))]) hsel).symm hP
            have hD : va_D A ([(cr, .inr (5, [.int crN, .ref lg, .ref qs, .ref se, .ref sr, .ref rt, .ref rb, .ref ow, .int crL, .int crQ])), (qs, .inl (cK 3, 12, .inr (.inr (.inr (.inr qsf))))), (lg, .inr (0, [.ref lgA, .ref lgT, .ref lgC, .int lgS])), (lgA, .inl (cK 0, 400, .inl lgAf)), (lgT, .inl (cK 0, 400, .inl lgTf)), (lgC, .inl (cK 1, 400, .inl lgCf)), (se, .inr (1, [.ref seO])), (seO, .inl (cK 0, 128, .inl seOf)), (sr, .inr (3, [.ref se, .ref srO, .ref srV])), (srO, .inl (cK 0, 4, .inl srOf)), (srV, .inl (cK 0, 4, .inl srVf)), (ow, .inr (4, [.ref owW, .int owS])), (owW, .inl (cK 0, 1, .inl owWf))] ++ mt_pool 2 (cK 0) L) := mt_D_perm (mt_open (X := [(cr, .inr (5, [.int crN, .ref lg, .ref qs, .ref se, .ref sr, .ref rt, .ref rb, .ref ow, .int crL, .int crQ])), (qs, .inl (cK 3, 12, .inr (.inr (.inr (.inr qsf))))), (lg, .inr (0, [.ref lgA, .ref lgT, .ref lgC, .int lgS])), (lgA, .inl (cK 0, 400, .inl lgAf)), (lgT, .inl (cK 0, 400, .inl lgTf)), (lgC, .inl (cK 1, 400, .inl lgCf)), (se, .inr (1, [.ref seO])), (seO, .inl (cK 0, 128, .inl seOf)), (sr, .inr (3, [.ref se, .ref srO, .ref srV])), (srO, .inl (cK 0, 4, .inl srOf)), (srV, .inl (cK 0, 4, .inl srVf)), (ow, .inr (4, [.ref owW, .int owS])), (owW, .inl (cK 0, 1, .inl owWf))]) hsel).symm hD
            exact ih_3 _ _ _ _ _ _ _ _ _ hf hP hD hS (lv_sub hl [2, 3, 4, 5, 6, 0] rfl)
          · have hf := fn_f hc hf
            refine lv_aload_n hx hb d_C_areRowsOthers_58 rfl (lv_at hl 1 rfl) ?_
            refine lv_aload hx hb d_C_areRowsOthers_59 (lv_at hl 0 rfl) ?_
            refine lv_iload_n hx hb d_C_areRowsOthers_61 rfl (lv_at hl 2 rfl) ?_
            refine lv_iload_n hx hb d_C_areRowsOthers_62 rfl (lv_at hl 3 rfl) ?_
            obtain ⟨r_63, seOf_63, srOf_63, srVf_63, owS_63, owWf_63, hcl, hf⟩ := fn_e6 hf
            refine cv_WrIT (rest := []) (wr := [(qs, .inl (cK 3, 12, .inr (.inr (.inr (.inr qsf)))))]) (w' := [(cr, .inr (5, [.int crN, .ref lg, .ref qs, .ref se, .ref sr, .ref rt, .ref rb, .ref ow, .int crL, .int crQ])), (qs, .inl (cK 3, 12, .inr (.inr (.inr (.inr qsf))))), (lg, .inr (0, [.ref lgA, .ref lgT, .ref lgC, .int lgS])), (lgA, .inl (cK 0, 400, .inl lgAf)), (lgT, .inl (cK 0, 400, .inl lgTf)), (lgC, .inl (cK 1, 400, .inl lgCf)), (se, .inr (1, [.ref seO])), (seO, .inl (cK 0, 128, .inl seOf_63)), (sr, .inr (3, [.ref se, .ref srO, .ref srV])), (srO, .inl (cK 0, 4, .inl srOf_63)), (srV, .inl (cK 0, 4, .inl srVf_63)), (ow, .inr (4, [.ref owW, .int owS_63])), (owW, .inl (cK 0, 1, .inl owWf_63)), (q, .inr (2, [.ref qI, .ref qL, .int qW, .int qP, .int qV])), (qI, .inl (cK 0, 9, .inl qIf)), (qL, .inl (cK 0, 3, .inl qLf))]) ⟨hx, hb, hml, hown, hts⟩ (c_C_hasRowThrough l D cK cr lg qs se sr rt rb ow lgA lgT lgC seO srO srV owW q qI qL crN crL crQ lgS lgAf lgTf lgCf seOf srOf srVf owS owWf qW qP qV qIf qLf N v1 v2 r_63 seOf_63 srOf_63 srVf_63 owS_63 owWf_63 hcl) (cwV 3 hts (zz_V ml_C_177 im_C_hasRowThrough se_C_hasRowThrough in_C co_C_hasRowThrough) rfl rfl rfl ⟨rfl, hd_C_hasRowThrough⟩ ⟨Nat.le_of_ble_eq_true rfl, Nat.le_of_ble_eq_true rfl⟩) hK hP hD hS hA [0, 2, 3, 4, 5, 6, 7, 8, 9, 10, 11, 12, 13, 14, 15] [1] [1, 0, 2, 3, 4, 5, 6, 7, 8, 9, 10, 11, 12, 13, 14, 15] rfl (by decide) rfl (by decide) (by decide) rfl (by decide) 0 rfl rfl rfl rfl hl.1 rfl (Nat.le_of_ble_eq_true rfl) d_C_areRowsOthers_63 ⟨Nat.zero_le _, Nat.zero_le _⟩ (fun H locs hP hD hS => ?_)
            refine lv_if_eq (tgt := 71) hx hb d_C_areRowsOthers_66 (by decide) (fun hc => ?_) (fun hc => ?_)
            · have hf := fn_t hc hf
              refine lv_iinc (v := (v5 + 1)) (lv' := [(5, .int (v5 + 1)), (6, .ref q), (0, .ref cr), (1, .int v1), (2, .int v2), (3, .int v3), (4, .int v4)]) hx hb d_C_areRowsOthers_71 hl (k := 6) rfl rfl (by decide) rfl (fun ls hl => ?_)
              refine lv_goto (tgt := 3) hx hb d_C_areRowsOthers_74 (by decide) ?_
              have hP : va_P D zz_cl ([(cr, .inr (5, [.int crN, .ref lg, .ref qs, .ref se, .ref sr, .ref rt, .ref rb, .ref ow, .int crL, .int crQ])), (qs, .inl (cK 3, 12, .inr (.inr (.inr (.inr qsf))))), (lg, .inr (0, [.ref lgA, .ref lgT, .ref lgC, .int lgS])), (lgA, .inl (cK 0, 400, .inl lgAf)), (lgT, .inl (cK 0, 400, .inl lgTf)), (lgC, .inl (cK 1, 400, .inl lgCf)), (se, .inr (1, [.ref seO])), (seO, .inl (cK 0, 128, .inl seOf_63)), (sr, .inr (3, [.ref se, .ref srO, .ref srV])), (srO, .inl (cK 0, 4, .inl srOf_63)), (srV, .inl (cK 0, 4, .inl srVf_63)), (ow, .inr (4, [.ref owW, .int owS_63])), (owW, .inl (cK 0, 1, .inl owWf_63))] ++ mt_pool 2 (cK 0) L) H := mt_P_perm (mt_open (X := [(cr, .inr (5, [.int crN, .ref lg, .ref qs, .ref se, .ref sr, .ref rt, .ref rb, .ref ow, .int crL, .int crQ])), (qs, .inl (cK 3, 12, .inr (.inr (.inr (.inr qsf))))), (lg, .inr (0, [.ref lgA, .ref lgT, .ref lgC, .int lgS])), (lgA, .inl (cK 0, 400, .inl lgAf)), (lgT, .inl (cK 0, 400, .inl lgTf)), (lgC, .inl (cK 1, 400, .inl lgCf)), (se, .inr (1, [.ref seO])), (seO, .inl (cK 0, 128, .inl seOf_63)), (sr, .inr (3, [.ref se, .ref srO, .ref srV])), (srO, .inl (cK 0, 4, .inl srOf_63)), (srV, .inl (cK 0, 4, .inl srVf_63)), (ow, .inr (4, [.ref owW, .int owS_63])), (owW, .inl (cK 0, 1, .inl owWf_63))]) hsel).symm hP
              have hD : va_D A ([(cr, .inr (5, [.int crN, .ref lg, .ref qs, .ref se, .ref sr, .ref rt, .ref rb, .ref ow, .int crL, .int crQ])), (qs, .inl (cK 3, 12, .inr (.inr (.inr (.inr qsf))))), (lg, .inr (0, [.ref lgA, .ref lgT, .ref lgC, .int lgS])), (lgA, .inl (cK 0, 400, .inl lgAf)), (lgT, .inl (cK 0, 400, .inl lgTf)), (lgC, .inl (cK 1, 400, .inl lgCf)), (se, .inr (1, [.ref seO])), (seO, .inl (cK 0, 128, .inl seOf_63)), (sr, .inr (3, [.ref se, .ref srO, .ref srV])), (srO, .inl (cK 0, 4, .inl srOf_63)), (srV, .inl (cK 0, 4, .inl srVf_63)), (ow, .inr (4, [.ref owW, .int owS_63])), (owW, .inl (cK 0, 1, .inl owWf_63))] ++ mt_pool 2 (cK 0) L) := mt_D_perm (mt_open (X := [(cr, .inr (5, [.int crN, .ref lg, .ref qs, .ref se, .ref sr, .ref rt, .ref rb, .ref ow, .int crL, .int crQ])), (qs, .inl (cK 3, 12, .inr (.inr (.inr (.inr qsf))))), (lg, .inr (0, [.ref lgA, .ref lgT, .ref lgC, .int lgS])), (lgA, .inl (cK 0, 400, .inl lgAf)), (lgT, .inl (cK 0, 400, .inl lgTf)), (lgC, .inl (cK 1, 400, .inl lgCf)), (se, .inr (1, [.ref seO])), (seO, .inl (cK 0, 128, .inl seOf_63)), (sr, .inr (3, [.ref se, .ref srO, .ref srV])), (srO, .inl (cK 0, 4, .inl srOf_63)), (srV, .inl (cK 0, 4, .inl srVf_63)), (ow, .inr (4, [.ref owW, .int owS_63])), (owW, .inl (cK 0, 1, .inl owWf_63))]) hsel).symm hD
              exact ih_3 _ _ _ _ _ _ _ _ _ hf hP hD hS (lv_sub hl [2, 3, 4, 5, 6, 0] rfl)
            · have hf := fn_f hc hf
              refine lv_iconst (v := 1) hx hb d_C_areRowsOthers_69 (by decide) ?_
              have hP : va_P D zz_cl ([(cr, .inr (5, [.int crN, .ref lg, .ref qs, .ref se, .ref sr, .ref rt, .ref rb, .ref ow, .int crL, .int crQ])), (qs, .inl (cK 3, 12, .inr (.inr (.inr (.inr qsf))))), (lg, .inr (0, [.ref lgA, .ref lgT, .ref lgC, .int lgS])), (lgA, .inl (cK 0, 400, .inl lgAf)), (lgT, .inl (cK 0, 400, .inl lgTf)), (lgC, .inl (cK 1, 400, .inl lgCf)), (se, .inr (1, [.ref seO])), (seO, .inl (cK 0, 128, .inl seOf_63)), (sr, .inr (3, [.ref se, .ref srO, .ref srV])), (srO, .inl (cK 0, 4, .inl srOf_63)), (srV, .inl (cK 0, 4, .inl srVf_63)), (ow, .inr (4, [.ref owW, .int owS_63])), (owW, .inl (cK 0, 1, .inl owWf_63))] ++ mt_pool 2 (cK 0) L) H := mt_P_perm (mt_open (X := [(cr, .inr (5, [.int crN, .ref lg, .ref qs, .ref se, .ref sr, .ref rt, .ref rb, .ref ow, .int crL, .int crQ])), (qs, .inl (cK 3, 12, .inr (.inr (.inr (.inr qsf))))), (lg, .inr (0, [.ref lgA, .ref lgT, .ref lgC, .int lgS])), (lgA, .inl (cK 0, 400, .inl lgAf)), (lgT, .inl (cK 0, 400, .inl lgTf)), (lgC, .inl (cK 1, 400, .inl lgCf)), (se, .inr (1, [.ref seO])), (seO, .inl (cK 0, 128, .inl seOf_63)), (sr, .inr (3, [.ref se, .ref srO, .ref srV])), (srO, .inl (cK 0, 4, .inl srOf_63)), (srV, .inl (cK 0, 4, .inl srVf_63)), (ow, .inr (4, [.ref owW, .int owS_63])), (owW, .inl (cK 0, 1, .inl owWf_63))]) hsel).symm hP
              have hD : va_D A ([(cr, .inr (5, [.int crN, .ref lg, .ref qs, .ref se, .ref sr, .ref rt, .ref rb, .ref ow, .int crL, .int crQ])), (qs, .inl (cK 3, 12, .inr (.inr (.inr (.inr qsf))))), (lg, .inr (0, [.ref lgA, .ref lgT, .ref lgC, .int lgS])), (lgA, .inl (cK 0, 400, .inl lgAf)), (lgT, .inl (cK 0, 400, .inl lgTf)), (lgC, .inl (cK 1, 400, .inl lgCf)), (se, .inr (1, [.ref seO])), (seO, .inl (cK 0, 128, .inl seOf_63)), (sr, .inr (3, [.ref se, .ref srO, .ref srV])), (srO, .inl (cK 0, 4, .inl srOf_63)), (srV, .inl (cK 0, 4, .inl srVf_63)), (ow, .inr (4, [.ref owW, .int owS_63])), (owW, .inl (cK 0, 1, .inl owWf_63))] ++ mt_pool 2 (cK 0) L) := mt_D_perm (mt_open (X := [(cr, .inr (5, [.int crN, .ref lg, .ref qs, .ref se, .ref sr, .ref rt, .ref rb, .ref ow, .int crL, .int crQ])), (qs, .inl (cK 3, 12, .inr (.inr (.inr (.inr qsf))))), (lg, .inr (0, [.ref lgA, .ref lgT, .ref lgC, .int lgS])), (lgA, .inl (cK 0, 400, .inl lgAf)), (lgT, .inl (cK 0, 400, .inl lgTf)), (lgC, .inl (cK 1, 400, .inl lgCf)), (se, .inr (1, [.ref seO])), (seO, .inl (cK 0, 128, .inl seOf_63)), (sr, .inr (3, [.ref se, .ref srO, .ref srV])), (srO, .inl (cK 0, 4, .inl srOf_63)), (srV, .inl (cK 0, 4, .inl srVf_63)), (ow, .inr (4, [.ref owW, .int owS_63])), (owW, .inl (cK 0, 1, .inl owWf_63))]) hsel).symm hD
              cases hf
              exact hret _ _ 70 _ hP hD hS rfl d_C_areRowsOthers_70
  unfold f_C_areRowsOthers at hf
  refine lv_iconst (v := 0) hx hb d_C_areRowsOthers_0 (by decide) ?_
  refine lv_istore (lv' := [(5, .int 0), (0, .ref cr), (1, .int v1), (2, .int v2), (3, .int v3), (4, .int v4)]) hx hb d_C_areRowsOthers_1 hl (by decide) rfl (fun ls hl => ?_)
  exact J_3 _ _ _ _ _ _ _ _ _ _ _ _ _ _ hf hP hD hS (lv_sub hl [1, 2, 3, 4, 5, 0] rfl)
abbrev rm_C_late : Room := { frames := 11, cells := 0, slots := 0, locals := 282 }
set_option maxHeartbeats 4000000 in
set_option maxRecDepth 100000 in
theorem c_C_late (l : Launch) (D : va_G) (cK : Nat → ClassId) (cr lg qs se sr rt rb ow lgA lgT lgC seO srO srV owW : Nat) (crN : Int32) (crL : Int32) (crQ : Int32) (qsf : Nat → Option Nat) (lgS : Int32) (lgAf : Nat → Int32) (lgTf : Nat → Int32) (lgCf : Nat → Int32) (seOf : Nat → Int32) (srOf : Nat → Int32) (srVf : Nat → Int32) (owS : Int32) (owWf : Nat → Int32) (L : List mt_Q) (N : Nat) (v1 : Int32) (v2 : Int32) (v3 : Int32) (v4 : Int32) (v5 : Int32) (r : Int32) (o_lgS : Int32) (o_lgAf : Nat → Int32) (o_lgTf : Nat → Int32) (o_lgCf : Nat → Int32) (o_seOf : Nat → Int32) (o_srOf : Nat → Int32) (o_srVf : Nat → Int32) (o_owS : Int32) (o_owWf : Nat → Int32) (hf : f_C_late L N crL crQ qsf lgS lgAf lgTf lgCf seOf srOf srVf owS owWf v1 v2 v3 v4 v5 = some (r, o_lgS, o_lgAf, o_lgTf, o_lgCf, o_seOf, o_srOf, o_srVf, o_owS, o_owWf)) : WrI l y_C_late w_C_late rm_C_late D zz_cl (mt_ty cK RK2) [.ref cr, .int v1, .int v2, .int v3, .int v4, .int v5] ([(cr, .inr (5, [.int crN, .ref lg, .ref qs, .ref se, .ref sr, .ref rt, .ref rb, .ref ow, .int crL, .int crQ])), (qs, .inl (cK 3, 12, .inr (.inr (.inr (.inr qsf))))), (lg, .inr (0, [.ref lgA, .ref lgT, .ref lgC, .int lgS])), (lgA, .inl (cK 0, 400, .inl lgAf)), (lgT, .inl (cK 0, 400, .inl lgTf)), (lgC, .inl (cK 1, 400, .inl lgCf)), (se, .inr (1, [.ref seO])), (seO, .inl (cK 0, 128, .inl seOf)), (sr, .inr (3, [.ref se, .ref srO, .ref srV])), (srO, .inl (cK 0, 4, .inl srOf)), (srV, .inl (cK 0, 4, .inl srVf)), (ow, .inr (4, [.ref owW, .int owS])), (owW, .inl (cK 0, 1, .inl owWf))] ++ mt_pool 2 (cK 0) L) ([(cr, .inr (5, [.int crN, .ref lg, .ref qs, .ref se, .ref sr, .ref rt, .ref rb, .ref ow, .int crL, .int crQ])), (qs, .inl (cK 3, 12, .inr (.inr (.inr (.inr qsf))))), (lg, .inr (0, [.ref lgA, .ref lgT, .ref lgC, .int o_lgS])), (lgA, .inl (cK 0, 400, .inl o_lgAf)), (lgT, .inl (cK 0, 400, .inl o_lgTf)), (lgC, .inl (cK 1, 400, .inl o_lgCf)), (se, .inr (1, [.ref seO])), (seO, .inl (cK 0, 128, .inl o_seOf)), (sr, .inr (3, [.ref se, .ref srO, .ref srV])), (srO, .inl (cK 0, 4, .inl o_srOf)), (srV, .inl (cK 0, 4, .inl o_srVf)), (ow, .inr (4, [.ref owW, .int o_owS])), (owW, .inl (cK 0, 1, .inl o_owWf))] ++ mt_pool 2 (cK 0) L) r := by
  refine mk_WrI (cc := b_C_late) (maxL := 12) (ty := .int) (by decide +kernel) rfl (Nat.le_of_ble_eq_true rfl) ?_
  intro p e s m below meth c args Q A ls hx hb hml hown hts hA hK hP hD hret hl
  have hS : va_S A s.heap s.heap [] := va_S.rf
  have hl : lv_has ls 12 [(0, .ref cr), (1, .int v1), (2, .int v2), (3, .int v3), (4, .int v4), (5, .int v5)] := hl
  have J_89 : ∀ (v6 : Int32) (v7 : Int32) (v8 : Int32) (v9 : Int32) (n_89 : Nat) (lgS : Int32) (lgAf : Nat → Int32) (lgTf : Nat → Int32) (lgCf : Nat → Int32) (seOf : Nat → Int32) (srOf : Nat → Int32) (srVf : Nat → Int32) (owS : Int32) (owWf : Nat → Int32) (v10 : Int32) (v11 : Int32) (H : Heap) (locs : List Loc) (ls : Array Slot), f_C_late_89 L N crL crQ qsf v6 v7 v8 v9 n_89 lgS lgAf lgTf lgCf seOf srOf srVf owS owWf v10 v11 = some (r, o_lgS, o_lgAf, o_lgTf, o_lgCf, o_seOf, o_srOf, o_srVf, o_owS, o_owWf) → va_P D zz_cl ([(cr, .inr (5, [.int crN, .ref lg, .ref qs, .ref se, .ref sr, .ref rt, .ref rb, .ref ow, .int crL, .int crQ])), (qs, .inl (cK 3, 12, .inr (.inr (.inr (.inr qsf))))), (lg, .inr (0, [.ref lgA, .ref lgT, .ref lgC, .int lgS])), (lgA, .inl (cK 0, 400, .inl lgAf)), (lgT, .inl (cK 0, 400, .inl lgTf)), (lgC, .inl (cK 1, 400, .inl lgCf)), (se, .inr (1, [.ref seO])), (seO, .inl (cK 0, 128, .inl seOf)), (sr, .inr (3, [.ref se, .ref srO, .ref srV])), (srO, .inl (cK 0, 4, .inl srOf)), (srV, .inl (cK 0, 4, .inl srVf)), (ow, .inr (4, [.ref owW, .int owS])), (owW, .inl (cK 0, 1, .inl owWf))] ++ mt_pool 2 (cK 0) L) H → va_D A ([(cr, .inr (5, [.int crN, .ref lg, .ref qs, .ref se, .ref sr, .ref rt, .ref rb, .ref ow, .int crL, .int crQ])), (qs, .inl (cK 3, 12, .inr (.inr (.inr (.inr qsf))))), (lg, .inr (0, [.ref lgA, .ref lgT, .ref lgC, .int lgS])), (lgA, .inl (cK 0, 400, .inl lgAf)), (lgT, .inl (cK 0, 400, .inl lgTf)), (lgC, .inl (cK 1, 400, .inl lgCf)), (se, .inr (1, [.ref seO])), (seO, .inl (cK 0, 128, .inl seOf)), (sr, .inr (3, [.ref se, .ref srO, .ref srV])), (srO, .inl (cK 0, 4, .inl srOf)), (srV, .inl (cK 0, 4, .inl srVf)), (ow, .inr (4, [.ref owW, .int owS])), (owW, .inl (cK 0, 1, .inl owWf))] ++ mt_pool 2 (cK 0) L) → va_S A s.heap H locs → lv_has ls 12 [(0, .ref cr), (6, .int v6), (7, .int v7), (8, .int v8), (9, .int v9), (10, .int v10), (11, .int v11)] → W p l e rm_C_late s m args below meth c H locs 0 0 Q (F0 m 89 ls []) := by
    intro v6 v7 v8 v9 n_89
    induction n_89 with
    | zero =>
      intro lgS lgAf lgTf lgCf seOf srOf srVf owS owWf v10 v11 H locs ls hf hP hD hS hl
      exact fn_0 hf
    | succ n_89 ih_89 =>
      intro lgS lgAf lgTf lgCf seOf srOf srVf owS owWf v10 v11 H locs ls hf hP hD hS hl
      rw [f_C_late_89.eq_2] at hf
      refine lv_iload hx hb d_C_late_89 (lv_at hl 6 rfl) ?_
      refine lv_aload_n hx hb d_C_late_91 rfl (lv_at hl 0 rfl) ?_
      refine va_get (D := D) (ci := 5) (v := .int crL) (C := RK5) (T := TK5) (N := 10) hx hb hts iwK5 hown hK hP 0 rfl rfl 8 (by decide) (hts _ fl_C_75) (fun _ h9 => h9) rfl d_C_late_92 ?_
      refine lv_icmp_gt (tgt := 129) hx hb d_C_late_95 (by decide) (fun hc => ?_) (fun hc => ?_)
      · have hf := fn_t hc hf
        refine lv_iload hx hb d_C_late_129 (lv_at hl 5 rfl) ?_
        cases hf
        exact hret _ _ 131 _ hP hD hS rfl d_C_late_131
      · have hf := fn_f hc hf
        refine lv_iload hx hb d_C_late_98 (lv_at hl 6 rfl) ?_
        refine lv_iload hx hb d_C_late_100 (lv_at hl 4 rfl) ?_
        refine lv_icmp_ge (tgt := 129) hx hb d_C_late_102 (by decide) (fun hc => ?_) (fun hc => ?_)
        · have hf := fn_t hc hf
          refine lv_iload hx hb d_C_late_129 (lv_at hl 5 rfl) ?_
          cases hf
          exact hret _ _ 131 _ hP hD hS rfl d_C_late_131
        · have hf := fn_f hc hf
          refine lv_aload_n hx hb d_C_late_105 rfl (lv_at hl 0 rfl) ?_
          refine lv_iload hx hb d_C_late_106 (lv_at hl 6 rfl) ?_
          refine lv_iload hx hb d_C_late_108 (lv_at hl 1 rfl) ?_
          refine lv_iload hx hb d_C_late_110 (lv_at hl 2 rfl) ?_
          refine lv_iload hx hb d_C_late_112 (lv_at hl 3 rfl) ?_
          obtain ⟨r_114, seOf_114, srOf_114, srVf_114, owS_114, owWf_114, hcl, hf⟩ := fn_e6 hf
          refine cv_WrIP (rest := []) (wr := []) (w' := [(cr, .inr (5, [.int crN, .ref lg, .ref qs, .ref se, .ref sr, .ref rt, .ref rb, .ref ow, .int crL, .int crQ])), (qs, .inl (cK 3, 12, .inr (.inr (.inr (.inr qsf))))), (lg, .inr (0, [.ref lgA, .ref lgT, .ref lgC, .int lgS])), (lgA, .inl (cK 0, 400, .inl lgAf)), (lgT, .inl (cK 0, 400, .inl lgTf)), (lgC, .inl (cK 1, 400, .inl lgCf)), (se, .inr (1, [.ref seO])), (seO, .inl (cK 0, 128, .inl seOf_114)), (sr, .inr (3, [.ref se, .ref srO, .ref srV])), (srO, .inl (cK 0, 4, .inl srOf_114)), (srV, .inl (cK 0, 4, .inl srVf_114)), (ow, .inr (4, [.ref owW, .int owS_114])), (owW, .inl (cK 0, 1, .inl owWf_114))]) ⟨hx, hb, hml, hown, hts⟩ (c_C_areRowsOthers l D cK cr lg qs se sr rt rb ow lgA lgT lgC seO srO srV owW crN crL crQ qsf lgS lgAf lgTf lgCf seOf srOf srVf owS owWf L N v11 v6 v7 v8 r_114 seOf_114 srOf_114 srVf_114 owS_114 owWf_114 hcl) (cwV 4 hts (zz_V ml_C_140 im_C_areRowsOthers se_C_areRowsOthers in_C co_C_areRowsOthers) rfl rfl rfl ⟨rfl, hd_C_areRowsOthers⟩ ⟨Nat.le_of_ble_eq_true rfl, Nat.le_of_ble_eq_true rfl⟩) hK hP hD hS hA [0, 1, 2, 3, 4, 5, 6, 7, 8, 9, 10, 11, 12] [] [0, 1, 2, 3, 4, 5, 6, 7, 8, 9, 10, 11, 12] rfl (by decide) rfl (by decide) (by decide) rfl (by decide) 0 rfl rfl rfl rfl hl.1 rfl (Nat.le_of_ble_eq_true rfl) d_C_late_114 ⟨Nat.zero_le _, Nat.zero_le _⟩ (fun H locs hP hD hS => ?_)
          refine lv_if_eq (tgt := 123) hx hb d_C_late_117 (by decide) (fun hc => ?_) (fun hc => ?_)
          · have hf := fn_t hc hf
            refine lv_iinc (v := (v11 + 1)) (lv' := [(11, .int (v11 + 1)), (0, .ref cr), (6, .int v6), (7, .int v7), (8, .int v8), (9, .int v9), (10, .int v10)]) hx hb d_C_late_123 hl (k := 6) rfl rfl (by decide) rfl (fun ls hl => ?_)
            refine lv_goto (tgt := 89) hx hb d_C_late_126 (by decide) ?_
            exact ih_89 _ _ _ _ _ _ _ _ _ _ _ _ _ _ hf hP hD hS (lv_sub hl [1, 2, 3, 4, 5, 6, 0] rfl)
          · have hf := fn_f hc hf
            refine lv_iinc (v := (v10 + 1)) (lv' := [(10, .int (v10 + 1)), (0, .ref cr), (6, .int v6), (7, .int v7), (8, .int v8), (9, .int v9), (11, .int v11)]) hx hb d_C_late_120 hl (k := 5) rfl rfl (by decide) rfl (fun ls hl => ?_)
            refine lv_iinc (v := (v11 + 1)) (lv' := [(11, .int (v11 + 1)), (10, .int (v10 + 1)), (0, .ref cr), (6, .int v6), (7, .int v7), (8, .int v8), (9, .int v9)]) hx hb d_C_late_123 hl (k := 6) rfl rfl (by decide) rfl (fun ls hl => ?_)
            refine lv_goto (tgt := 89) hx hb d_C_late_126 (by decide) ?_
            exact ih_89 _ _ _ _ _ _ _ _ _ _ _ _ _ _ hf hP hD hS (lv_sub hl [2, 3, 4, 5, 6, 1, 0] rfl)
  unfold f_C_late at hf
  refine lv_iload_n hx hb d_C_late_0 rfl (lv_at hl 2 rfl) ?_
  refine lv_iload_n hx hb d_C_late_1 rfl (lv_at hl 3 rfl) ?_
  refine lv_iload hx hb d_C_late_2 (lv_at hl 4 rfl) ?_
  obtain ⟨r_4, hcl, hf⟩ := fn_e1 hf
  refine cs_RdI (rest := []) ⟨hx, hb, hml, hown, hts⟩ (c_C_isTriple l D cK v2 v3 v4 r_4 hcl) (va_cwS 3 hts (zz_S ml_C_63 st_C_isTriple in_C co_C_isTriple) rfl rfl rfl hd_C_isTriple ⟨Nat.le_of_ble_eq_true rfl, Nat.le_of_ble_eq_true rfl⟩) hK hP [] rfl rfl hl.1 rfl (Nat.le_of_ble_eq_true rfl) d_C_late_4 ⟨Nat.zero_le _, Nat.zero_le _⟩ ?_
  refine lv_if_eq (tgt := 22) hx hb d_C_late_7 (by decide) (fun hc => ?_) (fun hc => ?_)
  · have hf := fn_t hc hf
    refine lv_iconst (v := (-1)) hx hb d_C_late_22 (by decide) ?_
    cases hf
    exact hret _ _ 23 _ hP hD hS rfl d_C_late_23
  · have hf := fn_f hc hf
    refine lv_iload_n hx hb d_C_late_10 rfl (lv_at hl 1 rfl) ?_
    refine lv_if_lt (tgt := 22) hx hb d_C_late_11 (by decide) (fun hc => ?_) (fun hc => ?_)
    · have hf := fn_t hc hf
      refine lv_iconst (v := (-1)) hx hb d_C_late_22 (by decide) ?_
      cases hf
      exact hret _ _ 23 _ hP hD hS rfl d_C_late_23
    · have hf := fn_f hc hf
      refine lv_iload_n hx hb d_C_late_14 rfl (lv_at hl 1 rfl) ?_
      refine lv_aload_n hx hb d_C_late_15 rfl (lv_at hl 0 rfl) ?_
      refine va_get (D := D) (ci := 5) (v := .int crL) (C := RK5) (T := TK5) (N := 10) hx hb hts iwK5 hown hK hP 0 rfl rfl 8 (by decide) (hts _ fl_C_75) (fun _ h9 => h9) rfl d_C_late_16 ?_
      refine lv_icmp_lt (tgt := 24) hx hb d_C_late_19 (by decide) (fun hc => ?_) (fun hc => ?_)
      · have hf := fn_t hc hf
        refine lv_aload_n hx hb d_C_late_24 rfl (lv_at hl 0 rfl) ?_
        refine va_get (D := D) (ci := 5) (v := .ref lg) (C := RK5) (T := TK5) (N := 10) hx hb hts iwK5 hown hK hP 0 rfl rfl 1 (by decide) (hts _ fl_C_12) (fun _ h9 => h9) rfl d_C_late_25 ?_
        obtain ⟨r_28, hcl, hf⟩ := fn_e1 hf
        refine cv_RdI (rest := []) ⟨hx, hb, hml, hown, hts⟩ (c_Lg_isFull l D cK lg lgA lgT lgC lgS r_28 hcl) (cwV 0 hts (zz_V ml_C_67 im_Lg_isFull se_Lg_isFull in_Lg co_Lg_isFull) rfl rfl rfl ⟨rfl, hd_Lg_isFull⟩ ⟨Nat.le_of_ble_eq_true rfl, Nat.le_of_ble_eq_true rfl⟩) hK hP [2] rfl 2 rfl rfl rfl rfl hl.1 rfl (Nat.le_of_ble_eq_true rfl) d_C_late_28 ⟨Nat.zero_le _, Nat.zero_le _⟩ ?_
        refine lv_if_eq (tgt := 37) hx hb d_C_late_31 (by decide) (fun hc => ?_) (fun hc => ?_)
        · have hf := fn_t hc hf
          refine lv_iload_n hx hb d_C_late_37 rfl (lv_at hl 2 rfl) ?_
          refine lv_iload_n hx hb d_C_late_38 rfl (lv_at hl 3 rfl) ?_
          refine lv_iload hx hb d_C_late_39 (lv_at hl 4 rfl) ?_
          obtain ⟨r_41, hcl, hf⟩ := fn_e1 hf
          refine cs_RdI (rest := []) ⟨hx, hb, hml, hown, hts⟩ (c_C_tripleOf l D cK v2 v3 v4 r_41 hcl) (va_cwS 3 hts (zz_S ml_C_71 st_C_tripleOf in_C co_C_tripleOf) rfl rfl rfl hd_C_tripleOf ⟨Nat.le_of_ble_eq_true rfl, Nat.le_of_ble_eq_true rfl⟩) hK hP [] rfl rfl hl.1 rfl (Nat.le_of_ble_eq_true rfl) d_C_late_41 ⟨Nat.zero_le _, Nat.zero_le _⟩ ?_
          refine lv_istore (lv' := [(6, .int r_41), (0, .ref cr), (1, .int v1), (2, .int v2), (3, .int v3), (4, .int v4), (5, .int v5)]) hx hb d_C_late_44 hl (by decide) rfl (fun ls hl => ?_)
          refine lv_aload_n hx hb d_C_late_46 rfl (lv_at hl 1 rfl) ?_
          refine va_get (D := D) (ci := 5) (v := .ref lg) (C := RK5) (T := TK5) (N := 10) hx hb hts iwK5 hown hK hP 0 rfl rfl 1 (by decide) (hts _ fl_C_12) (fun _ h9 => h9) rfl d_C_late_47 ?_
          refine lv_iload hx hb d_C_late_50 (lv_at hl 0 rfl) ?_
          refine lv_iload_n hx hb d_C_late_52 rfl (lv_at hl 2 rfl) ?_
          obtain ⟨r_53, hcl, hf⟩ := fn_e1 hf
          refine cv_RdI (rest := []) ⟨hx, hb, hml, hown, hts⟩ (c_Lg_lastOf l D cK lg lgA lgT lgC lgS lgAf lgTf N r_41 v1 r_53 hcl) (cwV 2 hts (zz_V ml_C_78 im_Lg_lastOf se_Lg_lastOf in_Lg co_Lg_lastOf) rfl rfl rfl ⟨rfl, hd_Lg_lastOf⟩ ⟨Nat.le_of_ble_eq_true rfl, Nat.le_of_ble_eq_true rfl⟩) hK hP [2, 3, 4] rfl 2 rfl rfl rfl rfl hl.1 rfl (Nat.le_of_ble_eq_true rfl) d_C_late_53 ⟨Nat.zero_le _, Nat.zero_le _⟩ ?_
          refine lv_istore (lv' := [(7, .int r_53), (6, .int r_41), (0, .ref cr), (1, .int v1), (2, .int v2), (3, .int v3), (4, .int v4), (5, .int v5)]) hx hb d_C_late_56 hl (by decide) rfl (fun ls hl => ?_)
          refine lv_aload_n hx hb d_C_late_58 rfl (lv_at hl 2 rfl) ?_
          refine va_get (D := D) (ci := 5) (v := .ref lg) (C := RK5) (T := TK5) (N := 10) hx hb hts iwK5 hown hK hP 0 rfl rfl 1 (by decide) (hts _ fl_C_12) (fun _ h9 => h9) rfl d_C_late_59 ?_
          refine lv_iload_n hx hb d_C_late_62 rfl (lv_at hl 3 rfl) ?_
          refine lv_iload hx hb d_C_late_63 (lv_at hl 1 rfl) ?_
          refine lv_iload hx hb d_C_late_65 (lv_at hl 7 rfl) ?_
          obtain ⟨r_67, lgS_67, lgAf_67, lgTf_67, lgCf_67, hcl, hf⟩ := fn_e5 hf
          refine cv_WrIT (rest := []) (wr := [(cr, .inr (5, [.int crN, .ref lg, .ref qs, .ref se, .ref sr, .ref rt, .ref rb, .ref ow, .int crL, .int crQ])), (qs, .inl (cK 3, 12, .inr (.inr (.inr (.inr qsf))))), (se, .inr (1, [.ref seO])), (seO, .inl (cK 0, 128, .inl seOf)), (sr, .inr (3, [.ref se, .ref srO, .ref srV])), (srO, .inl (cK 0, 4, .inl srOf)), (srV, .inl (cK 0, 4, .inl srVf)), (ow, .inr (4, [.ref owW, .int owS])), (owW, .inl (cK 0, 1, .inl owWf))]) (w' := [(cr, .inr (5, [.int crN, .ref lg, .ref qs, .ref se, .ref sr, .ref rt, .ref rb, .ref ow, .int crL, .int crQ])), (qs, .inl (cK 3, 12, .inr (.inr (.inr (.inr qsf))))), (lg, .inr (0, [.ref lgA, .ref lgT, .ref lgC, .int lgS_67])), (lgA, .inl (cK 0, 400, .inl lgAf_67)), (lgT, .inl (cK 0, 400, .inl lgTf_67)), (lgC, .inl (cK 1, 400, .inl lgCf_67)), (se, .inr (1, [.ref seO])), (seO, .inl (cK 0, 128, .inl seOf)), (sr, .inr (3, [.ref se, .ref srO, .ref srV])), (srO, .inl (cK 0, 4, .inl srOf)), (srV, .inl (cK 0, 4, .inl srVf)), (ow, .inr (4, [.ref owW, .int owS])), (owW, .inl (cK 0, 1, .inl owWf))]) ⟨hx, hb, hml, hown, hts⟩ (c_Lg_say l D cK lg lgA lgT lgC lgS lgAf lgTf lgCf N v1 r_41 v5 r_67 lgS_67 lgAf_67 lgTf_67 lgCf_67 hcl) (cwV 3 hts (zz_V ml_C_85 im_Lg_say se_Lg_say in_Lg co_Lg_say) rfl rfl rfl ⟨rfl, hd_Lg_say⟩ ⟨Nat.le_of_ble_eq_true rfl, Nat.le_of_ble_eq_true rfl⟩) hK hP hD hS hA [2, 3, 4, 5] [0, 1, 6, 7, 8, 9, 10, 11, 12] [0, 1, 9, 10, 11, 12, 2, 3, 4, 5, 6, 7, 8] rfl (by decide) rfl (by decide) (by decide) rfl (by decide) 2 rfl rfl rfl rfl hl.1 rfl (Nat.le_of_ble_eq_true rfl) d_C_late_67 ⟨Nat.zero_le _, Nat.zero_le _⟩ (fun H locs hP hD hS => ?_)
          refine lv_istore (lv' := [(8, .int r_67), (7, .int r_53), (6, .int r_41), (0, .ref cr), (1, .int v1), (2, .int v2), (3, .int v3), (4, .int v4), (5, .int v5)]) hx hb d_C_late_70 hl (by decide) rfl (fun ls hl => ?_)
          refine lv_aload_n hx hb d_C_late_72 rfl (lv_at hl 3 rfl) ?_
          refine va_get (D := D) (ci := 5) (v := .ref lg) (C := RK5) (T := TK5) (N := 10) hx hb hts iwK5 hown hK hP 0 rfl rfl 1 (by decide) (hts _ fl_C_12) (fun _ h9 => h9) rfl d_C_late_73 ?_
          refine lv_iload hx hb d_C_late_76 (lv_at hl 0 rfl) ?_
          obtain ⟨r_78, hcl, hf⟩ := fn_e1 hf
          refine cv_RdI (rest := []) ⟨hx, hb, hml, hown, hts⟩ (c_Lg_heldUntil l D cK lg lgA lgT lgC lgS_67 lgAf_67 lgTf_67 N r_67 r_78 hcl) (cwV 1 hts (zz_V ml_C_137 im_Lg_heldUntil se_Lg_heldUntil in_Lg co_Lg_heldUntil) rfl rfl rfl ⟨rfl, hd_Lg_heldUntil⟩ ⟨Nat.le_of_ble_eq_true rfl, Nat.le_of_ble_eq_true rfl⟩) hK hP [2, 3, 4] rfl 2 rfl rfl rfl rfl hl.1 rfl (Nat.le_of_ble_eq_true rfl) d_C_late_78 ⟨Nat.zero_le _, Nat.zero_le _⟩ ?_
          refine lv_istore (lv' := [(9, .int r_78), (8, .int r_67), (7, .int r_53), (6, .int r_41), (0, .ref cr), (1, .int v1), (2, .int v2), (3, .int v3), (4, .int v4), (5, .int v5)]) hx hb d_C_late_81 hl (by decide) rfl (fun ls hl => ?_)
          refine lv_iconst (v := 0) hx hb d_C_late_83 (by decide) ?_
          refine lv_istore (lv' := [(10, .int 0), (9, .int r_78), (8, .int r_67), (7, .int r_53), (6, .int r_41), (0, .ref cr), (1, .int v1), (2, .int v2), (3, .int v3), (4, .int v4), (5, .int v5)]) hx hb d_C_late_84 hl (by decide) rfl (fun ls hl => ?_)
          refine lv_iload_n hx hb d_C_late_86 rfl (lv_at hl 6 rfl) ?_
          refine lv_istore (lv' := [(11, .int v1), (10, .int 0), (9, .int r_78), (8, .int r_67), (7, .int r_53), (6, .int r_41), (0, .ref cr), (1, .int v1), (2, .int v2), (3, .int v3), (4, .int v4), (5, .int v5)]) hx hb d_C_late_87 hl (by decide) rfl (fun ls hl => ?_)
          exact J_89 _ _ _ _ _ _ _ _ _ _ _ _ _ _ _ _ _ _ _ hf hP hD hS (lv_sub hl [6, 5, 4, 3, 2, 1, 0] rfl)
        · have hf := fn_f hc hf
          refine lv_bipush (v := (-3)) hx hb d_C_late_34 (by decide) ?_
          cases hf
          exact hret _ _ 36 _ hP hD hS rfl d_C_late_36
      · have hf := fn_f hc hf
        refine lv_iconst (v := (-1)) hx hb d_C_late_22 (by decide) ?_
        cases hf
        exact hret _ _ 23 _ hP hD hS rfl d_C_late_23

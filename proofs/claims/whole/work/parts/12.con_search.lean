abbrev rm_Sr_begin : Room := { frames := 1, cells := 0, slots := 0, locals := 21 }
set_option maxHeartbeats 4000000 in
set_option maxRecDepth 100000 in
theorem c_Sr_begin (l : Launch) (D : va_G) (cK : Nat → ClassId) (sr se srO srV q qI qL : Nat) (srOf : Nat → Int32) (qW : Int32) (qP : Int32) (qV : Int32) (N : Nat)  (o_srOf : Nat → Int32) (hf : f_Sr_begin N srOf qV = some o_srOf) : WrV l y_Sr_begin w_Sr_begin rm_Sr_begin D zz_cl (mt_ty cK RK2) [.ref sr, .ref q] [(sr, .inr (3, [.ref se, .ref srO, .ref srV])), (srO, .inl (cK 0, 4, .inl srOf)), (q, .inr (2, [.ref qI, .ref qL, .int qW, .int qP, .int qV]))] [(sr, .inr (3, [.ref se, .ref srO, .ref srV])), (srO, .inl (cK 0, 4, .inl o_srOf)), (q, .inr (2, [.ref qI, .ref qL, .int qW, .int qP, .int qV]))] := by
  refine mk_WrV (cc := b_Sr_begin) (maxL := 3) (by decide +kernel) rfl (Nat.le_of_ble_eq_true rfl) ?_
  intro p e s m below meth c args Q A ls hx hb hml hown hts hA hK hP hD hret hl
  have hS : va_S A s.heap s.heap [] := va_S.rf
  have hl : lv_has ls 3 [(0, .ref sr), (1, .ref q)] := hl
  have J_2 : ∀  (n_2 : Nat) (srOf : Nat → Int32) (v2 : Int32) (H : Heap) (locs : List Loc) (ls : Array Slot), f_Sr_begin_2 N qV n_2 srOf v2 = some o_srOf → va_P D zz_cl [(sr, .inr (3, [.ref se, .ref srO, .ref srV])), (srO, .inl (cK 0, 4, .inl srOf)), (q, .inr (2, [.ref qI, .ref qL, .int qW, .int qP, .int qV]))] H → va_D A [(sr, .inr (3, [.ref se, .ref srO, .ref srV])), (srO, .inl (cK 0, 4, .inl srOf)), (q, .inr (2, [.ref qI, .ref qL, .int qW, .int qP, .int qV]))] → va_S A s.heap H locs → lv_has ls 3 [(0, .ref sr), (1, .ref q), (2, .int v2)] → W p l e rm_Sr_begin s m args below meth c H locs 0 0 Q (F0 m 2 ls []) := by
    intro n_2
    induction n_2 with
    | zero =>
      intro srOf v2 H locs ls hf hP hD hS hl
      exact fn_0 hf
    | succ n_2 ih_2 =>
      intro srOf v2 H locs ls hf hP hD hS hl
      rw [f_Sr_begin_2.eq_2] at hf
      refine lv_iload_n hx hb d_Sr_begin_2 rfl (lv_at hl 2 rfl) ?_
      refine lv_iconst (v := 4) hx hb d_Sr_begin_3 (by decide) ?_
      refine lv_icmp_ge (tgt := 33) hx hb d_Sr_begin_4 (by decide) (fun hc => ?_) (fun hc => ?_)
      · have hf := fn_t hc hf
        cases hf
        exact hret _ _ 33 _ hP hD hS d_Sr_begin_33
      · have hf := fn_f hc hf
        refine lv_aload_n hx hb d_Sr_begin_7 rfl (lv_at hl 0 rfl) ?_
        refine va_get (D := D) (ci := 3) (v := .ref srO) (C := RK3) (T := TK3) (N := 3) hx hb hts iwK3 hown hK hP 0 rfl rfl 1 (by decide) (hts _ fl_Sr_9) (fun _ h9 => h9) rfl d_Sr_begin_8 ?_
        refine lv_iload_n hx hb d_Sr_begin_11 rfl (lv_at hl 2 rfl) ?_
        refine lv_aload_n hx hb d_Sr_begin_12 rfl (lv_at hl 1 rfl) ?_
        refine lv_iload_n hx hb d_Sr_begin_13 rfl (lv_at hl 2 rfl) ?_
        obtain ⟨r_14, hcl, hf⟩ := fn_e1 hf
        refine cv_RdI (rest := [.int v2, .ref srO]) ⟨hx, hb, hml, hown, hts⟩ (c_Qu_uses l D cK q qI qL qW qP qV v2 r_14 hcl) (cwV 1 hts (zz_V ml_Sr_22 im_Qu_uses se_Qu_uses in_Qu co_Qu_uses) rfl rfl rfl ⟨rfl, hd_Qu_uses⟩ ⟨Nat.le_of_ble_eq_true rfl, Nat.le_of_ble_eq_true rfl⟩) hK hP [2] rfl 2 rfl rfl rfl rfl hl.1 rfl (Nat.le_of_ble_eq_true rfl) d_Sr_begin_14 ⟨Nat.zero_le _, Nat.zero_le _⟩ ?_
        refine lv_if_eq (tgt := 25) hx hb d_Sr_begin_17 (by decide) (fun hc => ?_) (fun hc => ?_)
        · have hf := fn_t hc hf
          refine lv_iconst (v := 1) hx hb d_Sr_begin_25 (by decide) ?_
          have hg := fn_g hf
          have hf := fn_t hg hf
          refine va_iast hx hb hK hP hD hS 1 0 rfl rfl (fn_v hg) d_Sr_begin_26 (fun H locs hP hD hS => ?_)
          have hP : va_P D zz_cl [(sr, .inr (3, [.ref se, .ref srO, .ref srV])), (srO, .inl (cK 0, 4, .inl (upd srOf (Int32.toNatClampNeg v2) 1))), (q, .inr (2, [.ref qI, .ref qL, .int qW, .int qP, .int qV]))] H := hP
          have hD : va_D A [(sr, .inr (3, [.ref se, .ref srO, .ref srV])), (srO, .inl (cK 0, 4, .inl (upd srOf (Int32.toNatClampNeg v2) 1))), (q, .inr (2, [.ref qI, .ref qL, .int qW, .int qP, .int qV]))] := hD
          refine lv_iinc (v := (v2 + 1)) (lv' := [(2, .int (v2 + 1)), (0, .ref sr), (1, .ref q)]) hx hb d_Sr_begin_27 hl (k := 2) rfl rfl (by decide) rfl (fun ls hl => ?_)
          refine lv_goto (tgt := 2) hx hb d_Sr_begin_30 (by decide) ?_
          exact ih_2 _ _ _ _ _ hf hP hD hS (lv_sub hl [1, 2, 0] rfl)
        · have hf := fn_f hc hf
          refine lv_ldc (v := 65535) hx hb hown (hts _ kn_Sr_28) d_Sr_begin_20 ?_
          refine lv_goto (tgt := 26) hx hb d_Sr_begin_22 (by decide) ?_
          have hg := fn_g hf
          have hf := fn_t hg hf
          refine va_iast hx hb hK hP hD hS 1 0 rfl rfl (fn_v hg) d_Sr_begin_26 (fun H locs hP hD hS => ?_)
          have hP : va_P D zz_cl [(sr, .inr (3, [.ref se, .ref srO, .ref srV])), (srO, .inl (cK 0, 4, .inl (upd srOf (Int32.toNatClampNeg v2) 65535))), (q, .inr (2, [.ref qI, .ref qL, .int qW, .int qP, .int qV]))] H := hP
          have hD : va_D A [(sr, .inr (3, [.ref se, .ref srO, .ref srV])), (srO, .inl (cK 0, 4, .inl (upd srOf (Int32.toNatClampNeg v2) 65535))), (q, .inr (2, [.ref qI, .ref qL, .int qW, .int qP, .int qV]))] := hD
          refine lv_iinc (v := (v2 + 1)) (lv' := [(2, .int (v2 + 1)), (0, .ref sr), (1, .ref q)]) hx hb d_Sr_begin_27 hl (k := 2) rfl rfl (by decide) rfl (fun ls hl => ?_)
          refine lv_goto (tgt := 2) hx hb d_Sr_begin_30 (by decide) ?_
          exact ih_2 _ _ _ _ _ hf hP hD hS (lv_sub hl [1, 2, 0] rfl)
  unfold f_Sr_begin at hf
  refine lv_iconst (v := 0) hx hb d_Sr_begin_0 (by decide) ?_
  refine lv_istore_n (lv' := [(2, .int 0), (0, .ref sr), (1, .ref q)]) hx hb d_Sr_begin_1 rfl hl (by decide) rfl (fun ls hl => ?_)
  exact J_2 _ _ _ _ _ _ hf hP hD hS (lv_sub hl [1, 2, 0] rfl)
abbrev rm_Sr_valueOf : Room := { frames := 0, cells := 0, slots := 0, locals := 0 }
set_option maxHeartbeats 4000000 in
set_option maxRecDepth 100000 in
theorem c_Sr_valueOf (l : Launch) (D : va_G) (cK : Nat → ClassId) (sr se srO srV : Nat) (srVf : Nat → Int32) (v1 : Int32) (r : Int32) (hf : f_Sr_valueOf srVf v1 = some r) : RdI l y_Sr_valueOf w_Sr_valueOf rm_Sr_valueOf D zz_cl (mt_ty cK RK2) [.ref sr, .int v1] [(sr, .inr (3, [.ref se, .ref srO, .ref srV])), (srV, .inl (cK 0, 4, .inl srVf))] r := by
  refine mk_RdI (cc := b_Sr_valueOf) (maxL := 3) (ty := .int) (by decide +kernel) rfl (Nat.le_of_ble_eq_true rfl) ?_
  intro p e s m below meth c args Q ls hx hb hml hown hts hK hP hret hl
  have hl : lv_has ls 3 [(0, .ref sr), (1, .int v1)] := hl
  unfold f_Sr_valueOf at hf
  refine lv_iconst (v := (-1)) hx hb d_Sr_valueOf_0 (by decide) ?_
  refine lv_iload_n hx hb d_Sr_valueOf_1 rfl (lv_at hl 1 rfl) ?_
  refine lv_isub hx hb d_Sr_valueOf_2 ?_
  refine lv_istore_n (lv' := [(2, .int ((-1) - v1)), (0, .ref sr), (1, .int v1)]) hx hb d_Sr_valueOf_3 rfl hl (by decide) rfl (fun ls hl => ?_)
  refine lv_iload_n hx hb d_Sr_valueOf_4 rfl (lv_at hl 0 rfl) ?_
  refine lv_if_lt (tgt := 22) hx hb d_Sr_valueOf_5 (by decide) (fun hc => ?_) (fun hc => ?_)
  · have hf := fn_t hc hf
    refine lv_iload_n hx hb d_Sr_valueOf_22 rfl (lv_at hl 2 rfl) ?_
    cases hf
    exact hret 23 _ rfl d_Sr_valueOf_23
  · have hf := fn_f hc hf
    refine lv_iload_n hx hb d_Sr_valueOf_8 rfl (lv_at hl 0 rfl) ?_
    refine lv_iconst (v := 4) hx hb d_Sr_valueOf_9 (by decide) ?_
    refine lv_icmp_ge (tgt := 22) hx hb d_Sr_valueOf_10 (by decide) (fun hc => ?_) (fun hc => ?_)
    · have hf := fn_t hc hf
      refine lv_iload_n hx hb d_Sr_valueOf_22 rfl (lv_at hl 2 rfl) ?_
      cases hf
      exact hret 23 _ rfl d_Sr_valueOf_23
    · have hf := fn_f hc hf
      refine lv_aload_n hx hb d_Sr_valueOf_13 rfl (lv_at hl 1 rfl) ?_
      refine va_get (D := D) (ci := 3) (v := .ref srV) (C := RK3) (T := TK3) (N := 3) hx hb hts iwK3 hown hK hP 0 rfl rfl 2 (by decide) (hts _ fl_Sr_15) (fun _ h9 => h9) rfl d_Sr_valueOf_14 ?_
      refine lv_iload_n hx hb d_Sr_valueOf_17 rfl (lv_at hl 0 rfl) ?_
      have hg := fn_g hf
      have hf := fn_t hg hf
      refine va_iald hx hb hK hP 1 0 rfl rfl (fn_v hg) d_Sr_valueOf_18 ?_
      refine lv_goto (tgt := 23) hx hb d_Sr_valueOf_19 (by decide) ?_
      cases hf
      exact hret 23 _ rfl d_Sr_valueOf_23
abbrev rm_Sr_allowed : Room := { frames := 0, cells := 0, slots := 0, locals := 0 }
set_option maxHeartbeats 4000000 in
set_option maxRecDepth 100000 in
theorem c_Sr_allowed (l : Launch) (D : va_G) (cK : Nat → ClassId) (sr se srO srV : Nat) (srOf : Nat → Int32) (v1 : Int32) (r : Int32) (hf : f_Sr_allowed srOf v1 = some r) : RdI l y_Sr_allowed w_Sr_allowed rm_Sr_allowed D zz_cl (mt_ty cK RK2) [.ref sr, .int v1] [(sr, .inr (3, [.ref se, .ref srO, .ref srV])), (srO, .inl (cK 0, 4, .inl srOf))] r := by
  refine mk_RdI (cc := b_Sr_allowed) (maxL := 3) (ty := .int) (by decide +kernel) rfl (Nat.le_of_ble_eq_true rfl) ?_
  intro p e s m below meth c args Q ls hx hb hml hown hts hK hP hret hl
  have hl : lv_has ls 3 [(0, .ref sr), (1, .int v1)] := hl
  unfold f_Sr_allowed at hf
  refine lv_iconst (v := (-1)) hx hb d_Sr_allowed_0 (by decide) ?_
  refine lv_iload_n hx hb d_Sr_allowed_1 rfl (lv_at hl 1 rfl) ?_
  refine lv_isub hx hb d_Sr_allowed_2 ?_
  refine lv_istore_n (lv' := [(2, .int ((-1) - v1)), (0, .ref sr), (1, .int v1)]) hx hb d_Sr_allowed_3 rfl hl (by decide) rfl (fun ls hl => ?_)
  refine lv_iload_n hx hb d_Sr_allowed_4 rfl (lv_at hl 0 rfl) ?_
  refine lv_if_lt (tgt := 22) hx hb d_Sr_allowed_5 (by decide) (fun hc => ?_) (fun hc => ?_)
  · have hf := fn_t hc hf
    refine lv_iconst (v := 1) hx hb d_Sr_allowed_22 (by decide) ?_
    refine lv_iload_n hx hb d_Sr_allowed_23 rfl (lv_at hl 2 rfl) ?_
    refine lv_ishl hx hb d_Sr_allowed_24 ?_
    cases hf
    exact hret 25 _ rfl d_Sr_allowed_25
  · have hf := fn_f hc hf
    refine lv_iload_n hx hb d_Sr_allowed_8 rfl (lv_at hl 0 rfl) ?_
    refine lv_iconst (v := 4) hx hb d_Sr_allowed_9 (by decide) ?_
    refine lv_icmp_ge (tgt := 22) hx hb d_Sr_allowed_10 (by decide) (fun hc => ?_) (fun hc => ?_)
    · have hf := fn_t hc hf
      refine lv_iconst (v := 1) hx hb d_Sr_allowed_22 (by decide) ?_
      refine lv_iload_n hx hb d_Sr_allowed_23 rfl (lv_at hl 2 rfl) ?_
      refine lv_ishl hx hb d_Sr_allowed_24 ?_
      cases hf
      exact hret 25 _ rfl d_Sr_allowed_25
    · have hf := fn_f hc hf
      refine lv_aload_n hx hb d_Sr_allowed_13 rfl (lv_at hl 1 rfl) ?_
      refine va_get (D := D) (ci := 3) (v := .ref srO) (C := RK3) (T := TK3) (N := 3) hx hb hts iwK3 hown hK hP 0 rfl rfl 1 (by decide) (hts _ fl_Sr_9) (fun _ h9 => h9) rfl d_Sr_allowed_14 ?_
      refine lv_iload_n hx hb d_Sr_allowed_17 rfl (lv_at hl 0 rfl) ?_
      have hg := fn_g hf
      have hf := fn_t hg hf
      refine va_iald hx hb hK hP 1 0 rfl rfl (fn_v hg) d_Sr_allowed_18 ?_
      refine lv_goto (tgt := 25) hx hb d_Sr_allowed_19 (by decide) ?_
      cases hf
      exact hret 25 _ rfl d_Sr_allowed_25
abbrev rm_Sr_keep : Room := { frames := 1, cells := 0, slots := 0, locals := 22 }
set_option maxHeartbeats 4000000 in
set_option maxRecDepth 100000 in
theorem c_Sr_keep (l : Launch) (D : va_G) (cK : Nat → ClassId) (sr se srO srV : Nat) (srOf : Nat → Int32) (v1 : Int32) (v2 : Int32) (r : Int32) (o_srOf : Nat → Int32) (hf : f_Sr_keep srOf v1 v2 = some (r, o_srOf)) : WrI l y_Sr_keep w_Sr_keep rm_Sr_keep D zz_cl (mt_ty cK RK2) [.ref sr, .int v1, .int v2] [(sr, .inr (3, [.ref se, .ref srO, .ref srV])), (srO, .inl (cK 0, 4, .inl srOf))] [(sr, .inr (3, [.ref se, .ref srO, .ref srV])), (srO, .inl (cK 0, 4, .inl o_srOf))] r := by
  refine mk_WrI (cc := b_Sr_keep) (maxL := 4) (ty := .boolean) (by decide +kernel) rfl (Nat.le_of_ble_eq_true rfl) ?_
  intro p e s m below meth c args Q A ls hx hb hml hown hts hA hK hP hD hret hl
  have hS : va_S A s.heap s.heap [] := va_S.rf
  have hl : lv_has ls 4 [(0, .ref sr), (1, .int v1), (2, .int v2)] := hl
  unfold f_Sr_keep at hf
  refine lv_iconst (v := (-1)) hx hb d_Sr_keep_0 (by decide) ?_
  refine lv_iload_n hx hb d_Sr_keep_1 rfl (lv_at hl 1 rfl) ?_
  refine lv_isub hx hb d_Sr_keep_2 ?_
  refine lv_istore_n (lv' := [(3, .int ((-1) - v1)), (0, .ref sr), (1, .int v1), (2, .int v2)]) hx hb d_Sr_keep_3 rfl hl (by decide) rfl (fun ls hl => ?_)
  refine lv_iload_n hx hb d_Sr_keep_4 rfl (lv_at hl 0 rfl) ?_
  refine lv_if_lt (tgt := 23) hx hb d_Sr_keep_5 (by decide) (fun hc => ?_) (fun hc => ?_)
  · have hf := fn_t hc hf
    refine lv_aload_n hx hb d_Sr_keep_23 rfl (lv_at hl 1 rfl) ?_
    refine lv_iload_n hx hb d_Sr_keep_24 rfl (lv_at hl 2 rfl) ?_
    obtain ⟨r_25, hcl, hf⟩ := fn_e1 hf
    refine cv_RdI (rest := []) ⟨hx, hb, hml, hown, hts⟩ (c_Sr_allowed l D cK sr se srO srV srOf v1 r_25 hcl) (cwV 1 hts (zz_V ml_Sr_49 im_Sr_allowed se_Sr_allowed in_Sr co_Sr_allowed) rfl rfl rfl ⟨rfl, hd_Sr_allowed⟩ ⟨Nat.le_of_ble_eq_true rfl, Nat.le_of_ble_eq_true rfl⟩) hK hP [0, 1] rfl 0 rfl rfl rfl rfl hl.1 rfl (Nat.le_of_ble_eq_true rfl) d_Sr_keep_25 ⟨Nat.zero_le _, Nat.zero_le _⟩ ?_
    refine lv_iload_n hx hb d_Sr_keep_28 rfl (lv_at hl 3 rfl) ?_
    refine lv_iand hx hb d_Sr_keep_29 ?_
    refine lv_if_eq (tgt := 37) hx hb d_Sr_keep_30 (by decide) (fun hc => ?_) (fun hc => ?_)
    · have hf := fn_t hc hf
      refine lv_iconst (v := 0) hx hb d_Sr_keep_37 (by decide) ?_
      cases hf
      exact hret _ _ 38 _ hP hD hS rfl d_Sr_keep_38
    · have hf := fn_f hc hf
      refine lv_iconst (v := 1) hx hb d_Sr_keep_33 (by decide) ?_
      refine lv_goto (tgt := 38) hx hb d_Sr_keep_34 (by decide) ?_
      cases hf
      exact hret _ _ 38 _ hP hD hS rfl d_Sr_keep_38
  · have hf := fn_f hc hf
    refine lv_iload_n hx hb d_Sr_keep_8 rfl (lv_at hl 0 rfl) ?_
    refine lv_iconst (v := 4) hx hb d_Sr_keep_9 (by decide) ?_
    refine lv_icmp_ge (tgt := 23) hx hb d_Sr_keep_10 (by decide) (fun hc => ?_) (fun hc => ?_)
    · have hf := fn_t hc hf
      refine lv_aload_n hx hb d_Sr_keep_23 rfl (lv_at hl 1 rfl) ?_
      refine lv_iload_n hx hb d_Sr_keep_24 rfl (lv_at hl 2 rfl) ?_
      obtain ⟨r_25, hcl, hf⟩ := fn_e1 hf
      refine cv_RdI (rest := []) ⟨hx, hb, hml, hown, hts⟩ (c_Sr_allowed l D cK sr se srO srV srOf v1 r_25 hcl) (cwV 1 hts (zz_V ml_Sr_49 im_Sr_allowed se_Sr_allowed in_Sr co_Sr_allowed) rfl rfl rfl ⟨rfl, hd_Sr_allowed⟩ ⟨Nat.le_of_ble_eq_true rfl, Nat.le_of_ble_eq_true rfl⟩) hK hP [0, 1] rfl 0 rfl rfl rfl rfl hl.1 rfl (Nat.le_of_ble_eq_true rfl) d_Sr_keep_25 ⟨Nat.zero_le _, Nat.zero_le _⟩ ?_
      refine lv_iload_n hx hb d_Sr_keep_28 rfl (lv_at hl 3 rfl) ?_
      refine lv_iand hx hb d_Sr_keep_29 ?_
      refine lv_if_eq (tgt := 37) hx hb d_Sr_keep_30 (by decide) (fun hc => ?_) (fun hc => ?_)
      · have hf := fn_t hc hf
        refine lv_iconst (v := 0) hx hb d_Sr_keep_37 (by decide) ?_
        cases hf
        exact hret _ _ 38 _ hP hD hS rfl d_Sr_keep_38
      · have hf := fn_f hc hf
        refine lv_iconst (v := 1) hx hb d_Sr_keep_33 (by decide) ?_
        refine lv_goto (tgt := 38) hx hb d_Sr_keep_34 (by decide) ?_
        cases hf
        exact hret _ _ 38 _ hP hD hS rfl d_Sr_keep_38
    · have hf := fn_f hc hf
      refine lv_aload_n hx hb d_Sr_keep_13 rfl (lv_at hl 1 rfl) ?_
      refine va_get (D := D) (ci := 3) (v := .ref srO) (C := RK3) (T := TK3) (N := 3) hx hb hts iwK3 hown hK hP 0 rfl rfl 1 (by decide) (hts _ fl_Sr_9) (fun _ h9 => h9) rfl d_Sr_keep_14 ?_
      refine lv_iload_n hx hb d_Sr_keep_17 rfl (lv_at hl 0 rfl) ?_
      refine lv_dup2_11 hx hb d_Sr_keep_18 rfl rfl ?_
      have hg := fn_g hf
      have hf := fn_t hg hf
      refine va_iald hx hb hK hP 1 0 rfl rfl (fn_v hg) d_Sr_keep_19 ?_
      refine lv_iload_n hx hb d_Sr_keep_20 rfl (lv_at hl 3 rfl) ?_
      refine lv_iand hx hb d_Sr_keep_21 ?_
      have hg := fn_g hf
      have hf := fn_t hg hf
      refine va_iast hx hb hK hP hD hS 1 0 rfl rfl (fn_v hg) d_Sr_keep_22 (fun H locs hP hD hS => ?_)
      have hP : va_P D zz_cl [(sr, .inr (3, [.ref se, .ref srO, .ref srV])), (srO, .inl (cK 0, 4, .inl (upd srOf (Int32.toNatClampNeg ((-1) - v1)) ((srOf (Int32.toNatClampNeg ((-1) - v1))) &&& v2))))] H := hP
      have hD : va_D A [(sr, .inr (3, [.ref se, .ref srO, .ref srV])), (srO, .inl (cK 0, 4, .inl (upd srOf (Int32.toNatClampNeg ((-1) - v1)) ((srOf (Int32.toNatClampNeg ((-1) - v1))) &&& v2))))] := hD
      refine lv_aload_n hx hb d_Sr_keep_23 rfl (lv_at hl 1 rfl) ?_
      refine lv_iload_n hx hb d_Sr_keep_24 rfl (lv_at hl 2 rfl) ?_
      obtain ⟨r_25, hcl, hf⟩ := fn_e1 hf
      refine cv_RdI (rest := []) ⟨hx, hb, hml, hown, hts⟩ (c_Sr_allowed l D cK sr se srO srV (upd srOf (Int32.toNatClampNeg ((-1) - v1)) ((srOf (Int32.toNatClampNeg ((-1) - v1))) &&& v2)) v1 r_25 hcl) (cwV 1 hts (zz_V ml_Sr_49 im_Sr_allowed se_Sr_allowed in_Sr co_Sr_allowed) rfl rfl rfl ⟨rfl, hd_Sr_allowed⟩ ⟨Nat.le_of_ble_eq_true rfl, Nat.le_of_ble_eq_true rfl⟩) hK hP [0, 1] rfl 0 rfl rfl rfl rfl hl.1 rfl (Nat.le_of_ble_eq_true rfl) d_Sr_keep_25 ⟨Nat.zero_le _, Nat.zero_le _⟩ ?_
      refine lv_iload_n hx hb d_Sr_keep_28 rfl (lv_at hl 3 rfl) ?_
      refine lv_iand hx hb d_Sr_keep_29 ?_
      refine lv_if_eq (tgt := 37) hx hb d_Sr_keep_30 (by decide) (fun hc => ?_) (fun hc => ?_)
      · have hf := fn_t hc hf
        refine lv_iconst (v := 0) hx hb d_Sr_keep_37 (by decide) ?_
        cases hf
        exact hret _ _ 38 _ hP hD hS rfl d_Sr_keep_38
      · have hf := fn_f hc hf
        refine lv_iconst (v := 1) hx hb d_Sr_keep_33 (by decide) ?_
        refine lv_goto (tgt := 38) hx hb d_Sr_keep_34 (by decide) ?_
        cases hf
        exact hret _ _ 38 _ hP hD hS rfl d_Sr_keep_38
abbrev rm_Sr_bind : Room := { frames := 2, cells := 0, slots := 0, locals := 45 }
set_option maxHeartbeats 4000000 in
set_option maxRecDepth 100000 in
theorem c_Sr_bind (l : Launch) (D : va_G) (cK : Nat → ClassId) (sr se srO srV q qI qL : Nat) (srOf : Nat → Int32) (qW : Int32) (qP : Int32) (qV : Int32) (qIf : Nat → Int32) (v2 : Int32) (v3 : Int32) (r : Int32) (o_srOf : Nat → Int32) (hf : f_Sr_bind srOf qIf v2 v3 = some (r, o_srOf)) : WrI l y_Sr_bind w_Sr_bind rm_Sr_bind D zz_cl (mt_ty cK RK2) [.ref sr, .ref q, .int v2, .int v3] [(sr, .inr (3, [.ref se, .ref srO, .ref srV])), (srO, .inl (cK 0, 4, .inl srOf)), (q, .inr (2, [.ref qI, .ref qL, .int qW, .int qP, .int qV])), (qI, .inl (cK 0, 9, .inl qIf))] [(sr, .inr (3, [.ref se, .ref srO, .ref srV])), (srO, .inl (cK 0, 4, .inl o_srOf)), (q, .inr (2, [.ref qI, .ref qL, .int qW, .int qP, .int qV])), (qI, .inl (cK 0, 9, .inl qIf))] r := by
  refine mk_WrI (cc := b_Sr_bind) (maxL := 7) (ty := .boolean) (by decide +kernel) rfl (Nat.le_of_ble_eq_true rfl) ?_
  intro p e s m below meth c args Q A ls hx hb hml hown hts hA hK hP hD hret hl
  have hS : va_S A s.heap s.heap [] := va_S.rf
  have hl : lv_has ls 7 [(0, .ref sr), (1, .ref q), (2, .int v2), (3, .int v3)] := hl
  unfold f_Sr_bind at hf
  refine lv_iload_n hx hb d_Sr_bind_0 rfl (lv_at hl 3 rfl) ?_
  refine lv_bipush (v := 16) hx hb d_Sr_bind_1 (by decide) ?_
  refine lv_idiv hx hb d_Sr_bind_3 (by decide) ?_
  refine lv_bipush (v := 8) hx hb d_Sr_bind_4 (by decide) ?_
  refine lv_idiv hx hb d_Sr_bind_6 (by decide) ?_
  refine lv_istore (lv' := [(4, .int ((v3 / 16) / 8)), (0, .ref sr), (1, .ref q), (2, .int v2), (3, .int v3)]) hx hb d_Sr_bind_7 hl (by decide) rfl (fun ls hl => ?_)
  refine lv_iload_n hx hb d_Sr_bind_9 rfl (lv_at hl 4 rfl) ?_
  refine lv_bipush (v := 16) hx hb d_Sr_bind_10 (by decide) ?_
  refine lv_idiv hx hb d_Sr_bind_12 (by decide) ?_
  refine lv_bipush (v := 8) hx hb d_Sr_bind_13 (by decide) ?_
  refine lv_irem hx hb d_Sr_bind_15 (by decide) ?_
  refine lv_istore (lv' := [(5, .int ((v3 / 16) - (v3 / 16) / 8 * 8)), (4, .int ((v3 / 16) / 8)), (0, .ref sr), (1, .ref q), (2, .int v2), (3, .int v3)]) hx hb d_Sr_bind_16 hl (by decide) rfl (fun ls hl => ?_)
  refine lv_iload_n hx hb d_Sr_bind_18 rfl (lv_at hl 5 rfl) ?_
  refine lv_bipush (v := 16) hx hb d_Sr_bind_19 (by decide) ?_
  refine lv_irem hx hb d_Sr_bind_21 (by decide) ?_
  refine lv_istore (lv' := [(6, .int (v3 - v3 / 16 * 16)), (5, .int ((v3 / 16) - (v3 / 16) / 8 * 8)), (4, .int ((v3 / 16) / 8)), (0, .ref sr), (1, .ref q), (2, .int v2), (3, .int v3)]) hx hb d_Sr_bind_22 hl (by decide) rfl (fun ls hl => ?_)
  refine lv_aload_n hx hb d_Sr_bind_24 rfl (lv_at hl 3 rfl) ?_
  refine lv_aload_n hx hb d_Sr_bind_25 rfl (lv_at hl 4 rfl) ?_
  refine lv_iload_n hx hb d_Sr_bind_26 rfl (lv_at hl 5 rfl) ?_
  refine lv_iconst (v := 0) hx hb d_Sr_bind_27 (by decide) ?_
  obtain ⟨r_28, hcl, hf⟩ := fn_e1 hf
  refine cv_RdI (rest := [.ref sr]) ⟨hx, hb, hml, hown, hts⟩ (c_Qu_itemAt l D cK q qI qL qW qP qV qIf v2 0 r_28 hcl) (cwV 2 hts (zz_V ml_Sr_29 im_Qu_itemAt se_Qu_itemAt in_Qu co_Qu_itemAt) rfl rfl rfl ⟨rfl, hd_Qu_itemAt⟩ ⟨Nat.le_of_ble_eq_true rfl, Nat.le_of_ble_eq_true rfl⟩) hK hP [2, 3] rfl 2 rfl rfl rfl rfl hl.1 rfl (Nat.le_of_ble_eq_true rfl) d_Sr_bind_28 ⟨Nat.zero_le _, Nat.zero_le _⟩ ?_
  refine lv_iconst (v := 1) hx hb d_Sr_bind_31 (by decide) ?_
  refine lv_iload hx hb d_Sr_bind_32 (lv_at hl 2 rfl) ?_
  refine lv_ishl hx hb d_Sr_bind_34 ?_
  obtain ⟨r_35, srOf_35, hcl, hf⟩ := fn_e2 hf
  refine cv_WrI (rest := []) (wr := [(q, .inr (2, [.ref qI, .ref qL, .int qW, .int qP, .int qV])), (qI, .inl (cK 0, 9, .inl qIf))]) (w' := [(sr, .inr (3, [.ref se, .ref srO, .ref srV])), (srO, .inl (cK 0, 4, .inl srOf_35)), (q, .inr (2, [.ref qI, .ref qL, .int qW, .int qP, .int qV])), (qI, .inl (cK 0, 9, .inl qIf))]) ⟨hx, hb, hml, hown, hts⟩ (c_Sr_keep l D cK sr se srO srV srOf r_28 ((1 : Int32) <<< (((v3 / 16) / 8) &&& 31)) r_35 srOf_35 hcl) (cwV 2 hts (zz_V ml_Sr_33 im_Sr_keep se_Sr_keep in_Sr co_Sr_keep) rfl rfl rfl ⟨rfl, hd_Sr_keep⟩ ⟨Nat.le_of_ble_eq_true rfl, Nat.le_of_ble_eq_true rfl⟩) hK hP hD hS hA [0, 1] [2, 3] [2, 3, 0, 1] rfl (by decide) rfl (by decide) (by decide) rfl (by decide) 0 rfl rfl rfl rfl hl.1 rfl (Nat.le_of_ble_eq_true rfl) d_Sr_bind_35 ⟨Nat.zero_le _, Nat.zero_le _⟩ (fun H locs hP hD hS => ?_)
  refine lv_if_eq (tgt := 79) hx hb d_Sr_bind_38 (by decide) (fun hc => ?_) (fun hc => ?_)
  · have hf := fn_t hc hf
    refine lv_iconst (v := 0) hx hb d_Sr_bind_79 (by decide) ?_
    cases hf
    exact hret _ _ 80 _ hP hD hS rfl d_Sr_bind_80
  · have hf := fn_f hc hf
    refine lv_aload_n hx hb d_Sr_bind_41 rfl (lv_at hl 3 rfl) ?_
    refine lv_aload_n hx hb d_Sr_bind_42 rfl (lv_at hl 4 rfl) ?_
    refine lv_iload_n hx hb d_Sr_bind_43 rfl (lv_at hl 5 rfl) ?_
    refine lv_iconst (v := 1) hx hb d_Sr_bind_44 (by decide) ?_
    obtain ⟨r_45, hcl, hf⟩ := fn_e1 hf
    refine cv_RdI (rest := [.ref sr]) ⟨hx, hb, hml, hown, hts⟩ (c_Qu_itemAt l D cK q qI qL qW qP qV qIf v2 1 r_45 hcl) (cwV 2 hts (zz_V ml_Sr_29 im_Qu_itemAt se_Qu_itemAt in_Qu co_Qu_itemAt) rfl rfl rfl ⟨rfl, hd_Qu_itemAt⟩ ⟨Nat.le_of_ble_eq_true rfl, Nat.le_of_ble_eq_true rfl⟩) hK hP [2, 3] rfl 2 rfl rfl rfl rfl hl.1 rfl (Nat.le_of_ble_eq_true rfl) d_Sr_bind_45 ⟨Nat.zero_le _, Nat.zero_le _⟩ ?_
    refine lv_iconst (v := 1) hx hb d_Sr_bind_48 (by decide) ?_
    refine lv_iload hx hb d_Sr_bind_49 (lv_at hl 1 rfl) ?_
    refine lv_ishl hx hb d_Sr_bind_51 ?_
    obtain ⟨r_52, srOf_52, hcl, hf⟩ := fn_e2 hf
    refine cv_WrI (rest := []) (wr := [(q, .inr (2, [.ref qI, .ref qL, .int qW, .int qP, .int qV])), (qI, .inl (cK 0, 9, .inl qIf))]) (w' := [(sr, .inr (3, [.ref se, .ref srO, .ref srV])), (srO, .inl (cK 0, 4, .inl srOf_52)), (q, .inr (2, [.ref qI, .ref qL, .int qW, .int qP, .int qV])), (qI, .inl (cK 0, 9, .inl qIf))]) ⟨hx, hb, hml, hown, hts⟩ (c_Sr_keep l D cK sr se srO srV srOf_35 r_45 ((1 : Int32) <<< (((v3 / 16) - (v3 / 16) / 8 * 8) &&& 31)) r_52 srOf_52 hcl) (cwV 2 hts (zz_V ml_Sr_33 im_Sr_keep se_Sr_keep in_Sr co_Sr_keep) rfl rfl rfl ⟨rfl, hd_Sr_keep⟩ ⟨Nat.le_of_ble_eq_true rfl, Nat.le_of_ble_eq_true rfl⟩) hK hP hD hS hA [0, 1] [2, 3] [2, 3, 0, 1] rfl (by decide) rfl (by decide) (by decide) rfl (by decide) 0 rfl rfl rfl rfl hl.1 rfl (Nat.le_of_ble_eq_true rfl) d_Sr_bind_52 ⟨Nat.zero_le _, Nat.zero_le _⟩ (fun H locs hP hD hS => ?_)
    refine lv_if_eq (tgt := 79) hx hb d_Sr_bind_55 (by decide) (fun hc => ?_) (fun hc => ?_)
    · have hf := fn_t hc hf
      refine lv_iconst (v := 0) hx hb d_Sr_bind_79 (by decide) ?_
      cases hf
      exact hret _ _ 80 _ hP hD hS rfl d_Sr_bind_80
    · have hf := fn_f hc hf
      refine lv_aload_n hx hb d_Sr_bind_58 rfl (lv_at hl 3 rfl) ?_
      refine lv_aload_n hx hb d_Sr_bind_59 rfl (lv_at hl 4 rfl) ?_
      refine lv_iload_n hx hb d_Sr_bind_60 rfl (lv_at hl 5 rfl) ?_
      refine lv_iconst (v := 2) hx hb d_Sr_bind_61 (by decide) ?_
      obtain ⟨r_62, hcl, hf⟩ := fn_e1 hf
      refine cv_RdI (rest := [.ref sr]) ⟨hx, hb, hml, hown, hts⟩ (c_Qu_itemAt l D cK q qI qL qW qP qV qIf v2 2 r_62 hcl) (cwV 2 hts (zz_V ml_Sr_29 im_Qu_itemAt se_Qu_itemAt in_Qu co_Qu_itemAt) rfl rfl rfl ⟨rfl, hd_Qu_itemAt⟩ ⟨Nat.le_of_ble_eq_true rfl, Nat.le_of_ble_eq_true rfl⟩) hK hP [2, 3] rfl 2 rfl rfl rfl rfl hl.1 rfl (Nat.le_of_ble_eq_true rfl) d_Sr_bind_62 ⟨Nat.zero_le _, Nat.zero_le _⟩ ?_
      refine lv_iconst (v := 1) hx hb d_Sr_bind_65 (by decide) ?_
      refine lv_iload hx hb d_Sr_bind_66 (lv_at hl 0 rfl) ?_
      refine lv_ishl hx hb d_Sr_bind_68 ?_
      obtain ⟨r_69, srOf_69, hcl, hf⟩ := fn_e2 hf
      refine cv_WrI (rest := []) (wr := [(q, .inr (2, [.ref qI, .ref qL, .int qW, .int qP, .int qV])), (qI, .inl (cK 0, 9, .inl qIf))]) (w' := [(sr, .inr (3, [.ref se, .ref srO, .ref srV])), (srO, .inl (cK 0, 4, .inl srOf_69)), (q, .inr (2, [.ref qI, .ref qL, .int qW, .int qP, .int qV])), (qI, .inl (cK 0, 9, .inl qIf))]) ⟨hx, hb, hml, hown, hts⟩ (c_Sr_keep l D cK sr se srO srV srOf_52 r_62 ((1 : Int32) <<< ((v3 - v3 / 16 * 16) &&& 31)) r_69 srOf_69 hcl) (cwV 2 hts (zz_V ml_Sr_33 im_Sr_keep se_Sr_keep in_Sr co_Sr_keep) rfl rfl rfl ⟨rfl, hd_Sr_keep⟩ ⟨Nat.le_of_ble_eq_true rfl, Nat.le_of_ble_eq_true rfl⟩) hK hP hD hS hA [0, 1] [2, 3] [2, 3, 0, 1] rfl (by decide) rfl (by decide) (by decide) rfl (by decide) 0 rfl rfl rfl rfl hl.1 rfl (Nat.le_of_ble_eq_true rfl) d_Sr_bind_69 ⟨Nat.zero_le _, Nat.zero_le _⟩ (fun H locs hP hD hS => ?_)
      refine lv_if_eq (tgt := 79) hx hb d_Sr_bind_72 (by decide) (fun hc => ?_) (fun hc => ?_)
      · have hf := fn_t hc hf
        refine lv_iconst (v := 0) hx hb d_Sr_bind_79 (by decide) ?_
        cases hf
        exact hret _ _ 80 _ hP hD hS rfl d_Sr_bind_80
      · have hf := fn_f hc hf
        refine lv_iconst (v := 1) hx hb d_Sr_bind_75 (by decide) ?_
        refine lv_goto (tgt := 80) hx hb d_Sr_bind_76 (by decide) ?_
        cases hf
        exact hret _ _ 80 _ hP hD hS rfl d_Sr_bind_80
abbrev rm_Sr_narrow : Room := { frames := 2, cells := 0, slots := 0, locals := 45 }
set_option maxHeartbeats 4000000 in
set_option maxRecDepth 100000 in
theorem c_Sr_narrow (l : Launch) (D : va_G) (cK : Nat → ClassId) (se seO sr srO srV : Nat) (seOf : Nat → Int32) (srOf : Nat → Int32) (N : Nat) (v1 : Int32) (v2 : Int32) (v3 : Int32) (r : Int32) (o_srOf : Nat → Int32) (hf : f_Sr_narrow N seOf srOf v1 v2 v3 = some (r, o_srOf)) : WrI l y_Sr_narrow w_Sr_narrow rm_Sr_narrow D zz_cl (mt_ty cK RK2) [.ref sr, .int v1, .int v2, .int v3] [(se, .inr (1, [.ref seO])), (seO, .inl (cK 0, 128, .inl seOf)), (sr, .inr (3, [.ref se, .ref srO, .ref srV])), (srO, .inl (cK 0, 4, .inl srOf))] [(se, .inr (1, [.ref seO])), (seO, .inl (cK 0, 128, .inl seOf)), (sr, .inr (3, [.ref se, .ref srO, .ref srV])), (srO, .inl (cK 0, 4, .inl o_srOf))] r := by
  refine mk_WrI (cc := b_Sr_narrow) (maxL := 13) (ty := .boolean) (by decide +kernel) rfl (Nat.le_of_ble_eq_true rfl) ?_
  intro p e s m below meth c args Q A ls hx hb hml hown hts hA hK hP hD hret hl
  have hS : va_S A s.heap s.heap [] := va_S.rf
  have hl : lv_has ls 13 [(0, .ref sr), (1, .int v1), (2, .int v2), (3, .int v3)] := hl
  have J_135 : ∀ (srOf : Nat → Int32) (v1 : Int32) (v2 : Int32) (v3 : Int32) (v7 : Int32) (v8 : Int32) (v9 : Int32) (H : Heap) (locs : List Loc) (ls : Array Slot), f_Sr_narrow_135 N seOf srOf v1 v2 v3 v7 v8 v9 = some (r, o_srOf) → va_P D zz_cl [(se, .inr (1, [.ref seO])), (seO, .inl (cK 0, 128, .inl seOf)), (sr, .inr (3, [.ref se, .ref srO, .ref srV])), (srO, .inl (cK 0, 4, .inl srOf))] H → va_D A [(se, .inr (1, [.ref seO])), (seO, .inl (cK 0, 128, .inl seOf)), (sr, .inr (3, [.ref se, .ref srO, .ref srV])), (srO, .inl (cK 0, 4, .inl srOf))] → va_S A s.heap H locs → lv_has ls 13 [(0, .ref sr), (1, .int v1), (2, .int v2), (3, .int v3), (7, .int v7), (8, .int v8), (9, .int v9)] → W p l e rm_Sr_narrow s m args below meth c H locs 0 0 Q (F0 m 135 ls []) := by
    intro srOf v1 v2 v3 v7 v8 v9 H locs ls hf hP hD hS hl
    unfold f_Sr_narrow_135 at hf
    refine lv_aload_n hx hb d_Sr_narrow_135 rfl (lv_at hl 0 rfl) ?_
    refine lv_iload_n hx hb d_Sr_narrow_136 rfl (lv_at hl 1 rfl) ?_
    refine lv_iload hx hb d_Sr_narrow_137 (lv_at hl 4 rfl) ?_
    obtain ⟨r_139, srOf_139, hcl, hf⟩ := fn_e2 hf
    refine cv_WrI (rest := []) (wr := [(se, .inr (1, [.ref seO])), (seO, .inl (cK 0, 128, .inl seOf))]) (w' := [(se, .inr (1, [.ref seO])), (seO, .inl (cK 0, 128, .inl seOf)), (sr, .inr (3, [.ref se, .ref srO, .ref srV])), (srO, .inl (cK 0, 4, .inl srOf_139))]) ⟨hx, hb, hml, hown, hts⟩ (c_Sr_keep l D cK sr se srO srV srOf v1 v7 r_139 srOf_139 hcl) (cwV 2 hts (zz_V ml_Sr_33 im_Sr_keep se_Sr_keep in_Sr co_Sr_keep) rfl rfl rfl ⟨rfl, hd_Sr_keep⟩ ⟨Nat.le_of_ble_eq_true rfl, Nat.le_of_ble_eq_true rfl⟩) hK hP hD hS hA [2, 3] [0, 1] [0, 1, 2, 3] rfl (by decide) rfl (by decide) (by decide) rfl (by decide) 2 rfl rfl rfl rfl hl.1 rfl (Nat.le_of_ble_eq_true rfl) d_Sr_narrow_139 ⟨Nat.zero_le _, Nat.zero_le _⟩ (fun H locs hP hD hS => ?_)
    refine lv_if_eq (tgt := 169) hx hb d_Sr_narrow_142 (by decide) (fun hc => ?_) (fun hc => ?_)
    · have hf := fn_t hc hf
      refine lv_iconst (v := 0) hx hb d_Sr_narrow_169 (by decide) ?_
      cases hf
      exact hret _ _ 170 _ hP hD hS rfl d_Sr_narrow_170
    · have hf := fn_f hc hf
      refine lv_aload_n hx hb d_Sr_narrow_145 rfl (lv_at hl 0 rfl) ?_
      refine lv_iload_n hx hb d_Sr_narrow_146 rfl (lv_at hl 2 rfl) ?_
      refine lv_iload hx hb d_Sr_narrow_147 (lv_at hl 5 rfl) ?_
      obtain ⟨r_149, srOf_149, hcl, hf⟩ := fn_e2 hf
      refine cv_WrI (rest := []) (wr := [(se, .inr (1, [.ref seO])), (seO, .inl (cK 0, 128, .inl seOf))]) (w' := [(se, .inr (1, [.ref seO])), (seO, .inl (cK 0, 128, .inl seOf)), (sr, .inr (3, [.ref se, .ref srO, .ref srV])), (srO, .inl (cK 0, 4, .inl srOf_149))]) ⟨hx, hb, hml, hown, hts⟩ (c_Sr_keep l D cK sr se srO srV srOf_139 v2 v8 r_149 srOf_149 hcl) (cwV 2 hts (zz_V ml_Sr_33 im_Sr_keep se_Sr_keep in_Sr co_Sr_keep) rfl rfl rfl ⟨rfl, hd_Sr_keep⟩ ⟨Nat.le_of_ble_eq_true rfl, Nat.le_of_ble_eq_true rfl⟩) hK hP hD hS hA [2, 3] [0, 1] [0, 1, 2, 3] rfl (by decide) rfl (by decide) (by decide) rfl (by decide) 2 rfl rfl rfl rfl hl.1 rfl (Nat.le_of_ble_eq_true rfl) d_Sr_narrow_149 ⟨Nat.zero_le _, Nat.zero_le _⟩ (fun H locs hP hD hS => ?_)
      refine lv_if_eq (tgt := 169) hx hb d_Sr_narrow_152 (by decide) (fun hc => ?_) (fun hc => ?_)
      · have hf := fn_t hc hf
        refine lv_iconst (v := 0) hx hb d_Sr_narrow_169 (by decide) ?_
        cases hf
        exact hret _ _ 170 _ hP hD hS rfl d_Sr_narrow_170
      · have hf := fn_f hc hf
        refine lv_aload_n hx hb d_Sr_narrow_155 rfl (lv_at hl 0 rfl) ?_
        refine lv_iload_n hx hb d_Sr_narrow_156 rfl (lv_at hl 3 rfl) ?_
        refine lv_iload hx hb d_Sr_narrow_157 (lv_at hl 6 rfl) ?_
        obtain ⟨r_159, srOf_159, hcl, hf⟩ := fn_e2 hf
        refine cv_WrI (rest := []) (wr := [(se, .inr (1, [.ref seO])), (seO, .inl (cK 0, 128, .inl seOf))]) (w' := [(se, .inr (1, [.ref seO])), (seO, .inl (cK 0, 128, .inl seOf)), (sr, .inr (3, [.ref se, .ref srO, .ref srV])), (srO, .inl (cK 0, 4, .inl srOf_159))]) ⟨hx, hb, hml, hown, hts⟩ (c_Sr_keep l D cK sr se srO srV srOf_149 v3 v9 r_159 srOf_159 hcl) (cwV 2 hts (zz_V ml_Sr_33 im_Sr_keep se_Sr_keep in_Sr co_Sr_keep) rfl rfl rfl ⟨rfl, hd_Sr_keep⟩ ⟨Nat.le_of_ble_eq_true rfl, Nat.le_of_ble_eq_true rfl⟩) hK hP hD hS hA [2, 3] [0, 1] [0, 1, 2, 3] rfl (by decide) rfl (by decide) (by decide) rfl (by decide) 2 rfl rfl rfl rfl hl.1 rfl (Nat.le_of_ble_eq_true rfl) d_Sr_narrow_159 ⟨Nat.zero_le _, Nat.zero_le _⟩ (fun H locs hP hD hS => ?_)
        refine lv_if_eq (tgt := 169) hx hb d_Sr_narrow_162 (by decide) (fun hc => ?_) (fun hc => ?_)
        · have hf := fn_t hc hf
          refine lv_iconst (v := 0) hx hb d_Sr_narrow_169 (by decide) ?_
          cases hf
          exact hret _ _ 170 _ hP hD hS rfl d_Sr_narrow_170
        · have hf := fn_f hc hf
          refine lv_iconst (v := 1) hx hb d_Sr_narrow_165 (by decide) ?_
          refine lv_goto (tgt := 170) hx hb d_Sr_narrow_166 (by decide) ?_
          cases hf
          exact hret _ _ 170 _ hP hD hS rfl d_Sr_narrow_170
  have J_33 : ∀ (v1 : Int32) (v2 : Int32) (v3 : Int32) (v4 : Int32) (v5 : Int32) (v6 : Int32) (n_33 : Nat) (srOf : Nat → Int32) (v7 : Int32) (v8 : Int32) (v9 : Int32) (v10 : Int32) (H : Heap) (locs : List Loc) (ls : Array Slot), f_Sr_narrow_33 N seOf v1 v2 v3 v4 v5 v6 n_33 srOf v7 v8 v9 v10 = some (r, o_srOf) → va_P D zz_cl [(se, .inr (1, [.ref seO])), (seO, .inl (cK 0, 128, .inl seOf)), (sr, .inr (3, [.ref se, .ref srO, .ref srV])), (srO, .inl (cK 0, 4, .inl srOf))] H → va_D A [(se, .inr (1, [.ref seO])), (seO, .inl (cK 0, 128, .inl seOf)), (sr, .inr (3, [.ref se, .ref srO, .ref srV])), (srO, .inl (cK 0, 4, .inl srOf))] → va_S A s.heap H locs → lv_has ls 13 [(0, .ref sr), (1, .int v1), (2, .int v2), (3, .int v3), (4, .int v4), (5, .int v5), (6, .int v6), (7, .int v7), (8, .int v8), (9, .int v9), (10, .int v10)] → W p l e rm_Sr_narrow s m args below meth c H locs 0 0 Q (F0 m 33 ls []) := by
    intro v1 v2 v3 v4 v5 v6 n_33
    induction n_33 with
    | zero =>
      intro srOf v7 v8 v9 v10 H locs ls hf hP hD hS hl
      exact fn_0 hf
    | succ n_33 ih_33 =>
      have J_56 : ∀ (v10 : Int32) (n_56 : Nat) (srOf : Nat → Int32) (v7 : Int32) (v8 : Int32) (v9 : Int32) (v11 : Int32) (H : Heap) (locs : List Loc) (ls : Array Slot), f_Sr_narrow_56 N seOf (f_Sr_narrow_33 N seOf v1 v2 v3 v4 v5 v6 n_33) v1 v2 v3 v4 v5 v6 v10 n_56 srOf v7 v8 v9 v11 = some (r, o_srOf) → va_P D zz_cl [(se, .inr (1, [.ref seO])), (seO, .inl (cK 0, 128, .inl seOf)), (sr, .inr (3, [.ref se, .ref srO, .ref srV])), (srO, .inl (cK 0, 4, .inl srOf))] H → va_D A [(se, .inr (1, [.ref seO])), (seO, .inl (cK 0, 128, .inl seOf)), (sr, .inr (3, [.ref se, .ref srO, .ref srV])), (srO, .inl (cK 0, 4, .inl srOf))] → va_S A s.heap H locs → lv_has ls 13 [(0, .ref sr), (1, .int v1), (2, .int v2), (3, .int v3), (4, .int v4), (5, .int v5), (6, .int v6), (7, .int v7), (8, .int v8), (9, .int v9), (10, .int v10), (11, .int v11)] → W p l e rm_Sr_narrow s m args below meth c H locs 0 0 Q (F0 m 56 ls []) := by
        intro v10 n_56
        induction n_56 with
        | zero =>
          intro srOf v7 v8 v9 v11 H locs ls hf hP hD hS hl
          exact fn_0 hf
        | succ n_56 ih_56 =>
          have J_91 : ∀ (srOf : Nat → Int32) (v7 : Int32) (v8 : Int32) (v9 : Int32) (v11 : Int32) (s0 : Int32) (H : Heap) (locs : List Loc) (ls : Array Slot), f_Sr_narrow_91 N seOf (f_Sr_narrow_33 N seOf v1 v2 v3 v4 v5 v6 n_33) (f_Sr_narrow_56 N seOf (f_Sr_narrow_33 N seOf v1 v2 v3 v4 v5 v6 n_33) v1 v2 v3 v4 v5 v6 v10 n_56) srOf v1 v2 v3 v4 v5 v6 v7 v8 v9 v10 v11 s0 = some (r, o_srOf) → va_P D zz_cl [(se, .inr (1, [.ref seO])), (seO, .inl (cK 0, 128, .inl seOf)), (sr, .inr (3, [.ref se, .ref srO, .ref srV])), (srO, .inl (cK 0, 4, .inl srOf))] H → va_D A [(se, .inr (1, [.ref seO])), (seO, .inl (cK 0, 128, .inl seOf)), (sr, .inr (3, [.ref se, .ref srO, .ref srV])), (srO, .inl (cK 0, 4, .inl srOf))] → va_S A s.heap H locs → lv_has ls 13 [(0, .ref sr), (1, .int v1), (2, .int v2), (3, .int v3), (4, .int v4), (5, .int v5), (6, .int v6), (7, .int v7), (8, .int v8), (9, .int v9), (10, .int v10), (11, .int v11)] → W p l e rm_Sr_narrow s m args below meth c H locs 0 0 Q (F0 m 91 ls [.int s0]) := by
            intro srOf v7 v8 v9 v11 s0 H locs ls hf hP hD hS hl
            unfold f_Sr_narrow_91 at hf
            refine lv_istore (lv' := [(12, .int s0), (0, .ref sr), (1, .int v1), (2, .int v2), (3, .int v3), (4, .int v4), (5, .int v5), (6, .int v6), (7, .int v7), (8, .int v8), (9, .int v9), (10, .int v10), (11, .int v11)]) hx hb d_Sr_narrow_91 hl (by decide) rfl (fun ls hl => ?_)
            refine lv_iload hx hb d_Sr_narrow_93 (lv_at hl 0 rfl) ?_
            refine lv_if_eq (tgt := 123) hx hb d_Sr_narrow_95 (by decide) (fun hc => ?_) (fun hc => ?_)
            · have hf := fn_t hc hf
              refine lv_iinc (v := (v11 + 1)) (lv' := [(11, .int (v11 + 1)), (12, .int s0), (0, .ref sr), (1, .int v1), (2, .int v2), (3, .int v3), (4, .int v4), (5, .int v5), (6, .int v6), (7, .int v7), (8, .int v8), (9, .int v9), (10, .int v10)]) hx hb d_Sr_narrow_123 hl (k := 12) rfl rfl (by decide) rfl (fun ls hl => ?_)
              refine lv_goto (tgt := 56) hx hb d_Sr_narrow_126 (by decide) ?_
              exact ih_56 _ _ _ _ _ _ _ _ hf hP hD hS (lv_sub hl [2, 3, 4, 5, 6, 7, 8, 9, 10, 11, 12, 0] rfl)
            · have hf := fn_f hc hf
              refine lv_iload hx hb d_Sr_narrow_98 (lv_at hl 8 rfl) ?_
              refine lv_iconst (v := 1) hx hb d_Sr_narrow_100 (by decide) ?_
              refine lv_iload hx hb d_Sr_narrow_101 (lv_at hl 11 rfl) ?_
              refine lv_ishl hx hb d_Sr_narrow_103 ?_
              refine lv_ior hx hb d_Sr_narrow_104 ?_
              refine lv_istore (lv' := [(7, .int (v7 ||| ((1 : Int32) <<< (v10 &&& 31)))), (12, .int s0), (0, .ref sr), (1, .int v1), (2, .int v2), (3, .int v3), (4, .int v4), (5, .int v5), (6, .int v6), (8, .int v8), (9, .int v9), (10, .int v10), (11, .int v11)]) hx hb d_Sr_narrow_105 hl (by decide) rfl (fun ls hl => ?_)
              refine lv_iload hx hb d_Sr_narrow_107 (lv_at hl 9 rfl) ?_
              refine lv_iconst (v := 1) hx hb d_Sr_narrow_109 (by decide) ?_
              refine lv_iload hx hb d_Sr_narrow_110 (lv_at hl 12 rfl) ?_
              refine lv_ishl hx hb d_Sr_narrow_112 ?_
              refine lv_ior hx hb d_Sr_narrow_113 ?_
              refine lv_istore (lv' := [(8, .int (v8 ||| ((1 : Int32) <<< (v11 &&& 31)))), (7, .int (v7 ||| ((1 : Int32) <<< (v10 &&& 31)))), (12, .int s0), (0, .ref sr), (1, .int v1), (2, .int v2), (3, .int v3), (4, .int v4), (5, .int v5), (6, .int v6), (9, .int v9), (10, .int v10), (11, .int v11)]) hx hb d_Sr_narrow_114 hl (by decide) rfl (fun ls hl => ?_)
              refine lv_iload hx hb d_Sr_narrow_116 (lv_at hl 10 rfl) ?_
              refine lv_iload hx hb d_Sr_narrow_118 (lv_at hl 2 rfl) ?_
              refine lv_ior hx hb d_Sr_narrow_120 ?_
              refine lv_istore (lv' := [(9, .int (v9 ||| s0)), (8, .int (v8 ||| ((1 : Int32) <<< (v11 &&& 31)))), (7, .int (v7 ||| ((1 : Int32) <<< (v10 &&& 31)))), (12, .int s0), (0, .ref sr), (1, .int v1), (2, .int v2), (3, .int v3), (4, .int v4), (5, .int v5), (6, .int v6), (10, .int v10), (11, .int v11)]) hx hb d_Sr_narrow_121 hl (by decide) rfl (fun ls hl => ?_)
              refine lv_iinc (v := (v11 + 1)) (lv' := [(11, .int (v11 + 1)), (9, .int (v9 ||| s0)), (8, .int (v8 ||| ((1 : Int32) <<< (v11 &&& 31)))), (7, .int (v7 ||| ((1 : Int32) <<< (v10 &&& 31)))), (12, .int s0), (0, .ref sr), (1, .int v1), (2, .int v2), (3, .int v3), (4, .int v4), (5, .int v5), (6, .int v6), (10, .int v10)]) hx hb d_Sr_narrow_123 hl (k := 12) rfl rfl (by decide) rfl (fun ls hl => ?_)
              refine lv_goto (tgt := 56) hx hb d_Sr_narrow_126 (by decide) ?_
              exact ih_56 _ _ _ _ _ _ _ _ hf hP hD hS (lv_sub hl [5, 6, 7, 8, 9, 10, 11, 3, 2, 1, 12, 0] rfl)
          intro srOf v7 v8 v9 v11 H locs ls hf hP hD hS hl
          rw [f_Sr_narrow_56.eq_2] at hf
          refine lv_iload hx hb d_Sr_narrow_56 (lv_at hl 11 rfl) ?_
          refine lv_bipush (v := 8) hx hb d_Sr_narrow_58 (by decide) ?_
          refine lv_icmp_ge (tgt := 129) hx hb d_Sr_narrow_60 (by decide) (fun hc => ?_) (fun hc => ?_)
          · have hf := fn_t hc hf
            refine lv_iinc (v := (v10 + 1)) (lv' := [(10, .int (v10 + 1)), (0, .ref sr), (1, .int v1), (2, .int v2), (3, .int v3), (4, .int v4), (5, .int v5), (6, .int v6), (7, .int v7), (8, .int v8), (9, .int v9), (11, .int v11)]) hx hb d_Sr_narrow_129 hl (k := 10) rfl rfl (by decide) rfl (fun ls hl => ?_)
            refine lv_goto (tgt := 33) hx hb d_Sr_narrow_132 (by decide) ?_
            exact ih_33 _ _ _ _ _ _ _ _ hf hP hD hS (lv_sub hl [1, 2, 3, 4, 5, 6, 7, 8, 9, 10, 0] rfl)
          · have hf := fn_f hc hf
            refine lv_iload hx hb d_Sr_narrow_63 (lv_at hl 5 rfl) ?_
            refine lv_iload hx hb d_Sr_narrow_65 (lv_at hl 11 rfl) ?_
            refine lv_ishr hx hb d_Sr_narrow_67 ?_
            refine lv_iconst (v := 1) hx hb d_Sr_narrow_68 (by decide) ?_
            refine lv_iand hx hb d_Sr_narrow_69 ?_
            refine lv_if_ne (tgt := 77) hx hb d_Sr_narrow_70 (by decide) (fun hc => ?_) (fun hc => ?_)
            · have hf := fn_f hc hf
              refine lv_aload_n hx hb d_Sr_narrow_77 rfl (lv_at hl 0 rfl) ?_
              refine va_get (D := D) (ci := 3) (v := .ref se) (C := RK3) (T := TK3) (N := 3) hx hb hts iwK3 hown hK hP 2 rfl rfl 0 (by decide) (hts _ fl_Sr_18) (fun _ h9 => h9) rfl d_Sr_narrow_78 ?_
              refine lv_iload hx hb d_Sr_narrow_81 (lv_at hl 10 rfl) ?_
              refine lv_iload hx hb d_Sr_narrow_83 (lv_at hl 11 rfl) ?_
              obtain ⟨r_85, hcl, hf⟩ := fn_e1 hf
              refine cv_RdI (rest := []) ⟨hx, hb, hml, hown, hts⟩ (c_Se_objectsOf l D cK se seO seOf v10 v11 r_85 hcl) (cwV 2 hts (zz_V ml_Sr_53 im_Se_objectsOf se_Se_objectsOf in_Se co_Se_objectsOf) rfl rfl rfl ⟨rfl, hd_Se_objectsOf⟩ ⟨Nat.le_of_ble_eq_true rfl, Nat.le_of_ble_eq_true rfl⟩) hK hP [0, 1] rfl 0 rfl rfl rfl rfl hl.1 rfl (Nat.le_of_ble_eq_true rfl) d_Sr_narrow_85 ⟨Nat.zero_le _, Nat.zero_le _⟩ ?_
              refine lv_iload hx hb d_Sr_narrow_88 (lv_at hl 6 rfl) ?_
              refine lv_iand hx hb d_Sr_narrow_90 ?_
              exact J_91 _ _ _ _ _ _ _ _ _ hf hP hD hS (lv_sub hl [0, 1, 2, 3, 4, 5, 6, 7, 8, 9, 10, 11] rfl)
            · have hf := fn_t hc hf
              refine lv_iconst (v := 0) hx hb d_Sr_narrow_73 (by decide) ?_
              refine lv_goto (tgt := 91) hx hb d_Sr_narrow_74 (by decide) ?_
              exact J_91 _ _ _ _ _ _ _ _ _ hf hP hD hS (lv_sub hl [0, 1, 2, 3, 4, 5, 6, 7, 8, 9, 10, 11] rfl)
      intro srOf v7 v8 v9 v10 H locs ls hf hP hD hS hl
      rw [f_Sr_narrow_33.eq_2] at hf
      refine lv_iload hx hb d_Sr_narrow_33 (lv_at hl 10 rfl) ?_
      refine lv_bipush (v := 16) hx hb d_Sr_narrow_35 (by decide) ?_
      refine lv_icmp_ge (tgt := 135) hx hb d_Sr_narrow_37 (by decide) (fun hc => ?_) (fun hc => ?_)
      · have hf := fn_t hc hf
        exact J_135 _ _ _ _ _ _ _ _ _ _ hf hP hD hS (lv_sub hl [0, 1, 2, 3, 7, 8, 9] rfl)
      · have hf := fn_f hc hf
        refine lv_iload hx hb d_Sr_narrow_40 (lv_at hl 4 rfl) ?_
        refine lv_iload hx hb d_Sr_narrow_42 (lv_at hl 10 rfl) ?_
        refine lv_ishr hx hb d_Sr_narrow_44 ?_
        refine lv_iconst (v := 1) hx hb d_Sr_narrow_45 (by decide) ?_
        refine lv_iand hx hb d_Sr_narrow_46 ?_
        refine lv_if_ne (tgt := 53) hx hb d_Sr_narrow_47 (by decide) (fun hc => ?_) (fun hc => ?_)
        · have hf := fn_f hc hf
          refine lv_iconst (v := 0) hx hb d_Sr_narrow_53 (by decide) ?_
          refine lv_istore (lv' := [(11, .int 0), (0, .ref sr), (1, .int v1), (2, .int v2), (3, .int v3), (4, .int v4), (5, .int v5), (6, .int v6), (7, .int v7), (8, .int v8), (9, .int v9), (10, .int v10)]) hx hb d_Sr_narrow_54 hl (by decide) rfl (fun ls hl => ?_)
          exact J_56 _ _ _ _ _ _ _ _ _ _ hf hP hD hS (lv_sub hl [1, 2, 3, 4, 5, 6, 7, 8, 9, 10, 11, 0] rfl)
        · have hf := fn_t hc hf
          refine lv_goto (tgt := 129) hx hb d_Sr_narrow_50 (by decide) ?_
          refine lv_iinc (v := (v10 + 1)) (lv' := [(10, .int (v10 + 1)), (0, .ref sr), (1, .int v1), (2, .int v2), (3, .int v3), (4, .int v4), (5, .int v5), (6, .int v6), (7, .int v7), (8, .int v8), (9, .int v9)]) hx hb d_Sr_narrow_129 hl (k := 10) rfl rfl (by decide) rfl (fun ls hl => ?_)
          refine lv_goto (tgt := 33) hx hb d_Sr_narrow_132 (by decide) ?_
          exact ih_33 _ _ _ _ _ _ _ _ hf hP hD hS (lv_sub hl [1, 2, 3, 4, 5, 6, 7, 8, 9, 10, 0] rfl)
  unfold f_Sr_narrow at hf
  refine lv_aload_n hx hb d_Sr_narrow_0 rfl (lv_at hl 0 rfl) ?_
  refine lv_iload_n hx hb d_Sr_narrow_1 rfl (lv_at hl 1 rfl) ?_
  obtain ⟨r_2, hcl, hf⟩ := fn_e1 hf
  refine cv_RdI (rest := []) ⟨hx, hb, hml, hown, hts⟩ (c_Sr_allowed l D cK sr se srO srV srOf v1 r_2 hcl) (cwV 1 hts (zz_V ml_Sr_49 im_Sr_allowed se_Sr_allowed in_Sr co_Sr_allowed) rfl rfl rfl ⟨rfl, hd_Sr_allowed⟩ ⟨Nat.le_of_ble_eq_true rfl, Nat.le_of_ble_eq_true rfl⟩) hK hP [2, 3] rfl 2 rfl rfl rfl rfl hl.1 rfl (Nat.le_of_ble_eq_true rfl) d_Sr_narrow_2 ⟨Nat.zero_le _, Nat.zero_le _⟩ ?_
  refine lv_istore (lv' := [(4, .int r_2), (0, .ref sr), (1, .int v1), (2, .int v2), (3, .int v3)]) hx hb d_Sr_narrow_5 hl (by decide) rfl (fun ls hl => ?_)
  refine lv_aload_n hx hb d_Sr_narrow_7 rfl (lv_at hl 1 rfl) ?_
  refine lv_iload_n hx hb d_Sr_narrow_8 rfl (lv_at hl 3 rfl) ?_
  obtain ⟨r_9, hcl, hf⟩ := fn_e1 hf
  refine cv_RdI (rest := []) ⟨hx, hb, hml, hown, hts⟩ (c_Sr_allowed l D cK sr se srO srV srOf v2 r_9 hcl) (cwV 1 hts (zz_V ml_Sr_49 im_Sr_allowed se_Sr_allowed in_Sr co_Sr_allowed) rfl rfl rfl ⟨rfl, hd_Sr_allowed⟩ ⟨Nat.le_of_ble_eq_true rfl, Nat.le_of_ble_eq_true rfl⟩) hK hP [2, 3] rfl 2 rfl rfl rfl rfl hl.1 rfl (Nat.le_of_ble_eq_true rfl) d_Sr_narrow_9 ⟨Nat.zero_le _, Nat.zero_le _⟩ ?_
  refine lv_istore (lv' := [(5, .int r_9), (4, .int r_2), (0, .ref sr), (1, .int v1), (2, .int v2), (3, .int v3)]) hx hb d_Sr_narrow_12 hl (by decide) rfl (fun ls hl => ?_)
  refine lv_aload_n hx hb d_Sr_narrow_14 rfl (lv_at hl 2 rfl) ?_
  refine lv_iload_n hx hb d_Sr_narrow_15 rfl (lv_at hl 5 rfl) ?_
  obtain ⟨r_16, hcl, hf⟩ := fn_e1 hf
  refine cv_RdI (rest := []) ⟨hx, hb, hml, hown, hts⟩ (c_Sr_allowed l D cK sr se srO srV srOf v3 r_16 hcl) (cwV 1 hts (zz_V ml_Sr_49 im_Sr_allowed se_Sr_allowed in_Sr co_Sr_allowed) rfl rfl rfl ⟨rfl, hd_Sr_allowed⟩ ⟨Nat.le_of_ble_eq_true rfl, Nat.le_of_ble_eq_true rfl⟩) hK hP [2, 3] rfl 2 rfl rfl rfl rfl hl.1 rfl (Nat.le_of_ble_eq_true rfl) d_Sr_narrow_16 ⟨Nat.zero_le _, Nat.zero_le _⟩ ?_
  refine lv_istore (lv' := [(6, .int r_16), (5, .int r_9), (4, .int r_2), (0, .ref sr), (1, .int v1), (2, .int v2), (3, .int v3)]) hx hb d_Sr_narrow_19 hl (by decide) rfl (fun ls hl => ?_)
  refine lv_iconst (v := 0) hx hb d_Sr_narrow_21 (by decide) ?_
  refine lv_istore (lv' := [(7, .int 0), (6, .int r_16), (5, .int r_9), (4, .int r_2), (0, .ref sr), (1, .int v1), (2, .int v2), (3, .int v3)]) hx hb d_Sr_narrow_22 hl (by decide) rfl (fun ls hl => ?_)
  refine lv_iconst (v := 0) hx hb d_Sr_narrow_24 (by decide) ?_
  refine lv_istore (lv' := [(8, .int 0), (7, .int 0), (6, .int r_16), (5, .int r_9), (4, .int r_2), (0, .ref sr), (1, .int v1), (2, .int v2), (3, .int v3)]) hx hb d_Sr_narrow_25 hl (by decide) rfl (fun ls hl => ?_)
  refine lv_iconst (v := 0) hx hb d_Sr_narrow_27 (by decide) ?_
  refine lv_istore (lv' := [(9, .int 0), (8, .int 0), (7, .int 0), (6, .int r_16), (5, .int r_9), (4, .int r_2), (0, .ref sr), (1, .int v1), (2, .int v2), (3, .int v3)]) hx hb d_Sr_narrow_28 hl (by decide) rfl (fun ls hl => ?_)
  refine lv_iconst (v := 0) hx hb d_Sr_narrow_30 (by decide) ?_
  refine lv_istore (lv' := [(10, .int 0), (9, .int 0), (8, .int 0), (7, .int 0), (6, .int r_16), (5, .int r_9), (4, .int r_2), (0, .ref sr), (1, .int v1), (2, .int v2), (3, .int v3)]) hx hb d_Sr_narrow_31 hl (by decide) rfl (fun ls hl => ?_)
  exact J_33 _ _ _ _ _ _ _ _ _ _ _ _ _ _ _ hf hP hD hS (lv_sub hl [7, 8, 9, 10, 6, 5, 4, 3, 2, 1, 0] rfl)
abbrev rm_Sr_filter : Room := { frames := 1, cells := 0, slots := 0, locals := 23 }
set_option maxHeartbeats 4000000 in
set_option maxRecDepth 100000 in
theorem c_Sr_filter (l : Launch) (D : va_G) (cK : Nat → ClassId) (se seO sr srO srV q qI qL : Nat) (seOf : Nat → Int32) (srVf : Nat → Int32) (qW : Int32) (qP : Int32) (qV : Int32) (qIf : Nat → Int32) (N : Nat) (v2 : Int32) (v3 : Int32) (v4 : Int32) (r : Int32) (o_srVf : Nat → Int32) (hf : f_Sr_filter N seOf srVf qIf v2 v3 v4 = some (r, o_srVf)) : WrI l y_Sr_filter w_Sr_filter rm_Sr_filter D zz_cl (mt_ty cK RK2) [.ref sr, .ref q, .int v2, .int v3, .int v4] [(se, .inr (1, [.ref seO])), (seO, .inl (cK 0, 128, .inl seOf)), (sr, .inr (3, [.ref se, .ref srO, .ref srV])), (srV, .inl (cK 0, 4, .inl srVf)), (q, .inr (2, [.ref qI, .ref qL, .int qW, .int qP, .int qV])), (qI, .inl (cK 0, 9, .inl qIf))] [(se, .inr (1, [.ref seO])), (seO, .inl (cK 0, 128, .inl seOf)), (sr, .inr (3, [.ref se, .ref srO, .ref srV])), (srV, .inl (cK 0, 4, .inl o_srVf)), (q, .inr (2, [.ref qI, .ref qL, .int qW, .int qP, .int qV])), (qI, .inl (cK 0, 9, .inl qIf))] r := by
  refine mk_WrI (cc := b_Sr_filter) (maxL := 11) (ty := .int) (by decide +kernel) rfl (Nat.le_of_ble_eq_true rfl) ?_
  intro p e s m below meth c args Q A ls hx hb hml hown hts hA hK hP hD hret hl
  have hS : va_S A s.heap s.heap [] := va_S.rf
  have hl : lv_has ls 11 [(0, .ref sr), (1, .ref q), (2, .int v2), (3, .int v3), (4, .int v4)] := hl
  have J_72 : ∀ (v3 : Int32) (v4 : Int32) (v6 : Int32) (v7 : Int32) (v8 : Int32) (n_72 : Nat) (srVf : Nat → Int32) (v9 : Int32) (v10 : Int32) (H : Heap) (locs : List Loc) (ls : Array Slot), f_Sr_filter_72 N seOf qIf v3 v4 v6 v7 v8 n_72 srVf v9 v10 = some (r, o_srVf) → va_P D zz_cl [(se, .inr (1, [.ref seO])), (seO, .inl (cK 0, 128, .inl seOf)), (sr, .inr (3, [.ref se, .ref srO, .ref srV])), (srV, .inl (cK 0, 4, .inl srVf)), (q, .inr (2, [.ref qI, .ref qL, .int qW, .int qP, .int qV])), (qI, .inl (cK 0, 9, .inl qIf))] H → va_D A [(se, .inr (1, [.ref seO])), (seO, .inl (cK 0, 128, .inl seOf)), (sr, .inr (3, [.ref se, .ref srO, .ref srV])), (srV, .inl (cK 0, 4, .inl srVf)), (q, .inr (2, [.ref qI, .ref qL, .int qW, .int qP, .int qV])), (qI, .inl (cK 0, 9, .inl qIf))] → va_S A s.heap H locs → lv_has ls 11 [(0, .ref sr), (3, .int v3), (4, .int v4), (6, .int v6), (7, .int v7), (8, .int v8), (9, .int v9), (10, .int v10)] → W p l e rm_Sr_filter s m args below meth c H locs 0 0 Q (F0 m 72 ls []) := by
    intro v3 v4 v6 v7 v8 n_72
    induction n_72 with
    | zero =>
      intro srVf v9 v10 H locs ls hf hP hD hS hl
      exact fn_0 hf
    | succ n_72 ih_72 =>
      intro srVf v9 v10 H locs ls hf hP hD hS hl
      rw [f_Sr_filter_72.eq_2] at hf
      refine lv_iload hx hb d_Sr_filter_72 (lv_at hl 7 rfl) ?_
      refine lv_bipush (v := 16) hx hb d_Sr_filter_74 (by decide) ?_
      refine lv_icmp_ge (tgt := 147) hx hb d_Sr_filter_76 (by decide) (fun hc => ?_) (fun hc => ?_)
      · have hf := fn_t hc hf
        refine lv_iload hx hb d_Sr_filter_147 (lv_at hl 6 rfl) ?_
        cases hf
        exact hret _ _ 149 _ hP hD hS rfl d_Sr_filter_149
      · have hf := fn_f hc hf
        refine lv_iload hx hb d_Sr_filter_79 (lv_at hl 2 rfl) ?_
        refine lv_iload hx hb d_Sr_filter_81 (lv_at hl 7 rfl) ?_
        refine lv_ishr hx hb d_Sr_filter_83 ?_
        refine lv_if_eq (tgt := 147) hx hb d_Sr_filter_84 (by decide) (fun hc => ?_) (fun hc => ?_)
        · have hf := fn_t hc hf
          refine lv_iload hx hb d_Sr_filter_147 (lv_at hl 6 rfl) ?_
          cases hf
          exact hret _ _ 149 _ hP hD hS rfl d_Sr_filter_149
        · have hf := fn_f hc hf
          refine lv_iload hx hb d_Sr_filter_87 (lv_at hl 2 rfl) ?_
          refine lv_iload hx hb d_Sr_filter_89 (lv_at hl 7 rfl) ?_
          refine lv_ishr hx hb d_Sr_filter_91 ?_
          refine lv_iconst (v := 1) hx hb d_Sr_filter_92 (by decide) ?_
          refine lv_iand hx hb d_Sr_filter_93 ?_
          refine lv_if_eq (tgt := 141) hx hb d_Sr_filter_94 (by decide) (fun hc => ?_) (fun hc => ?_)
          · have hf := fn_t hc hf
            refine lv_iinc (v := (v10 + 1)) (lv' := [(10, .int (v10 + 1)), (0, .ref sr), (3, .int v3), (4, .int v4), (6, .int v6), (7, .int v7), (8, .int v8), (9, .int v9)]) hx hb d_Sr_filter_141 hl (k := 7) rfl rfl (by decide) rfl (fun ls hl => ?_)
            refine lv_goto (tgt := 72) hx hb d_Sr_filter_144 (by decide) ?_
            exact ih_72 _ _ _ _ _ _ hf hP hD hS (lv_sub hl [1, 2, 3, 4, 5, 6, 7, 0] rfl)
          · have hf := fn_f hc hf
            refine lv_aload_n hx hb d_Sr_filter_97 rfl (lv_at hl 0 rfl) ?_
            refine va_get (D := D) (ci := 3) (v := .ref srV) (C := RK3) (T := TK3) (N := 3) hx hb hts iwK3 hown hK hP 2 rfl rfl 2 (by decide) (hts _ fl_Sr_15) (fun _ h9 => h9) rfl d_Sr_filter_98 ?_
            refine lv_iload_n hx hb d_Sr_filter_101 rfl (lv_at hl 1 rfl) ?_
            refine lv_iload hx hb d_Sr_filter_102 (lv_at hl 7 rfl) ?_
            have hg := fn_g hf
            have hf := fn_t hg hf
            refine va_iast hx hb hK hP hD hS 3 0 rfl rfl (fn_v hg) d_Sr_filter_104 (fun H locs hP hD hS => ?_)
            have hP : va_P D zz_cl [(se, .inr (1, [.ref seO])), (seO, .inl (cK 0, 128, .inl seOf)), (sr, .inr (3, [.ref se, .ref srO, .ref srV])), (srV, .inl (cK 0, 4, .inl (upd srVf (Int32.toNatClampNeg v3) v10))), (q, .inr (2, [.ref qI, .ref qL, .int qW, .int qP, .int qV])), (qI, .inl (cK 0, 9, .inl qIf))] H := hP
            have hD : va_D A [(se, .inr (1, [.ref seO])), (seO, .inl (cK 0, 128, .inl seOf)), (sr, .inr (3, [.ref se, .ref srO, .ref srV])), (srV, .inl (cK 0, 4, .inl (upd srVf (Int32.toNatClampNeg v3) v10))), (q, .inr (2, [.ref qI, .ref qL, .int qW, .int qP, .int qV])), (qI, .inl (cK 0, 9, .inl qIf))] := hD
            refine lv_iload hx hb d_Sr_filter_105 (lv_at hl 6 rfl) ?_
            refine lv_aload_n hx hb d_Sr_filter_107 rfl (lv_at hl 0 rfl) ?_
            refine va_get (D := D) (ci := 3) (v := .ref se) (C := RK3) (T := TK3) (N := 3) hx hb hts iwK3 hown hK hP 2 rfl rfl 0 (by decide) (hts _ fl_Sr_18) (fun _ h9 => h9) rfl d_Sr_filter_108 ?_
            refine lv_aload_n hx hb d_Sr_filter_111 rfl (lv_at hl 0 rfl) ?_
            refine lv_iload hx hb d_Sr_filter_112 (lv_at hl 3 rfl) ?_
            obtain ⟨r_114, hcl, hf⟩ := fn_e1 hf
            refine cv_RdI (rest := [.ref se, .int v9]) ⟨hx, hb, hml, hown, hts⟩ (c_Sr_valueOf l D cK sr se srO srV (upd srVf (Int32.toNatClampNeg v3) v10) v6 r_114 hcl) (cwV 1 hts (zz_V ml_Sr_75 im_Sr_valueOf se_Sr_valueOf in_Sr co_Sr_valueOf) rfl rfl rfl ⟨rfl, hd_Sr_valueOf⟩ ⟨Nat.le_of_ble_eq_true rfl, Nat.le_of_ble_eq_true rfl⟩) hK hP [2, 3] rfl 2 rfl rfl rfl rfl hl.1 rfl (Nat.le_of_ble_eq_true rfl) d_Sr_filter_114 ⟨Nat.zero_le _, Nat.zero_le _⟩ ?_
            refine lv_aload_n hx hb d_Sr_filter_117 rfl (lv_at hl 0 rfl) ?_
            refine lv_iload hx hb d_Sr_filter_118 (lv_at hl 4 rfl) ?_
            obtain ⟨r_120, hcl, hf⟩ := fn_e1 hf
            refine cv_RdI (rest := [.int r_114, .ref se, .int v9]) ⟨hx, hb, hml, hown, hts⟩ (c_Sr_valueOf l D cK sr se srO srV (upd srVf (Int32.toNatClampNeg v3) v10) v7 r_120 hcl) (cwV 1 hts (zz_V ml_Sr_75 im_Sr_valueOf se_Sr_valueOf in_Sr co_Sr_valueOf) rfl rfl rfl ⟨rfl, hd_Sr_valueOf⟩ ⟨Nat.le_of_ble_eq_true rfl, Nat.le_of_ble_eq_true rfl⟩) hK hP [2, 3] rfl 2 rfl rfl rfl rfl hl.1 rfl (Nat.le_of_ble_eq_true rfl) d_Sr_filter_120 ⟨Nat.zero_le _, Nat.zero_le _⟩ ?_
            obtain ⟨r_123, hcl, hf⟩ := fn_e1 hf
            refine cv_RdI (rest := [.int v9]) ⟨hx, hb, hml, hown, hts⟩ (c_Se_objectsOf l D cK se seO seOf r_114 r_120 r_123 hcl) (cwV 2 hts (zz_V ml_Sr_53 im_Se_objectsOf se_Se_objectsOf in_Se co_Se_objectsOf) rfl rfl rfl ⟨rfl, hd_Se_objectsOf⟩ ⟨Nat.le_of_ble_eq_true rfl, Nat.le_of_ble_eq_true rfl⟩) hK hP [0, 1] rfl 0 rfl rfl rfl rfl hl.1 rfl (Nat.le_of_ble_eq_true rfl) d_Sr_filter_123 ⟨Nat.zero_le _, Nat.zero_le _⟩ ?_
            refine lv_aload_n hx hb d_Sr_filter_126 rfl (lv_at hl 0 rfl) ?_
            refine lv_iload hx hb d_Sr_filter_127 (lv_at hl 5 rfl) ?_
            obtain ⟨r_129, hcl, hf⟩ := fn_e1 hf
            refine cv_RdI (rest := [.int r_123, .int v9]) ⟨hx, hb, hml, hown, hts⟩ (c_Sr_valueOf l D cK sr se srO srV (upd srVf (Int32.toNatClampNeg v3) v10) v8 r_129 hcl) (cwV 1 hts (zz_V ml_Sr_75 im_Sr_valueOf se_Sr_valueOf in_Sr co_Sr_valueOf) rfl rfl rfl ⟨rfl, hd_Sr_valueOf⟩ ⟨Nat.le_of_ble_eq_true rfl, Nat.le_of_ble_eq_true rfl⟩) hK hP [2, 3] rfl 2 rfl rfl rfl rfl hl.1 rfl (Nat.le_of_ble_eq_true rfl) d_Sr_filter_129 ⟨Nat.zero_le _, Nat.zero_le _⟩ ?_
            refine lv_ishr hx hb d_Sr_filter_132 ?_
            refine lv_iconst (v := 1) hx hb d_Sr_filter_133 (by decide) ?_
            refine lv_iand hx hb d_Sr_filter_134 ?_
            refine lv_iload hx hb d_Sr_filter_135 (lv_at hl 7 rfl) ?_
            refine lv_ishl hx hb d_Sr_filter_137 ?_
            refine lv_ior hx hb d_Sr_filter_138 ?_
            refine lv_istore (lv' := [(9, .int (v9 ||| (((r_123 >>> (r_129 &&& 31)) &&& 1) <<< (v10 &&& 31)))), (0, .ref sr), (3, .int v3), (4, .int v4), (6, .int v6), (7, .int v7), (8, .int v8), (10, .int v10)]) hx hb d_Sr_filter_139 hl (by decide) rfl (fun ls hl => ?_)
            refine lv_iinc (v := (v10 + 1)) (lv' := [(10, .int (v10 + 1)), (9, .int (v9 ||| (((r_123 >>> (r_129 &&& 31)) &&& 1) <<< (v10 &&& 31)))), (0, .ref sr), (3, .int v3), (4, .int v4), (6, .int v6), (7, .int v7), (8, .int v8)]) hx hb d_Sr_filter_141 hl (k := 7) rfl rfl (by decide) rfl (fun ls hl => ?_)
            refine lv_goto (tgt := 72) hx hb d_Sr_filter_144 (by decide) ?_
            exact ih_72 _ _ _ _ _ _ hf hP hD hS (lv_sub hl [2, 3, 4, 5, 6, 7, 1, 0] rfl)
  unfold f_Sr_filter at hf
  refine lv_iconst (v := (-1)) hx hb d_Sr_filter_0 (by decide) ?_
  refine lv_iload_n hx hb d_Sr_filter_1 rfl (lv_at hl 3 rfl) ?_
  refine lv_isub hx hb d_Sr_filter_2 ?_
  refine lv_istore (lv' := [(5, .int ((-1) - v3)), (0, .ref sr), (1, .ref q), (2, .int v2), (3, .int v3), (4, .int v4)]) hx hb d_Sr_filter_3 hl (by decide) rfl (fun ls hl => ?_)
  refine lv_aload_n hx hb d_Sr_filter_5 rfl (lv_at hl 2 rfl) ?_
  refine lv_iload_n hx hb d_Sr_filter_6 rfl (lv_at hl 3 rfl) ?_
  refine lv_iconst (v := 0) hx hb d_Sr_filter_7 (by decide) ?_
  obtain ⟨r_8, hcl, hf⟩ := fn_e1 hf
  refine cv_RdI (rest := []) ⟨hx, hb, hml, hown, hts⟩ (c_Qu_itemAt l D cK q qI qL qW qP qV qIf v2 0 r_8 hcl) (cwV 2 hts (zz_V ml_Sr_29 im_Qu_itemAt se_Qu_itemAt in_Qu co_Qu_itemAt) rfl rfl rfl ⟨rfl, hd_Qu_itemAt⟩ ⟨Nat.le_of_ble_eq_true rfl, Nat.le_of_ble_eq_true rfl⟩) hK hP [4, 5] rfl 4 rfl rfl rfl rfl hl.1 rfl (Nat.le_of_ble_eq_true rfl) d_Sr_filter_8 ⟨Nat.zero_le _, Nat.zero_le _⟩ ?_
  refine lv_istore (lv' := [(6, .int r_8), (5, .int ((-1) - v3)), (0, .ref sr), (1, .ref q), (2, .int v2), (3, .int v3), (4, .int v4)]) hx hb d_Sr_filter_11 hl (by decide) rfl (fun ls hl => ?_)
  refine lv_aload_n hx hb d_Sr_filter_13 rfl (lv_at hl 3 rfl) ?_
  refine lv_iload_n hx hb d_Sr_filter_14 rfl (lv_at hl 4 rfl) ?_
  refine lv_iconst (v := 1) hx hb d_Sr_filter_15 (by decide) ?_
  obtain ⟨r_16, hcl, hf⟩ := fn_e1 hf
  refine cv_RdI (rest := []) ⟨hx, hb, hml, hown, hts⟩ (c_Qu_itemAt l D cK q qI qL qW qP qV qIf v2 1 r_16 hcl) (cwV 2 hts (zz_V ml_Sr_29 im_Qu_itemAt se_Qu_itemAt in_Qu co_Qu_itemAt) rfl rfl rfl ⟨rfl, hd_Qu_itemAt⟩ ⟨Nat.le_of_ble_eq_true rfl, Nat.le_of_ble_eq_true rfl⟩) hK hP [4, 5] rfl 4 rfl rfl rfl rfl hl.1 rfl (Nat.le_of_ble_eq_true rfl) d_Sr_filter_16 ⟨Nat.zero_le _, Nat.zero_le _⟩ ?_
  refine lv_istore (lv' := [(7, .int r_16), (6, .int r_8), (5, .int ((-1) - v3)), (0, .ref sr), (1, .ref q), (2, .int v2), (3, .int v3), (4, .int v4)]) hx hb d_Sr_filter_19 hl (by decide) rfl (fun ls hl => ?_)
  refine lv_aload_n hx hb d_Sr_filter_21 rfl (lv_at hl 4 rfl) ?_
  refine lv_iload_n hx hb d_Sr_filter_22 rfl (lv_at hl 5 rfl) ?_
  refine lv_iconst (v := 2) hx hb d_Sr_filter_23 (by decide) ?_
  obtain ⟨r_24, hcl, hf⟩ := fn_e1 hf
  refine cv_RdI (rest := []) ⟨hx, hb, hml, hown, hts⟩ (c_Qu_itemAt l D cK q qI qL qW qP qV qIf v2 2 r_24 hcl) (cwV 2 hts (zz_V ml_Sr_29 im_Qu_itemAt se_Qu_itemAt in_Qu co_Qu_itemAt) rfl rfl rfl ⟨rfl, hd_Qu_itemAt⟩ ⟨Nat.le_of_ble_eq_true rfl, Nat.le_of_ble_eq_true rfl⟩) hK hP [4, 5] rfl 4 rfl rfl rfl rfl hl.1 rfl (Nat.le_of_ble_eq_true rfl) d_Sr_filter_24 ⟨Nat.zero_le _, Nat.zero_le _⟩ ?_
  refine lv_istore (lv' := [(8, .int r_24), (7, .int r_16), (6, .int r_8), (5, .int ((-1) - v3)), (0, .ref sr), (1, .ref q), (2, .int v2), (3, .int v3), (4, .int v4)]) hx hb d_Sr_filter_27 hl (by decide) rfl (fun ls hl => ?_)
  refine lv_iload hx hb d_Sr_filter_29 (lv_at hl 2 rfl) ?_
  refine lv_iload hx hb d_Sr_filter_31 (lv_at hl 3 rfl) ?_
  refine lv_icmp_eq (tgt := 66) hx hb d_Sr_filter_33 (by decide) (fun hc => ?_) (fun hc => ?_)
  · have hf := fn_t hc hf
    refine lv_iconst (v := 0) hx hb d_Sr_filter_66 (by decide) ?_
    refine lv_istore (lv' := [(9, .int 0), (8, .int r_24), (7, .int r_16), (6, .int r_8), (5, .int ((-1) - v3)), (0, .ref sr), (1, .ref q), (2, .int v2), (3, .int v3), (4, .int v4)]) hx hb d_Sr_filter_67 hl (by decide) rfl (fun ls hl => ?_)
    refine lv_iconst (v := 0) hx hb d_Sr_filter_69 (by decide) ?_
    refine lv_istore (lv' := [(10, .int 0), (9, .int 0), (8, .int r_24), (7, .int r_16), (6, .int r_8), (5, .int ((-1) - v3)), (0, .ref sr), (1, .ref q), (2, .int v2), (3, .int v3), (4, .int v4)]) hx hb d_Sr_filter_70 hl (by decide) rfl (fun ls hl => ?_)
    exact J_72 _ _ _ _ _ _ _ _ _ _ _ _ hf hP hD hS (lv_sub hl [6, 9, 10, 4, 3, 2, 1, 0] rfl)
  · have hf := fn_f hc hf
    refine lv_iload hx hb d_Sr_filter_36 (lv_at hl 1 rfl) ?_
    refine lv_iload hx hb d_Sr_filter_38 (lv_at hl 3 rfl) ?_
    refine lv_icmp_eq (tgt := 66) hx hb d_Sr_filter_40 (by decide) (fun hc => ?_) (fun hc => ?_)
    · have hf := fn_t hc hf
      refine lv_iconst (v := 0) hx hb d_Sr_filter_66 (by decide) ?_
      refine lv_istore (lv' := [(9, .int 0), (8, .int r_24), (7, .int r_16), (6, .int r_8), (5, .int ((-1) - v3)), (0, .ref sr), (1, .ref q), (2, .int v2), (3, .int v3), (4, .int v4)]) hx hb d_Sr_filter_67 hl (by decide) rfl (fun ls hl => ?_)
      refine lv_iconst (v := 0) hx hb d_Sr_filter_69 (by decide) ?_
      refine lv_istore (lv' := [(10, .int 0), (9, .int 0), (8, .int r_24), (7, .int r_16), (6, .int r_8), (5, .int ((-1) - v3)), (0, .ref sr), (1, .ref q), (2, .int v2), (3, .int v3), (4, .int v4)]) hx hb d_Sr_filter_70 hl (by decide) rfl (fun ls hl => ?_)
      exact J_72 _ _ _ _ _ _ _ _ _ _ _ _ hf hP hD hS (lv_sub hl [6, 9, 10, 4, 3, 2, 1, 0] rfl)
    · have hf := fn_f hc hf
      refine lv_iload hx hb d_Sr_filter_43 (lv_at hl 8 rfl) ?_
      refine lv_aload_n hx hb d_Sr_filter_45 rfl (lv_at hl 4 rfl) ?_
      refine va_get (D := D) (ci := 3) (v := .ref se) (C := RK3) (T := TK3) (N := 3) hx hb hts iwK3 hown hK hP 2 rfl rfl 0 (by decide) (hts _ fl_Sr_18) (fun _ h9 => h9) rfl d_Sr_filter_46 ?_
      refine lv_aload_n hx hb d_Sr_filter_49 rfl (lv_at hl 4 rfl) ?_
      refine lv_iload hx hb d_Sr_filter_50 (lv_at hl 2 rfl) ?_
      obtain ⟨r_52, hcl, hf⟩ := fn_e1 hf
      refine cv_RdI (rest := [.ref se, .int v4]) ⟨hx, hb, hml, hown, hts⟩ (c_Sr_valueOf l D cK sr se srO srV srVf r_8 r_52 hcl) (cwV 1 hts (zz_V ml_Sr_75 im_Sr_valueOf se_Sr_valueOf in_Sr co_Sr_valueOf) rfl rfl rfl ⟨rfl, hd_Sr_valueOf⟩ ⟨Nat.le_of_ble_eq_true rfl, Nat.le_of_ble_eq_true rfl⟩) hK hP [2, 3] rfl 2 rfl rfl rfl rfl hl.1 rfl (Nat.le_of_ble_eq_true rfl) d_Sr_filter_52 ⟨Nat.zero_le _, Nat.zero_le _⟩ ?_
      refine lv_aload_n hx hb d_Sr_filter_55 rfl (lv_at hl 4 rfl) ?_
      refine lv_iload hx hb d_Sr_filter_56 (lv_at hl 1 rfl) ?_
      obtain ⟨r_58, hcl, hf⟩ := fn_e1 hf
      refine cv_RdI (rest := [.int r_52, .ref se, .int v4]) ⟨hx, hb, hml, hown, hts⟩ (c_Sr_valueOf l D cK sr se srO srV srVf r_16 r_58 hcl) (cwV 1 hts (zz_V ml_Sr_75 im_Sr_valueOf se_Sr_valueOf in_Sr co_Sr_valueOf) rfl rfl rfl ⟨rfl, hd_Sr_valueOf⟩ ⟨Nat.le_of_ble_eq_true rfl, Nat.le_of_ble_eq_true rfl⟩) hK hP [2, 3] rfl 2 rfl rfl rfl rfl hl.1 rfl (Nat.le_of_ble_eq_true rfl) d_Sr_filter_58 ⟨Nat.zero_le _, Nat.zero_le _⟩ ?_
      obtain ⟨r_61, hcl, hf⟩ := fn_e1 hf
      refine cv_RdI (rest := [.int v4]) ⟨hx, hb, hml, hown, hts⟩ (c_Se_objectsOf l D cK se seO seOf r_52 r_58 r_61 hcl) (cwV 2 hts (zz_V ml_Sr_53 im_Se_objectsOf se_Se_objectsOf in_Se co_Se_objectsOf) rfl rfl rfl ⟨rfl, hd_Se_objectsOf⟩ ⟨Nat.le_of_ble_eq_true rfl, Nat.le_of_ble_eq_true rfl⟩) hK hP [0, 1] rfl 0 rfl rfl rfl rfl hl.1 rfl (Nat.le_of_ble_eq_true rfl) d_Sr_filter_61 ⟨Nat.zero_le _, Nat.zero_le _⟩ ?_
      refine lv_iand hx hb d_Sr_filter_64 ?_
      cases hf
      exact hret _ _ 65 _ hP hD hS rfl d_Sr_filter_65
abbrev rm_Sr_extend (d_ : Nat) : Room := { frames := 2 + d_, cells := 0, slots := 0, locals := 53 + d_ * 26 }
set_option maxHeartbeats 4000000 in
set_option maxRecDepth 100000 in
theorem c_Sr_extend (l : Launch) (D : va_G) (cK : Nat → ClassId) (se seO sr srO srV x xW q qI qL : Nat) (seOf : Nat → Int32) (srOf : Nat → Int32) (xM : Nat) (qW : Int32) (qP : Int32) (qV : Int32) (qIf : Nat → Int32) (qLf : Nat → Int32) (N : Nat) : ∀ (d_ : Nat) (srVf : Nat → Int32) (xS : Int32) (xWf : Nat → Int32) (v3 : Int32) (v4 : Int32) (o_srVf : Nat → Int32) (o_xS : Int32) (o_xWf : Nat → Int32), f_Sr_extend N seOf srOf xM qP qIf qLf d_ srVf xS xWf v3 v4 = some (o_srVf, o_xS, o_xWf) → WrV l y_Sr_extend w_Sr_extend (rm_Sr_extend d_) D zz_cl (mt_ty cK RK2) [.ref sr, .ref q, .ref x, .int v3, .int v4] [(se, .inr (1, [.ref seO])), (seO, .inl (cK 0, 128, .inl seOf)), (sr, .inr (3, [.ref se, .ref srO, .ref srV])), (srO, .inl (cK 0, 4, .inl srOf)), (srV, .inl (cK 0, 4, .inl srVf)), (x, .inr (4, [.ref xW, .int xS])), (xW, .inl (cK 0, xM, .inl xWf)), (q, .inr (2, [.ref qI, .ref qL, .int qW, .int qP, .int qV])), (qI, .inl (cK 0, 9, .inl qIf)), (qL, .inl (cK 0, 3, .inl qLf))] [(se, .inr (1, [.ref seO])), (seO, .inl (cK 0, 128, .inl seOf)), (sr, .inr (3, [.ref se, .ref srO, .ref srV])), (srO, .inl (cK 0, 4, .inl srOf)), (srV, .inl (cK 0, 4, .inl o_srVf)), (x, .inr (4, [.ref xW, .int o_xS])), (xW, .inl (cK 0, xM, .inl o_xWf)), (q, .inr (2, [.ref qI, .ref qL, .int qW, .int qP, .int qV])), (qI, .inl (cK 0, 9, .inl qIf)), (qL, .inl (cK 0, 3, .inl qLf))] := by
  intro d_
  induction d_ with
  | zero =>
    intro srVf xS xWf v3 v4 o_srVf o_xS o_xWf hf
    exact fn_0 hf
  | succ d_ ihd =>
  intro srVf xS xWf v3 v4 o_srVf o_xS o_xWf hf
  refine mk_WrV (cc := b_Sr_extend) (maxL := 7) (by decide +kernel) rfl (Nat.le_of_ble_eq_true rfl) ?_
  intro p e s m below meth c args Q A ls hx hb hml hown hts hA hK hP hD hret hl
  have hS : va_S A s.heap s.heap [] := va_S.rf
  have hl : lv_has ls 7 [(0, .ref sr), (1, .ref q), (2, .ref x), (3, .int v3), (4, .int v4)] := hl
  have J_81 : ∀ (v3 : Int32) (v4 : Int32) (v5 : Int32) (n_81 : Nat) (srVf : Nat → Int32) (xS : Int32) (xWf : Nat → Int32) (v6 : Int32) (H : Heap) (locs : List Loc) (ls : Array Slot), f_Sr_extend_81 N seOf srOf xM qP qIf qLf (f_Sr_extend N seOf srOf xM qP qIf qLf d_) v3 v4 v5 n_81 srVf xS xWf v6 = some (o_srVf, o_xS, o_xWf) → va_P D zz_cl [(se, .inr (1, [.ref seO])), (seO, .inl (cK 0, 128, .inl seOf)), (sr, .inr (3, [.ref se, .ref srO, .ref srV])), (srO, .inl (cK 0, 4, .inl srOf)), (srV, .inl (cK 0, 4, .inl srVf)), (x, .inr (4, [.ref xW, .int xS])), (xW, .inl (cK 0, xM, .inl xWf)), (q, .inr (2, [.ref qI, .ref qL, .int qW, .int qP, .int qV])), (qI, .inl (cK 0, 9, .inl qIf)), (qL, .inl (cK 0, 3, .inl qLf))] H → va_D A [(se, .inr (1, [.ref seO])), (seO, .inl (cK 0, 128, .inl seOf)), (sr, .inr (3, [.ref se, .ref srO, .ref srV])), (srO, .inl (cK 0, 4, .inl srOf)), (srV, .inl (cK 0, 4, .inl srVf)), (x, .inr (4, [.ref xW, .int xS])), (xW, .inl (cK 0, xM, .inl xWf)), (q, .inr (2, [.ref qI, .ref qL, .int qW, .int qP, .int qV])), (qI, .inl (cK 0, 9, .inl qIf)), (qL, .inl (cK 0, 3, .inl qLf))] → va_S A s.heap H locs → lv_has ls 7 [(0, .ref sr), (1, .ref q), (2, .ref x), (3, .int v3), (4, .int v4), (5, .int v5), (6, .int v6)] → W p l e (rm_Sr_extend (d_ + 1)) s m args below meth c H locs 0 0 Q (F0 m 81 ls []) := by
    intro v3 v4 v5 n_81
    induction n_81 with
    | zero =>
      intro srVf xS xWf v6 H locs ls hf hP hD hS hl
      exact fn_0 hf
    | succ n_81 ih_81 =>
      intro srVf xS xWf v6 H locs ls hf hP hD hS hl
      rw [f_Sr_extend_81.eq_2] at hf
      refine lv_iload hx hb d_Sr_extend_81 (lv_at hl 6 rfl) ?_
      refine lv_bipush (v := 16) hx hb d_Sr_extend_83 (by decide) ?_
      refine lv_icmp_ge (tgt := 144) hx hb d_Sr_extend_85 (by decide) (fun hc => ?_) (fun hc => ?_)
      · have hf := fn_t hc hf
        cases hf
        exact hret _ _ 144 _ hP hD hS d_Sr_extend_144
      · have hf := fn_f hc hf
        refine lv_iload hx hb d_Sr_extend_88 (lv_at hl 5 rfl) ?_
        refine lv_iload hx hb d_Sr_extend_90 (lv_at hl 6 rfl) ?_
        refine lv_ishr hx hb d_Sr_extend_92 ?_
        refine lv_if_eq (tgt := 144) hx hb d_Sr_extend_93 (by decide) (fun hc => ?_) (fun hc => ?_)
        · have hf := fn_t hc hf
          cases hf
          exact hret _ _ 144 _ hP hD hS d_Sr_extend_144
        · have hf := fn_f hc hf
          refine lv_aload_n hx hb d_Sr_extend_96 rfl (lv_at hl 2 rfl) ?_
          obtain ⟨r_97, hcl, hf⟩ := fn_e1 hf
          refine cv_RdI (rest := []) ⟨hx, hb, hml, hown, hts⟩ (c_Rs_isFull l D cK x xW xS xM xWf r_97 hcl) (cwV 0 hts (zz_V ml_Sr_71 im_Rs_isFull se_Rs_isFull in_Rs co_Rs_isFull) rfl rfl rfl ⟨rfl, hd_Rs_isFull⟩ ⟨by dsimp only [rm_Rs_isFull, rm_Sr_extend]; omega, by dsimp only [rm_Rs_isFull, rm_Sr_extend]; omega⟩) hK hP [5, 6] rfl 5 rfl rfl rfl rfl hl.1 rfl (Nat.le_of_ble_eq_true rfl) d_Sr_extend_97 ⟨Nat.zero_le _, Nat.zero_le _⟩ ?_
          refine lv_if_ne (tgt := 144) hx hb d_Sr_extend_100 (by decide) (fun hc => ?_) (fun hc => ?_)
          · have hf := fn_f hc hf
            cases hf
            exact hret _ _ 144 _ hP hD hS d_Sr_extend_144
          · have hf := fn_t hc hf
            refine lv_iload hx hb d_Sr_extend_103 (lv_at hl 5 rfl) ?_
            refine lv_iload hx hb d_Sr_extend_105 (lv_at hl 6 rfl) ?_
            refine lv_ishr hx hb d_Sr_extend_107 ?_
            refine lv_iconst (v := 1) hx hb d_Sr_extend_108 (by decide) ?_
            refine lv_iand hx hb d_Sr_extend_109 ?_
            refine lv_if_eq (tgt := 138) hx hb d_Sr_extend_110 (by decide) (fun hc => ?_) (fun hc => ?_)
            · have hf := fn_t hc hf
              refine lv_iinc (v := (v6 + 1)) (lv' := [(6, .int (v6 + 1)), (0, .ref sr), (1, .ref q), (2, .ref x), (3, .int v3), (4, .int v4), (5, .int v5)]) hx hb d_Sr_extend_138 hl (k := 6) rfl rfl (by decide) rfl (fun ls hl => ?_)
              refine lv_goto (tgt := 81) hx hb d_Sr_extend_141 (by decide) ?_
              exact ih_81 _ _ _ _ _ _ _ hf hP hD hS (lv_sub hl [1, 2, 3, 4, 5, 6, 0] rfl)
            · have hf := fn_f hc hf
              refine lv_aload_n hx hb d_Sr_extend_113 rfl (lv_at hl 0 rfl) ?_
              refine va_get (D := D) (ci := 3) (v := .ref srV) (C := RK3) (T := TK3) (N := 3) hx hb hts iwK3 hown hK hP 2 rfl rfl 2 (by decide) (hts _ fl_Sr_15) (fun _ h9 => h9) rfl d_Sr_extend_114 ?_
              refine lv_iload_n hx hb d_Sr_extend_117 rfl (lv_at hl 3 rfl) ?_
              refine lv_iload hx hb d_Sr_extend_118 (lv_at hl 6 rfl) ?_
              have hg := fn_g hf
              have hf := fn_t hg hf
              refine va_iast hx hb hK hP hD hS 4 0 rfl rfl (fn_v hg) d_Sr_extend_120 (fun H locs hP hD hS => ?_)
              have hP : va_P D zz_cl [(se, .inr (1, [.ref seO])), (seO, .inl (cK 0, 128, .inl seOf)), (sr, .inr (3, [.ref se, .ref srO, .ref srV])), (srO, .inl (cK 0, 4, .inl srOf)), (srV, .inl (cK 0, 4, .inl (upd srVf (Int32.toNatClampNeg v3) v6))), (x, .inr (4, [.ref xW, .int xS])), (xW, .inl (cK 0, xM, .inl xWf)), (q, .inr (2, [.ref qI, .ref qL, .int qW, .int qP, .int qV])), (qI, .inl (cK 0, 9, .inl qIf)), (qL, .inl (cK 0, 3, .inl qLf))] H := hP
              have hD : va_D A [(se, .inr (1, [.ref seO])), (seO, .inl (cK 0, 128, .inl seOf)), (sr, .inr (3, [.ref se, .ref srO, .ref srV])), (srO, .inl (cK 0, 4, .inl srOf)), (srV, .inl (cK 0, 4, .inl (upd srVf (Int32.toNatClampNeg v3) v6))), (x, .inr (4, [.ref xW, .int xS])), (xW, .inl (cK 0, xM, .inl xWf)), (q, .inr (2, [.ref qI, .ref qL, .int qW, .int qP, .int qV])), (qI, .inl (cK 0, 9, .inl qIf)), (qL, .inl (cK 0, 3, .inl qLf))] := hD
              refine lv_aload_n hx hb d_Sr_extend_121 rfl (lv_at hl 0 rfl) ?_
              refine lv_aload_n hx hb d_Sr_extend_122 rfl (lv_at hl 1 rfl) ?_
              refine lv_aload_n hx hb d_Sr_extend_123 rfl (lv_at hl 2 rfl) ?_
              refine lv_iload_n hx hb d_Sr_extend_124 rfl (lv_at hl 3 rfl) ?_
              refine lv_iconst (v := 1) hx hb d_Sr_extend_125 (by decide) ?_
              refine lv_iadd hx hb d_Sr_extend_126 ?_
              refine lv_iload hx hb d_Sr_extend_127 (lv_at hl 4 rfl) ?_
              refine lv_bipush (v := 16) hx hb d_Sr_extend_129 (by decide) ?_
              refine lv_imul hx hb d_Sr_extend_131 ?_
              refine lv_iload hx hb d_Sr_extend_132 (lv_at hl 6 rfl) ?_
              refine lv_iadd hx hb d_Sr_extend_134 ?_
              obtain ⟨srVf_135, xS_135, xWf_135, hcl, hf⟩ := fn_e3 hf
              refine cv_WrV (rest := []) (wr := []) (w' := [(se, .inr (1, [.ref seO])), (seO, .inl (cK 0, 128, .inl seOf)), (sr, .inr (3, [.ref se, .ref srO, .ref srV])), (srO, .inl (cK 0, 4, .inl srOf)), (srV, .inl (cK 0, 4, .inl srVf_135)), (x, .inr (4, [.ref xW, .int xS_135])), (xW, .inl (cK 0, xM, .inl xWf_135)), (q, .inr (2, [.ref qI, .ref qL, .int qW, .int qP, .int qV])), (qI, .inl (cK 0, 9, .inl qIf)), (qL, .inl (cK 0, 3, .inl qLf))]) ⟨hx, hb, hml, hown, hts⟩ (ihd (upd srVf (Int32.toNatClampNeg v3) v6) xS xWf (v3 + 1) ((v4 * 16) + v6) srVf_135 xS_135 xWf_135 hcl) (cwV 4 hts (zz_V ml_Sr_45 im_Sr_extend se_Sr_extend in_Sr co_Sr_extend) rfl rfl rfl ⟨rfl, hd_Sr_extend⟩ ⟨by dsimp only [rm_Sr_extend, rm_Sr_extend]; omega, by dsimp only [rm_Sr_extend, rm_Sr_extend]; omega⟩) hK hP hD hS hA [0, 1, 2, 3, 4, 5, 6, 7, 8, 9] [] [0, 1, 2, 3, 4, 5, 6, 7, 8, 9] rfl (by decide) rfl (by decide) (by decide) rfl (by decide) 2 rfl rfl rfl rfl hl.1 rfl (Nat.le_of_ble_eq_true rfl) d_Sr_extend_135 ⟨Nat.zero_le _, Nat.zero_le _⟩ (fun H locs hP hD hS => ?_)
              refine lv_iinc (v := (v6 + 1)) (lv' := [(6, .int (v6 + 1)), (0, .ref sr), (1, .ref q), (2, .ref x), (3, .int v3), (4, .int v4), (5, .int v5)]) hx hb d_Sr_extend_138 hl (k := 6) rfl rfl (by decide) rfl (fun ls hl => ?_)
              refine lv_goto (tgt := 81) hx hb d_Sr_extend_141 (by decide) ?_
              exact ih_81 _ _ _ _ _ _ _ hf hP hD hS (lv_sub hl [1, 2, 3, 4, 5, 6, 0] rfl)
  have J_21 : ∀ (v3 : Int32) (v4 : Int32) (n_21 : Nat) (srVf : Nat → Int32) (xS : Int32) (xWf : Nat → Int32) (v5 : Int32) (v6 : Int32) (H : Heap) (locs : List Loc) (ls : Array Slot), f_Sr_extend_21 N seOf srOf xM qP qIf qLf (f_Sr_extend N seOf srOf xM qP qIf qLf d_) v3 v4 n_21 srVf xS xWf v5 v6 = some (o_srVf, o_xS, o_xWf) → va_P D zz_cl [(se, .inr (1, [.ref seO])), (seO, .inl (cK 0, 128, .inl seOf)), (sr, .inr (3, [.ref se, .ref srO, .ref srV])), (srO, .inl (cK 0, 4, .inl srOf)), (srV, .inl (cK 0, 4, .inl srVf)), (x, .inr (4, [.ref xW, .int xS])), (xW, .inl (cK 0, xM, .inl xWf)), (q, .inr (2, [.ref qI, .ref qL, .int qW, .int qP, .int qV])), (qI, .inl (cK 0, 9, .inl qIf)), (qL, .inl (cK 0, 3, .inl qLf))] H → va_D A [(se, .inr (1, [.ref seO])), (seO, .inl (cK 0, 128, .inl seOf)), (sr, .inr (3, [.ref se, .ref srO, .ref srV])), (srO, .inl (cK 0, 4, .inl srOf)), (srV, .inl (cK 0, 4, .inl srVf)), (x, .inr (4, [.ref xW, .int xS])), (xW, .inl (cK 0, xM, .inl xWf)), (q, .inr (2, [.ref qI, .ref qL, .int qW, .int qP, .int qV])), (qI, .inl (cK 0, 9, .inl qIf)), (qL, .inl (cK 0, 3, .inl qLf))] → va_S A s.heap H locs → lv_has ls 7 [(0, .ref sr), (1, .ref q), (2, .ref x), (3, .int v3), (4, .int v4), (5, .int v5), (6, .int v6)] → W p l e (rm_Sr_extend (d_ + 1)) s m args below meth c H locs 0 0 Q (F0 m 21 ls []) := by
    intro v3 v4 n_21
    induction n_21 with
    | zero =>
      intro srVf xS xWf v5 v6 H locs ls hf hP hD hS hl
      exact fn_0 hf
    | succ n_21 ih_21 =>
      intro srVf xS xWf v5 v6 H locs ls hf hP hD hS hl
      rw [f_Sr_extend_21.eq_2] at hf
      refine lv_iload hx hb d_Sr_extend_21 (lv_at hl 6 rfl) ?_
      refine lv_aload_n hx hb d_Sr_extend_23 rfl (lv_at hl 1 rfl) ?_
      refine va_get (D := D) (ci := 2) (v := .int qP) (C := RK2) (T := TK2) (N := 5) hx hb hts iwK2 hown hK hP 7 rfl rfl 3 (by decide) (hts _ fl_Sr_37) (fun _ h9 => h9) rfl d_Sr_extend_24 ?_
      refine lv_icmp_ge (tgt := 64) hx hb d_Sr_extend_27 (by decide) (fun hc => ?_) (fun hc => ?_)
      · have hf := fn_t hc hf
        refine lv_iload_n hx hb d_Sr_extend_64 rfl (lv_at hl 3 rfl) ?_
        refine lv_iconst (v := 3) hx hb d_Sr_extend_65 (by decide) ?_
        refine lv_icmp_ne (tgt := 78) hx hb d_Sr_extend_66 (by decide) (fun hc => ?_) (fun hc => ?_)
        · have hf := fn_f hc hf
          refine lv_iconst (v := 0) hx hb d_Sr_extend_78 (by decide) ?_
          refine lv_istore (lv' := [(6, .int 0), (0, .ref sr), (1, .ref q), (2, .ref x), (3, .int v3), (4, .int v4), (5, .int v5)]) hx hb d_Sr_extend_79 hl (by decide) rfl (fun ls hl => ?_)
          exact J_81 _ _ _ _ _ _ _ _ _ _ _ hf hP hD hS (lv_sub hl [1, 2, 3, 4, 5, 6, 0] rfl)
        · have hf := fn_t hc hf
          refine lv_aload_n hx hb d_Sr_extend_69 rfl (lv_at hl 2 rfl) ?_
          refine lv_iload hx hb d_Sr_extend_70 (lv_at hl 4 rfl) ?_
          refine lv_iload hx hb d_Sr_extend_72 (lv_at hl 5 rfl) ?_
          obtain ⟨xS_74, xWf_74, hcl, hf⟩ := fn_e2 hf
          refine cv_WrV (rest := []) (wr := [(se, .inr (1, [.ref seO])), (seO, .inl (cK 0, 128, .inl seOf)), (sr, .inr (3, [.ref se, .ref srO, .ref srV])), (srO, .inl (cK 0, 4, .inl srOf)), (srV, .inl (cK 0, 4, .inl srVf)), (q, .inr (2, [.ref qI, .ref qL, .int qW, .int qP, .int qV])), (qI, .inl (cK 0, 9, .inl qIf)), (qL, .inl (cK 0, 3, .inl qLf))]) (w' := [(se, .inr (1, [.ref seO])), (seO, .inl (cK 0, 128, .inl seOf)), (sr, .inr (3, [.ref se, .ref srO, .ref srV])), (srO, .inl (cK 0, 4, .inl srOf)), (srV, .inl (cK 0, 4, .inl srVf)), (x, .inr (4, [.ref xW, .int xS_74])), (xW, .inl (cK 0, xM, .inl xWf_74)), (q, .inr (2, [.ref qI, .ref qL, .int qW, .int qP, .int qV])), (qI, .inl (cK 0, 9, .inl qIf)), (qL, .inl (cK 0, 3, .inl qLf))]) ⟨hx, hb, hml, hown, hts⟩ (c_Rs_add l D cK x xW xS xM xWf v4 v5 xS_74 xWf_74 hcl) (cwV 2 hts (zz_V ml_Sr_65 im_Rs_add se_Rs_add in_Rs co_Rs_add) rfl rfl rfl ⟨rfl, hd_Rs_add⟩ ⟨by dsimp only [rm_Rs_add, rm_Sr_extend]; omega, by dsimp only [rm_Rs_add, rm_Sr_extend]; omega⟩) hK hP hD hS hA [5, 6] [0, 1, 2, 3, 4, 7, 8, 9] [0, 1, 2, 3, 4, 8, 9, 5, 6, 7] rfl (by decide) rfl (by decide) (by decide) rfl (by decide) 5 rfl rfl rfl rfl hl.1 rfl (Nat.le_of_ble_eq_true rfl) d_Sr_extend_74 ⟨Nat.zero_le _, Nat.zero_le _⟩ (fun H locs hP hD hS => ?_)
          cases hf
          exact hret _ _ 77 _ hP hD hS d_Sr_extend_77
      · have hf := fn_f hc hf
        refine lv_iload hx hb d_Sr_extend_30 (lv_at hl 5 rfl) ?_
        refine lv_if_eq (tgt := 64) hx hb d_Sr_extend_32 (by decide) (fun hc => ?_) (fun hc => ?_)
        · have hf := fn_t hc hf
          refine lv_iload_n hx hb d_Sr_extend_64 rfl (lv_at hl 3 rfl) ?_
          refine lv_iconst (v := 3) hx hb d_Sr_extend_65 (by decide) ?_
          refine lv_icmp_ne (tgt := 78) hx hb d_Sr_extend_66 (by decide) (fun hc => ?_) (fun hc => ?_)
          · have hf := fn_f hc hf
            refine lv_iconst (v := 0) hx hb d_Sr_extend_78 (by decide) ?_
            refine lv_istore (lv' := [(6, .int 0), (0, .ref sr), (1, .ref q), (2, .ref x), (3, .int v3), (4, .int v4), (5, .int v5)]) hx hb d_Sr_extend_79 hl (by decide) rfl (fun ls hl => ?_)
            exact J_81 _ _ _ _ _ _ _ _ _ _ _ hf hP hD hS (lv_sub hl [1, 2, 3, 4, 5, 6, 0] rfl)
          · have hf := fn_t hc hf
            refine lv_aload_n hx hb d_Sr_extend_69 rfl (lv_at hl 2 rfl) ?_
            refine lv_iload hx hb d_Sr_extend_70 (lv_at hl 4 rfl) ?_
            refine lv_iload hx hb d_Sr_extend_72 (lv_at hl 5 rfl) ?_
            obtain ⟨xS_74, xWf_74, hcl, hf⟩ := fn_e2 hf
            refine cv_WrV (rest := []) (wr := [(se, .inr (1, [.ref seO])), (seO, .inl (cK 0, 128, .inl seOf)), (sr, .inr (3, [.ref se, .ref srO, .ref srV])), (srO, .inl (cK 0, 4, .inl srOf)), (srV, .inl (cK 0, 4, .inl srVf)), (q, .inr (2, [.ref qI, .ref qL, .int qW, .int qP, .int qV])), (qI, .inl (cK 0, 9, .inl qIf)), (qL, .inl (cK 0, 3, .inl qLf))]) (w' := [(se, .inr (1, [.ref seO])), (seO, .inl (cK 0, 128, .inl seOf)), (sr, .inr (3, [.ref se, .ref srO, .ref srV])), (srO, .inl (cK 0, 4, .inl srOf)), (srV, .inl (cK 0, 4, .inl srVf)), (x, .inr (4, [.ref xW, .int xS_74])), (xW, .inl (cK 0, xM, .inl xWf_74)), (q, .inr (2, [.ref qI, .ref qL, .int qW, .int qP, .int qV])), (qI, .inl (cK 0, 9, .inl qIf)), (qL, .inl (cK 0, 3, .inl qLf))]) ⟨hx, hb, hml, hown, hts⟩ (c_Rs_add l D cK x xW xS xM xWf v4 v5 xS_74 xWf_74 hcl) (cwV 2 hts (zz_V ml_Sr_65 im_Rs_add se_Rs_add in_Rs co_Rs_add) rfl rfl rfl ⟨rfl, hd_Rs_add⟩ ⟨by dsimp only [rm_Rs_add, rm_Sr_extend]; omega, by dsimp only [rm_Rs_add, rm_Sr_extend]; omega⟩) hK hP hD hS hA [5, 6] [0, 1, 2, 3, 4, 7, 8, 9] [0, 1, 2, 3, 4, 8, 9, 5, 6, 7] rfl (by decide) rfl (by decide) (by decide) rfl (by decide) 5 rfl rfl rfl rfl hl.1 rfl (Nat.le_of_ble_eq_true rfl) d_Sr_extend_74 ⟨Nat.zero_le _, Nat.zero_le _⟩ (fun H locs hP hD hS => ?_)
            cases hf
            exact hret _ _ 77 _ hP hD hS d_Sr_extend_77
        · have hf := fn_f hc hf
          refine lv_aload_n hx hb d_Sr_extend_35 rfl (lv_at hl 1 rfl) ?_
          refine va_get (D := D) (ci := 2) (v := .ref qL) (C := RK2) (T := TK2) (N := 5) hx hb hts iwK2 hown hK hP 7 rfl rfl 1 (by decide) (hts _ fl_Sr_58) (fun _ h9 => h9) rfl d_Sr_extend_36 ?_
          refine lv_iload hx hb d_Sr_extend_39 (lv_at hl 6 rfl) ?_
          have hg := fn_g hf
          have hf := fn_t hg hf
          refine va_iald hx hb hK hP 9 0 rfl rfl (fn_v hg) d_Sr_extend_41 ?_
          refine lv_iload_n hx hb d_Sr_extend_42 rfl (lv_at hl 3 rfl) ?_
          refine lv_icmp_ne (tgt := 58) hx hb d_Sr_extend_43 (by decide) (fun hc => ?_) (fun hc => ?_)
          · have hf := fn_f hc hf
            refine lv_iinc (v := (v6 + 1)) (lv' := [(6, .int (v6 + 1)), (0, .ref sr), (1, .ref q), (2, .ref x), (3, .int v3), (4, .int v4), (5, .int v5)]) hx hb d_Sr_extend_58 hl (k := 6) rfl rfl (by decide) rfl (fun ls hl => ?_)
            refine lv_goto (tgt := 21) hx hb d_Sr_extend_61 (by decide) ?_
            exact ih_21 _ _ _ _ _ _ _ _ hf hP hD hS (lv_sub hl [1, 2, 3, 4, 5, 6, 0] rfl)
          · have hf := fn_t hc hf
            refine lv_aload_n hx hb d_Sr_extend_46 rfl (lv_at hl 0 rfl) ?_
            refine lv_aload_n hx hb d_Sr_extend_47 rfl (lv_at hl 1 rfl) ?_
            refine lv_iload hx hb d_Sr_extend_48 (lv_at hl 6 rfl) ?_
            refine lv_iload_n hx hb d_Sr_extend_50 rfl (lv_at hl 3 rfl) ?_
            refine lv_iload hx hb d_Sr_extend_51 (lv_at hl 5 rfl) ?_
            obtain ⟨r_53, srVf_53, hcl, hf⟩ := fn_e2 hf
            refine cv_WrI (rest := []) (wr := [(srO, .inl (cK 0, 4, .inl srOf)), (x, .inr (4, [.ref xW, .int xS])), (xW, .inl (cK 0, xM, .inl xWf)), (qL, .inl (cK 0, 3, .inl qLf))]) (w' := [(se, .inr (1, [.ref seO])), (seO, .inl (cK 0, 128, .inl seOf)), (sr, .inr (3, [.ref se, .ref srO, .ref srV])), (srO, .inl (cK 0, 4, .inl srOf)), (srV, .inl (cK 0, 4, .inl srVf_53)), (x, .inr (4, [.ref xW, .int xS])), (xW, .inl (cK 0, xM, .inl xWf)), (q, .inr (2, [.ref qI, .ref qL, .int qW, .int qP, .int qV])), (qI, .inl (cK 0, 9, .inl qIf)), (qL, .inl (cK 0, 3, .inl qLf))]) ⟨hx, hb, hml, hown, hts⟩ (c_Sr_filter l D cK se seO sr srO srV q qI qL seOf srVf qW qP qV qIf N v6 v3 v5 r_53 srVf_53 hcl) (cwV 4 hts (zz_V ml_Sr_61 im_Sr_filter se_Sr_filter in_Sr co_Sr_filter) rfl rfl rfl ⟨rfl, hd_Sr_filter⟩ ⟨by dsimp only [rm_Sr_filter, rm_Sr_extend]; omega, by dsimp only [rm_Sr_filter, rm_Sr_extend]; omega⟩) hK hP hD hS hA [0, 1, 2, 4, 7, 8] [3, 5, 6, 9] [4, 5, 6, 0, 7, 1, 2, 8, 9, 3] rfl (by decide) rfl (by decide) (by decide) rfl (by decide) 2 rfl rfl rfl rfl hl.1 rfl (Nat.le_of_ble_eq_true rfl) d_Sr_extend_53 ⟨Nat.zero_le _, Nat.zero_le _⟩ (fun H locs hP hD hS => ?_)
            refine lv_istore (lv' := [(5, .int r_53), (0, .ref sr), (1, .ref q), (2, .ref x), (3, .int v3), (4, .int v4), (6, .int v6)]) hx hb d_Sr_extend_56 hl (by decide) rfl (fun ls hl => ?_)
            refine lv_iinc (v := (v6 + 1)) (lv' := [(6, .int (v6 + 1)), (5, .int r_53), (0, .ref sr), (1, .ref q), (2, .ref x), (3, .int v3), (4, .int v4)]) hx hb d_Sr_extend_58 hl (k := 6) rfl rfl (by decide) rfl (fun ls hl => ?_)
            refine lv_goto (tgt := 21) hx hb d_Sr_extend_61 (by decide) ?_
            exact ih_21 _ _ _ _ _ _ _ _ hf hP hD hS (lv_sub hl [2, 3, 4, 5, 6, 1, 0] rfl)
  rw [f_Sr_extend.eq_2] at hf
  refine lv_iload_n hx hb d_Sr_extend_0 rfl (lv_at hl 3 rfl) ?_
  refine lv_if_lt (tgt := 9) hx hb d_Sr_extend_1 (by decide) (fun hc => ?_) (fun hc => ?_)
  · have hf := fn_t hc hf
    cases hf
    exact hret _ _ 9 _ hP hD hS d_Sr_extend_9
  · have hf := fn_f hc hf
    refine lv_iload_n hx hb d_Sr_extend_4 rfl (lv_at hl 3 rfl) ?_
    refine lv_iconst (v := 4) hx hb d_Sr_extend_5 (by decide) ?_
    refine lv_icmp_lt (tgt := 10) hx hb d_Sr_extend_6 (by decide) (fun hc => ?_) (fun hc => ?_)
    · have hf := fn_t hc hf
      refine lv_aload_n hx hb d_Sr_extend_10 rfl (lv_at hl 0 rfl) ?_
      refine va_get (D := D) (ci := 3) (v := .ref srO) (C := RK3) (T := TK3) (N := 3) hx hb hts iwK3 hown hK hP 2 rfl rfl 1 (by decide) (hts _ fl_Sr_9) (fun _ h9 => h9) rfl d_Sr_extend_11 ?_
      refine lv_iload_n hx hb d_Sr_extend_14 rfl (lv_at hl 3 rfl) ?_
      have hg := fn_g hf
      have hf := fn_t hg hf
      refine va_iald hx hb hK hP 3 0 rfl rfl (fn_v hg) d_Sr_extend_15 ?_
      refine lv_istore (lv' := [(5, .int (srOf (Int32.toNatClampNeg v3))), (0, .ref sr), (1, .ref q), (2, .ref x), (3, .int v3), (4, .int v4)]) hx hb d_Sr_extend_16 hl (by decide) rfl (fun ls hl => ?_)
      refine lv_iconst (v := 0) hx hb d_Sr_extend_18 (by decide) ?_
      refine lv_istore (lv' := [(6, .int 0), (5, .int (srOf (Int32.toNatClampNeg v3))), (0, .ref sr), (1, .ref q), (2, .ref x), (3, .int v3), (4, .int v4)]) hx hb d_Sr_extend_19 hl (by decide) rfl (fun ls hl => ?_)
      exact J_21 _ _ _ _ _ _ _ _ _ _ _ hf hP hD hS (lv_sub hl [2, 3, 4, 5, 6, 1, 0] rfl)
    · have hf := fn_f hc hf
      cases hf
      exact hret _ _ 9 _ hP hD hS d_Sr_extend_9
abbrev rm_Sr_run : Room := { frames := 8, cells := 0, slots := 0, locals := 209 }
set_option maxHeartbeats 4000000 in
set_option maxRecDepth 100000 in
theorem c_Sr_run (l : Launch) (D : va_G) (cK : Nat → ClassId) (se seO sr srO srV x xW q qI qL : Nat) (seOf : Nat → Int32) (srOf : Nat → Int32) (srVf : Nat → Int32) (xS : Int32) (xM : Nat) (xWf : Nat → Int32) (qW : Int32) (qP : Int32) (qV : Int32) (qIf : Nat → Int32) (qLf : Nat → Int32) (N : Nat)  (o_srOf : Nat → Int32) (o_srVf : Nat → Int32) (o_xS : Int32) (o_xWf : Nat → Int32) (hf : f_Sr_run N seOf srOf srVf xS xM xWf qP qIf qLf = some (o_srOf, o_srVf, o_xS, o_xWf)) : WrV l y_Sr_run w_Sr_run rm_Sr_run D zz_cl (mt_ty cK RK2) [.ref sr, .ref q, .ref x] [(se, .inr (1, [.ref seO])), (seO, .inl (cK 0, 128, .inl seOf)), (sr, .inr (3, [.ref se, .ref srO, .ref srV])), (srO, .inl (cK 0, 4, .inl srOf)), (srV, .inl (cK 0, 4, .inl srVf)), (x, .inr (4, [.ref xW, .int xS])), (xW, .inl (cK 0, xM, .inl xWf)), (q, .inr (2, [.ref qI, .ref qL, .int qW, .int qP, .int qV])), (qI, .inl (cK 0, 9, .inl qIf)), (qL, .inl (cK 0, 3, .inl qLf))] [(se, .inr (1, [.ref seO])), (seO, .inl (cK 0, 128, .inl seOf)), (sr, .inr (3, [.ref se, .ref srO, .ref srV])), (srO, .inl (cK 0, 4, .inl o_srOf)), (srV, .inl (cK 0, 4, .inl o_srVf)), (x, .inr (4, [.ref xW, .int o_xS])), (xW, .inl (cK 0, xM, .inl o_xWf)), (q, .inr (2, [.ref qI, .ref qL, .int qW, .int qP, .int qV])), (qI, .inl (cK 0, 9, .inl qIf)), (qL, .inl (cK 0, 3, .inl qLf))] := by
  refine mk_WrV (cc := b_Sr_run) (maxL := 4) (by decide +kernel) rfl (Nat.le_of_ble_eq_true rfl) ?_
  intro p e s m below meth c args Q A ls hx hb hml hown hts hA hK hP hD hret hl
  have hS : va_S A s.heap s.heap [] := va_S.rf
  have hl : lv_has ls 4 [(0, .ref sr), (1, .ref q), (2, .ref x)] := hl
  have J_2 : ∀  (n_2 : Nat) (srOf : Nat → Int32) (srVf : Nat → Int32) (xS : Int32) (xWf : Nat → Int32) (v3 : Int32) (H : Heap) (locs : List Loc) (ls : Array Slot), f_Sr_run_2 N seOf xM qP qIf qLf n_2 srOf srVf xS xWf v3 = some (o_srOf, o_srVf, o_xS, o_xWf) → va_P D zz_cl [(se, .inr (1, [.ref seO])), (seO, .inl (cK 0, 128, .inl seOf)), (sr, .inr (3, [.ref se, .ref srO, .ref srV])), (srO, .inl (cK 0, 4, .inl srOf)), (srV, .inl (cK 0, 4, .inl srVf)), (x, .inr (4, [.ref xW, .int xS])), (xW, .inl (cK 0, xM, .inl xWf)), (q, .inr (2, [.ref qI, .ref qL, .int qW, .int qP, .int qV])), (qI, .inl (cK 0, 9, .inl qIf)), (qL, .inl (cK 0, 3, .inl qLf))] H → va_D A [(se, .inr (1, [.ref seO])), (seO, .inl (cK 0, 128, .inl seOf)), (sr, .inr (3, [.ref se, .ref srO, .ref srV])), (srO, .inl (cK 0, 4, .inl srOf)), (srV, .inl (cK 0, 4, .inl srVf)), (x, .inr (4, [.ref xW, .int xS])), (xW, .inl (cK 0, xM, .inl xWf)), (q, .inr (2, [.ref qI, .ref qL, .int qW, .int qP, .int qV])), (qI, .inl (cK 0, 9, .inl qIf)), (qL, .inl (cK 0, 3, .inl qLf))] → va_S A s.heap H locs → lv_has ls 4 [(0, .ref sr), (1, .ref q), (2, .ref x), (3, .int v3)] → W p l e rm_Sr_run s m args below meth c H locs 0 0 Q (F0 m 2 ls []) := by
    intro n_2
    induction n_2 with
    | zero =>
      intro srOf srVf xS xWf v3 H locs ls hf hP hD hS hl
      exact fn_0 hf
    | succ n_2 ih_2 =>
      intro srOf srVf xS xWf v3 H locs ls hf hP hD hS hl
      rw [f_Sr_run_2.eq_2] at hf
      refine lv_iload_n hx hb d_Sr_run_2 rfl (lv_at hl 3 rfl) ?_
      refine lv_aload_n hx hb d_Sr_run_3 rfl (lv_at hl 1 rfl) ?_
      refine va_get (D := D) (ci := 2) (v := .int qP) (C := RK2) (T := TK2) (N := 5) hx hb hts iwK2 hown hK hP 7 rfl rfl 3 (by decide) (hts _ fl_Sr_37) (fun _ h9 => h9) rfl d_Sr_run_4 ?_
      refine lv_icmp_ge (tgt := 42) hx hb d_Sr_run_7 (by decide) (fun hc => ?_) (fun hc => ?_)
      · have hf := fn_t hc hf
        refine lv_aload_n hx hb d_Sr_run_42 rfl (lv_at hl 0 rfl) ?_
        refine lv_aload_n hx hb d_Sr_run_43 rfl (lv_at hl 1 rfl) ?_
        refine lv_aload_n hx hb d_Sr_run_44 rfl (lv_at hl 2 rfl) ?_
        refine lv_iconst (v := 0) hx hb d_Sr_run_45 (by decide) ?_
        refine lv_iconst (v := 0) hx hb d_Sr_run_46 (by decide) ?_
        obtain ⟨srVf_47, xS_47, xWf_47, hcl, hf⟩ := fn_e3 hf
        refine cv_WrV (rest := []) (wr := []) (w' := [(se, .inr (1, [.ref seO])), (seO, .inl (cK 0, 128, .inl seOf)), (sr, .inr (3, [.ref se, .ref srO, .ref srV])), (srO, .inl (cK 0, 4, .inl srOf)), (srV, .inl (cK 0, 4, .inl srVf_47)), (x, .inr (4, [.ref xW, .int xS_47])), (xW, .inl (cK 0, xM, .inl xWf_47)), (q, .inr (2, [.ref qI, .ref qL, .int qW, .int qP, .int qV])), (qI, .inl (cK 0, 9, .inl qIf)), (qL, .inl (cK 0, 3, .inl qLf))]) ⟨hx, hb, hml, hown, hts⟩ (c_Sr_extend l D cK se seO sr srO srV x xW q qI qL seOf srOf xM qW qP qV qIf qLf N 5 srVf xS xWf 0 0 srVf_47 xS_47 xWf_47 hcl) (cwV 4 hts (zz_V ml_Sr_45 im_Sr_extend se_Sr_extend in_Sr co_Sr_extend) rfl rfl rfl ⟨rfl, hd_Sr_extend⟩ ⟨Nat.le_of_ble_eq_true rfl, Nat.le_of_ble_eq_true rfl⟩) hK hP hD hS hA [0, 1, 2, 3, 4, 5, 6, 7, 8, 9] [] [0, 1, 2, 3, 4, 5, 6, 7, 8, 9] rfl (by decide) rfl (by decide) (by decide) rfl (by decide) 2 rfl rfl rfl rfl hl.1 rfl (Nat.le_of_ble_eq_true rfl) d_Sr_run_47 ⟨Nat.zero_le _, Nat.zero_le _⟩ (fun H locs hP hD hS => ?_)
        cases hf
        exact hret _ _ 50 _ hP hD hS d_Sr_run_50
      · have hf := fn_f hc hf
        refine lv_aload_n hx hb d_Sr_run_10 rfl (lv_at hl 0 rfl) ?_
        refine lv_aload_n hx hb d_Sr_run_11 rfl (lv_at hl 1 rfl) ?_
        refine lv_iload_n hx hb d_Sr_run_12 rfl (lv_at hl 3 rfl) ?_
        refine lv_iconst (v := 0) hx hb d_Sr_run_13 (by decide) ?_
        obtain ⟨r_14, hcl, hf⟩ := fn_e1 hf
        refine cv_RdI (rest := [.ref sr]) ⟨hx, hb, hml, hown, hts⟩ (c_Qu_itemAt l D cK q qI qL qW qP qV qIf v3 0 r_14 hcl) (cwV 2 hts (zz_V ml_Sr_29 im_Qu_itemAt se_Qu_itemAt in_Qu co_Qu_itemAt) rfl rfl rfl ⟨rfl, hd_Qu_itemAt⟩ ⟨Nat.le_of_ble_eq_true rfl, Nat.le_of_ble_eq_true rfl⟩) hK hP [7, 8] rfl 7 rfl rfl rfl rfl hl.1 rfl (Nat.le_of_ble_eq_true rfl) d_Sr_run_14 ⟨Nat.zero_le _, Nat.zero_le _⟩ ?_
        refine lv_aload_n hx hb d_Sr_run_17 rfl (lv_at hl 1 rfl) ?_
        refine lv_iload_n hx hb d_Sr_run_18 rfl (lv_at hl 3 rfl) ?_
        refine lv_iconst (v := 1) hx hb d_Sr_run_19 (by decide) ?_
        obtain ⟨r_20, hcl, hf⟩ := fn_e1 hf
        refine cv_RdI (rest := [.int r_14, .ref sr]) ⟨hx, hb, hml, hown, hts⟩ (c_Qu_itemAt l D cK q qI qL qW qP qV qIf v3 1 r_20 hcl) (cwV 2 hts (zz_V ml_Sr_29 im_Qu_itemAt se_Qu_itemAt in_Qu co_Qu_itemAt) rfl rfl rfl ⟨rfl, hd_Qu_itemAt⟩ ⟨Nat.le_of_ble_eq_true rfl, Nat.le_of_ble_eq_true rfl⟩) hK hP [7, 8] rfl 7 rfl rfl rfl rfl hl.1 rfl (Nat.le_of_ble_eq_true rfl) d_Sr_run_20 ⟨Nat.zero_le _, Nat.zero_le _⟩ ?_
        refine lv_aload_n hx hb d_Sr_run_23 rfl (lv_at hl 1 rfl) ?_
        refine lv_iload_n hx hb d_Sr_run_24 rfl (lv_at hl 3 rfl) ?_
        refine lv_iconst (v := 2) hx hb d_Sr_run_25 (by decide) ?_
        obtain ⟨r_26, hcl, hf⟩ := fn_e1 hf
        refine cv_RdI (rest := [.int r_20, .int r_14, .ref sr]) ⟨hx, hb, hml, hown, hts⟩ (c_Qu_itemAt l D cK q qI qL qW qP qV qIf v3 2 r_26 hcl) (cwV 2 hts (zz_V ml_Sr_29 im_Qu_itemAt se_Qu_itemAt in_Qu co_Qu_itemAt) rfl rfl rfl ⟨rfl, hd_Qu_itemAt⟩ ⟨Nat.le_of_ble_eq_true rfl, Nat.le_of_ble_eq_true rfl⟩) hK hP [7, 8] rfl 7 rfl rfl rfl rfl hl.1 rfl (Nat.le_of_ble_eq_true rfl) d_Sr_run_26 ⟨Nat.zero_le _, Nat.zero_le _⟩ ?_
        obtain ⟨r_29, srOf_29, hcl, hf⟩ := fn_e2 hf
        refine cv_WrI (rest := []) (wr := [(srV, .inl (cK 0, 4, .inl srVf)), (x, .inr (4, [.ref xW, .int xS])), (xW, .inl (cK 0, xM, .inl xWf)), (q, .inr (2, [.ref qI, .ref qL, .int qW, .int qP, .int qV])), (qI, .inl (cK 0, 9, .inl qIf)), (qL, .inl (cK 0, 3, .inl qLf))]) (w' := [(se, .inr (1, [.ref seO])), (seO, .inl (cK 0, 128, .inl seOf)), (sr, .inr (3, [.ref se, .ref srO, .ref srV])), (srO, .inl (cK 0, 4, .inl srOf_29)), (srV, .inl (cK 0, 4, .inl srVf)), (x, .inr (4, [.ref xW, .int xS])), (xW, .inl (cK 0, xM, .inl xWf)), (q, .inr (2, [.ref qI, .ref qL, .int qW, .int qP, .int qV])), (qI, .inl (cK 0, 9, .inl qIf)), (qL, .inl (cK 0, 3, .inl qLf))]) ⟨hx, hb, hml, hown, hts⟩ (c_Sr_narrow l D cK se seO sr srO srV seOf srOf N r_14 r_20 r_26 r_29 srOf_29 hcl) (cwV 3 hts (zz_V ml_Sr_41 im_Sr_narrow se_Sr_narrow in_Sr co_Sr_narrow) rfl rfl rfl ⟨rfl, hd_Sr_narrow⟩ ⟨Nat.le_of_ble_eq_true rfl, Nat.le_of_ble_eq_true rfl⟩) hK hP hD hS hA [0, 1, 2, 3] [4, 5, 6, 7, 8, 9] [6, 7, 8, 9, 0, 1, 2, 3, 4, 5] rfl (by decide) rfl (by decide) (by decide) rfl (by decide) 2 rfl rfl rfl rfl hl.1 rfl (Nat.le_of_ble_eq_true rfl) d_Sr_run_29 ⟨Nat.zero_le _, Nat.zero_le _⟩ (fun H locs hP hD hS => ?_)
        refine lv_if_ne (tgt := 36) hx hb d_Sr_run_32 (by decide) (fun hc => ?_) (fun hc => ?_)
        · have hf := fn_f hc hf
          refine lv_iinc (v := (v3 + 1)) (lv' := [(3, .int (v3 + 1)), (0, .ref sr), (1, .ref q), (2, .ref x)]) hx hb d_Sr_run_36 hl (k := 3) rfl rfl (by decide) rfl (fun ls hl => ?_)
          refine lv_goto (tgt := 2) hx hb d_Sr_run_39 (by decide) ?_
          exact ih_2 _ _ _ _ _ _ _ _ hf hP hD hS (lv_sub hl [1, 2, 3, 0] rfl)
        · have hf := fn_t hc hf
          cases hf
          exact hret _ _ 35 _ hP hD hS d_Sr_run_35
  unfold f_Sr_run at hf
  refine lv_iconst (v := 0) hx hb d_Sr_run_0 (by decide) ?_
  refine lv_istore_n (lv' := [(3, .int 0), (0, .ref sr), (1, .ref q), (2, .ref x)]) hx hb d_Sr_run_1 rfl hl (by decide) rfl (fun ls hl => ?_)
  exact J_2 _ _ _ _ _ _ _ _ _ hf hP hD hS (lv_sub hl [1, 2, 3, 0] rfl)

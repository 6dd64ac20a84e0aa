abbrev rm_M_isTriple : Room := { frames := 0, cells := 0, slots := 0, locals := 0 }
set_option maxHeartbeats 4000000 in
set_option maxRecDepth 100000 in
theorem c_M_isTriple (l : Launch) (D : va_G) (cK : Nat → ClassId)  (v0 : Int32) (v1 : Int32) (v2 : Int32) (r : Int32) (hf : f_M_isTriple v0 v1 v2 = some r) : RdI l y_M_isTriple w_M_isTriple rm_M_isTriple D zz_cl (mt_ty cK RK2) [.int v0, .int v1, .int v2] [] r := by
  refine mk_RdI (cc := b_M_isTriple) (maxL := 3) (ty := .boolean) (by decide +kernel) rfl (Nat.le_of_ble_eq_true rfl) ?_
  intro p e s m below meth c args Q ls hx hb hml hown hts hK hP hret hl
  have hl : lv_has ls 3 [(0, .int v0), (1, .int v1), (2, .int v2)] := hl
  unfold f_M_isTriple at hf
  refine lv_iload_n hx hb d_M_isTriple_0 rfl (lv_at hl 0 rfl) ?_
  refine lv_if_lt (tgt := 34) hx hb d_M_isTriple_1 (by decide) (fun hc => ?_) (fun hc => ?_)
  · have hf := fn_t hc hf
    refine lv_iconst (v := 0) hx hb d_M_isTriple_34 (by decide) ?_
    cases hf
    exact hret 35 _ rfl d_M_isTriple_35
  · have hf := fn_f hc hf
    refine lv_iload_n hx hb d_M_isTriple_4 rfl (lv_at hl 0 rfl) ?_
    refine lv_bipush (v := 16) hx hb d_M_isTriple_5 (by decide) ?_
    refine lv_icmp_ge (tgt := 34) hx hb d_M_isTriple_7 (by decide) (fun hc => ?_) (fun hc => ?_)
    · have hf := fn_t hc hf
      refine lv_iconst (v := 0) hx hb d_M_isTriple_34 (by decide) ?_
      cases hf
      exact hret 35 _ rfl d_M_isTriple_35
    · have hf := fn_f hc hf
      refine lv_iload_n hx hb d_M_isTriple_10 rfl (lv_at hl 1 rfl) ?_
      refine lv_if_lt (tgt := 34) hx hb d_M_isTriple_11 (by decide) (fun hc => ?_) (fun hc => ?_)
      · have hf := fn_t hc hf
        refine lv_iconst (v := 0) hx hb d_M_isTriple_34 (by decide) ?_
        cases hf
        exact hret 35 _ rfl d_M_isTriple_35
      · have hf := fn_f hc hf
        refine lv_iload_n hx hb d_M_isTriple_14 rfl (lv_at hl 1 rfl) ?_
        refine lv_bipush (v := 8) hx hb d_M_isTriple_15 (by decide) ?_
        refine lv_icmp_ge (tgt := 34) hx hb d_M_isTriple_17 (by decide) (fun hc => ?_) (fun hc => ?_)
        · have hf := fn_t hc hf
          refine lv_iconst (v := 0) hx hb d_M_isTriple_34 (by decide) ?_
          cases hf
          exact hret 35 _ rfl d_M_isTriple_35
        · have hf := fn_f hc hf
          refine lv_iload_n hx hb d_M_isTriple_20 rfl (lv_at hl 2 rfl) ?_
          refine lv_if_lt (tgt := 34) hx hb d_M_isTriple_21 (by decide) (fun hc => ?_) (fun hc => ?_)
          · have hf := fn_t hc hf
            refine lv_iconst (v := 0) hx hb d_M_isTriple_34 (by decide) ?_
            cases hf
            exact hret 35 _ rfl d_M_isTriple_35
          · have hf := fn_f hc hf
            refine lv_iload_n hx hb d_M_isTriple_24 rfl (lv_at hl 2 rfl) ?_
            refine lv_bipush (v := 16) hx hb d_M_isTriple_25 (by decide) ?_
            refine lv_icmp_ge (tgt := 34) hx hb d_M_isTriple_27 (by decide) (fun hc => ?_) (fun hc => ?_)
            · have hf := fn_t hc hf
              refine lv_iconst (v := 0) hx hb d_M_isTriple_34 (by decide) ?_
              cases hf
              exact hret 35 _ rfl d_M_isTriple_35
            · have hf := fn_f hc hf
              refine lv_iconst (v := 1) hx hb d_M_isTriple_30 (by decide) ?_
              refine lv_goto (tgt := 35) hx hb d_M_isTriple_31 (by decide) ?_
              cases hf
              exact hret 35 _ rfl d_M_isTriple_35
abbrev rm_M_triple : Room := { frames := 0, cells := 0, slots := 0, locals := 0 }
set_option maxHeartbeats 4000000 in
set_option maxRecDepth 100000 in
theorem c_M_triple (l : Launch) (D : va_G) (cK : Nat → ClassId)  (v0 : Int32) (v1 : Int32) (v2 : Int32) (r : Int32) (hf : f_M_triple v0 v1 v2 = some r) : RdI l y_M_triple w_M_triple rm_M_triple D zz_cl (mt_ty cK RK2) [.int v0, .int v1, .int v2] [] r := by
  refine mk_RdI (cc := b_M_triple) (maxL := 3) (ty := .int) (by decide +kernel) rfl (Nat.le_of_ble_eq_true rfl) ?_
  intro p e s m below meth c args Q ls hx hb hml hown hts hK hP hret hl
  have hl : lv_has ls 3 [(0, .int v0), (1, .int v1), (2, .int v2)] := hl
  unfold f_M_triple at hf
  refine lv_sipush (v := 128) hx hb d_M_triple_0 (by decide) ?_
  refine lv_iload_n hx hb d_M_triple_3 rfl (lv_at hl 0 rfl) ?_
  refine lv_imul hx hb d_M_triple_4 ?_
  refine lv_bipush (v := 16) hx hb d_M_triple_5 (by decide) ?_
  refine lv_iload_n hx hb d_M_triple_7 rfl (lv_at hl 1 rfl) ?_
  refine lv_imul hx hb d_M_triple_8 ?_
  refine lv_iadd hx hb d_M_triple_9 ?_
  refine lv_iload_n hx hb d_M_triple_10 rfl (lv_at hl 2 rfl) ?_
  refine lv_iadd hx hb d_M_triple_11 ?_
  cases hf
  exact hret 12 _ rfl d_M_triple_12
abbrev rm_M_isNumber : Room := { frames := 0, cells := 0, slots := 0, locals := 0 }
set_option maxHeartbeats 4000000 in
set_option maxRecDepth 100000 in
theorem c_M_isNumber (l : Launch) (D : va_G) (cK : Nat → ClassId) (md mWh mTr mCo mWi mPc mIt mRo mKn mNe mSe mVa mLa : Nat) (mdN : Int32) (mdL : Int32) (mdS : Int32) (mdQ : Int32) (v1 : Int32) (r : Int32) (hf : f_M_isNumber mdL v1 = some r) : RdI l y_M_isNumber w_M_isNumber rm_M_isNumber D zz_cl (mt_ty cK RK2) [.ref md, .int v1] [(md, .inr (6, [.int mdN, .int mdL, .ref mWh, .ref mTr, .ref mCo, .int mdS, .ref mWi, .ref mPc, .ref mIt, .int mdQ, .ref mRo, .ref mKn, .ref mNe, .ref mSe, .ref mVa, .ref mLa]))] r := by
  refine mk_RdI (cc := b_M_isNumber) (maxL := 2) (ty := .boolean) (by decide +kernel) rfl (Nat.le_of_ble_eq_true rfl) ?_
  intro p e s m below meth c args Q ls hx hb hml hown hts hK hP hret hl
  have hl : lv_has ls 2 [(0, .ref md), (1, .int v1)] := hl
  unfold f_M_isNumber at hf
  refine lv_iload_n hx hb d_M_isNumber_0 rfl (lv_at hl 1 rfl) ?_
  refine lv_if_lt (tgt := 16) hx hb d_M_isNumber_1 (by decide) (fun hc => ?_) (fun hc => ?_)
  · have hf := fn_t hc hf
    refine lv_iconst (v := 0) hx hb d_M_isNumber_16 (by decide) ?_
    cases hf
    exact hret 17 _ rfl d_M_isNumber_17
  · have hf := fn_f hc hf
    refine lv_iload_n hx hb d_M_isNumber_4 rfl (lv_at hl 1 rfl) ?_
    refine lv_aload_n hx hb d_M_isNumber_5 rfl (lv_at hl 0 rfl) ?_
    refine va_get (D := D) (ci := 6) (v := .int mdL) (C := RK6) (T := TK6) (N := 16) hx hb hts iwK6 hown hK hP 0 rfl rfl 1 (by decide) (hts _ fl_M_53) (fun _ h9 => h9) rfl d_M_isNumber_6 ?_
    refine lv_icmp_gt (tgt := 16) hx hb d_M_isNumber_9 (by decide) (fun hc => ?_) (fun hc => ?_)
    · have hf := fn_t hc hf
      refine lv_iconst (v := 0) hx hb d_M_isNumber_16 (by decide) ?_
      cases hf
      exact hret 17 _ rfl d_M_isNumber_17
    · have hf := fn_f hc hf
      refine lv_iconst (v := 1) hx hb d_M_isNumber_12 (by decide) ?_
      refine lv_goto (tgt := 17) hx hb d_M_isNumber_13 (by decide) ?_
      cases hf
      exact hret 17 _ rfl d_M_isNumber_17
abbrev rm_M_isQuestion : Room := { frames := 0, cells := 0, slots := 0, locals := 0 }
set_option maxHeartbeats 4000000 in
set_option maxRecDepth 100000 in
theorem c_M_isQuestion (l : Launch) (D : va_G) (cK : Nat → ClassId) (md mWh mTr mCo mWi mPc mIt mRo mKn mNe mSe mVa mLa : Nat) (mdN : Int32) (mdL : Int32) (mdS : Int32) (mdQ : Int32) (v1 : Int32) (r : Int32) (hf : f_M_isQuestion mdQ v1 = some r) : RdI l y_M_isQuestion w_M_isQuestion rm_M_isQuestion D zz_cl (mt_ty cK RK2) [.ref md, .int v1] [(md, .inr (6, [.int mdN, .int mdL, .ref mWh, .ref mTr, .ref mCo, .int mdS, .ref mWi, .ref mPc, .ref mIt, .int mdQ, .ref mRo, .ref mKn, .ref mNe, .ref mSe, .ref mVa, .ref mLa]))] r := by
  refine mk_RdI (cc := b_M_isQuestion) (maxL := 2) (ty := .boolean) (by decide +kernel) rfl (Nat.le_of_ble_eq_true rfl) ?_
  intro p e s m below meth c args Q ls hx hb hml hown hts hK hP hret hl
  have hl : lv_has ls 2 [(0, .ref md), (1, .int v1)] := hl
  unfold f_M_isQuestion at hf
  refine lv_iload_n hx hb d_M_isQuestion_0 rfl (lv_at hl 1 rfl) ?_
  refine lv_if_lt (tgt := 16) hx hb d_M_isQuestion_1 (by decide) (fun hc => ?_) (fun hc => ?_)
  · have hf := fn_t hc hf
    refine lv_iconst (v := 0) hx hb d_M_isQuestion_16 (by decide) ?_
    cases hf
    exact hret 17 _ rfl d_M_isQuestion_17
  · have hf := fn_f hc hf
    refine lv_iload_n hx hb d_M_isQuestion_4 rfl (lv_at hl 1 rfl) ?_
    refine lv_aload_n hx hb d_M_isQuestion_5 rfl (lv_at hl 0 rfl) ?_
    refine va_get (D := D) (ci := 6) (v := .int mdQ) (C := RK6) (T := TK6) (N := 16) hx hb hts iwK6 hown hK hP 0 rfl rfl 9 (by decide) (hts _ fl_M_56) (fun _ h9 => h9) rfl d_M_isQuestion_6 ?_
    refine lv_icmp_ge (tgt := 16) hx hb d_M_isQuestion_9 (by decide) (fun hc => ?_) (fun hc => ?_)
    · have hf := fn_t hc hf
      refine lv_iconst (v := 0) hx hb d_M_isQuestion_16 (by decide) ?_
      cases hf
      exact hret 17 _ rfl d_M_isQuestion_17
    · have hf := fn_f hc hf
      refine lv_iconst (v := 1) hx hb d_M_isQuestion_12 (by decide) ?_
      refine lv_goto (tgt := 17) hx hb d_M_isQuestion_13 (by decide) ?_
      cases hf
      exact hret 17 _ rfl d_M_isQuestion_17
abbrev rm_M_last : Room := { frames := 0, cells := 0, slots := 0, locals := 0 }
set_option maxHeartbeats 4000000 in
set_option maxRecDepth 100000 in
theorem c_M_last (l : Launch) (D : va_G) (cK : Nat → ClassId) (md mWh mTr mCo mWi mPc mIt mRo mKn mNe mSe mVa mLa : Nat) (mdN : Int32) (mdL : Int32) (mdS : Int32) (mdQ : Int32) (mWhf : Nat → Int32) (mTrf : Nat → Int32) (N : Nat) (v1 : Int32) (v2 : Int32) (r : Int32) (hf : f_M_last N mdS mWhf mTrf v1 v2 = some r) : RdI l y_M_last w_M_last rm_M_last D zz_cl (mt_ty cK RK2) [.ref md, .int v1, .int v2] [(md, .inr (6, [.int mdN, .int mdL, .ref mWh, .ref mTr, .ref mCo, .int mdS, .ref mWi, .ref mPc, .ref mIt, .int mdQ, .ref mRo, .ref mKn, .ref mNe, .ref mSe, .ref mVa, .ref mLa])), (mWh, .inl (cK 0, 400, .inl mWhf)), (mTr, .inl (cK 0, 400, .inl mTrf))] r := by
  refine mk_RdI (cc := b_M_last) (maxL := 5) (ty := .int) (by decide +kernel) rfl (Nat.le_of_ble_eq_true rfl) ?_
  intro p e s m below meth c args Q ls hx hb hml hown hts hK hP hret hl
  have hl : lv_has ls 5 [(0, .ref md), (1, .int v1), (2, .int v2)] := hl
  have J_5 : ∀ (v1 : Int32) (v2 : Int32) (n_5 : Nat)  (v3 : Int32) (v4 : Int32) (ls : Array Slot), f_M_last_5 N mdS mWhf mTrf v1 v2 n_5 v3 v4 = some r → lv_has ls 5 [(0, .ref md), (1, .int v1), (2, .int v2), (3, .int v3), (4, .int v4)] → W p l e rm_M_last s m args below meth c s.heap [] 0 0 Q (F0 m 5 ls []) := by
    intro v1 v2 n_5
    induction n_5 with
    | zero =>
      intro v3 v4 ls hf hl
      exact fn_0 hf
    | succ n_5 ih_5 =>
      intro v3 v4 ls hf hl
      rw [f_M_last_5.eq_2] at hf
      refine lv_iload hx hb d_M_last_5 (lv_at hl 4 rfl) ?_
      refine lv_aload_n hx hb d_M_last_7 rfl (lv_at hl 0 rfl) ?_
      refine va_get (D := D) (ci := 6) (v := .int mdS) (C := RK6) (T := TK6) (N := 16) hx hb hts iwK6 hown hK hP 0 rfl rfl 5 (by decide) (hts _ fl_M_59) (fun _ h9 => h9) rfl d_M_last_8 ?_
      refine lv_icmp_ge (tgt := 65) hx hb d_M_last_11 (by decide) (fun hc => ?_) (fun hc => ?_)
      · have hf := fn_t hc hf
        refine lv_iload_n hx hb d_M_last_65 rfl (lv_at hl 3 rfl) ?_
        cases hf
        exact hret 66 _ rfl d_M_last_66
      · have hf := fn_f hc hf
        refine lv_aload_n hx hb d_M_last_14 rfl (lv_at hl 0 rfl) ?_
        refine va_get (D := D) (ci := 6) (v := .ref mTr) (C := RK6) (T := TK6) (N := 16) hx hb hts iwK6 hown hK hP 0 rfl rfl 3 (by decide) (hts _ fl_M_13) (fun _ h9 => h9) rfl d_M_last_15 ?_
        refine lv_iload hx hb d_M_last_18 (lv_at hl 4 rfl) ?_
        have hg := fn_g hf
        have hf := fn_t hg hf
        refine va_iald hx hb hK hP 2 0 rfl rfl (fn_v hg) d_M_last_20 ?_
        refine lv_iload_n hx hb d_M_last_21 rfl (lv_at hl 2 rfl) ?_
        refine lv_icmp_ne (tgt := 59) hx hb d_M_last_22 (by decide) (fun hc => ?_) (fun hc => ?_)
        · have hf := fn_f hc hf
          refine lv_iinc (v := (v4 + 1)) (lv' := [(4, .int (v4 + 1)), (0, .ref md), (1, .int v1), (2, .int v2), (3, .int v3)]) hx hb d_M_last_59 hl (k := 4) rfl rfl (by decide) rfl (fun ls hl => ?_)
          refine lv_goto (tgt := 5) hx hb d_M_last_62 (by decide) ?_
          exact ih_5 _ _ _ hf (lv_sub hl [1, 2, 3, 4, 0] rfl)
        · have hf := fn_t hc hf
          refine lv_aload_n hx hb d_M_last_25 rfl (lv_at hl 0 rfl) ?_
          refine va_get (D := D) (ci := 6) (v := .ref mWh) (C := RK6) (T := TK6) (N := 16) hx hb hts iwK6 hown hK hP 0 rfl rfl 2 (by decide) (hts _ fl_M_7) (fun _ h9 => h9) rfl d_M_last_26 ?_
          refine lv_iload hx hb d_M_last_29 (lv_at hl 4 rfl) ?_
          have hg := fn_g hf
          have hf := fn_t hg hf
          refine va_iald hx hb hK hP 1 0 rfl rfl (fn_v hg) d_M_last_31 ?_
          refine lv_iload_n hx hb d_M_last_32 rfl (lv_at hl 1 rfl) ?_
          refine lv_icmp_gt (tgt := 59) hx hb d_M_last_33 (by decide) (fun hc => ?_) (fun hc => ?_)
          · have hf := fn_t hc hf
            refine lv_iinc (v := (v4 + 1)) (lv' := [(4, .int (v4 + 1)), (0, .ref md), (1, .int v1), (2, .int v2), (3, .int v3)]) hx hb d_M_last_59 hl (k := 4) rfl rfl (by decide) rfl (fun ls hl => ?_)
            refine lv_goto (tgt := 5) hx hb d_M_last_62 (by decide) ?_
            exact ih_5 _ _ _ hf (lv_sub hl [1, 2, 3, 4, 0] rfl)
          · have hf := fn_f hc hf
            refine lv_iload_n hx hb d_M_last_36 rfl (lv_at hl 3 rfl) ?_
            refine lv_if_lt (tgt := 56) hx hb d_M_last_37 (by decide) (fun hc => ?_) (fun hc => ?_)
            · have hf := fn_t hc hf
              refine lv_iload hx hb d_M_last_56 (lv_at hl 4 rfl) ?_
              refine lv_istore_n (lv' := [(3, .int v4), (0, .ref md), (1, .int v1), (2, .int v2), (4, .int v4)]) hx hb d_M_last_58 rfl hl (by decide) rfl (fun ls hl => ?_)
              refine lv_iinc (v := (v4 + 1)) (lv' := [(4, .int (v4 + 1)), (3, .int v4), (0, .ref md), (1, .int v1), (2, .int v2)]) hx hb d_M_last_59 hl (k := 4) rfl rfl (by decide) rfl (fun ls hl => ?_)
              refine lv_goto (tgt := 5) hx hb d_M_last_62 (by decide) ?_
              exact ih_5 _ _ _ hf (lv_sub hl [2, 3, 4, 1, 0] rfl)
            · have hf := fn_f hc hf
              refine lv_aload_n hx hb d_M_last_40 rfl (lv_at hl 0 rfl) ?_
              refine va_get (D := D) (ci := 6) (v := .ref mWh) (C := RK6) (T := TK6) (N := 16) hx hb hts iwK6 hown hK hP 0 rfl rfl 2 (by decide) (hts _ fl_M_7) (fun _ h9 => h9) rfl d_M_last_41 ?_
              refine lv_iload hx hb d_M_last_44 (lv_at hl 4 rfl) ?_
              have hg := fn_g hf
              have hf := fn_t hg hf
              refine va_iald hx hb hK hP 1 0 rfl rfl (fn_v hg) d_M_last_46 ?_
              refine lv_aload_n hx hb d_M_last_47 rfl (lv_at hl 0 rfl) ?_
              refine va_get (D := D) (ci := 6) (v := .ref mWh) (C := RK6) (T := TK6) (N := 16) hx hb hts iwK6 hown hK hP 0 rfl rfl 2 (by decide) (hts _ fl_M_7) (fun _ h9 => h9) rfl d_M_last_48 ?_
              refine lv_iload_n hx hb d_M_last_51 rfl (lv_at hl 3 rfl) ?_
              have hg := fn_g hf
              have hf := fn_t hg hf
              refine va_iald hx hb hK hP 1 0 rfl rfl (fn_v hg) d_M_last_52 ?_
              refine lv_icmp_lt (tgt := 59) hx hb d_M_last_53 (by decide) (fun hc => ?_) (fun hc => ?_)
              · have hf := fn_t hc hf
                refine lv_iinc (v := (v4 + 1)) (lv' := [(4, .int (v4 + 1)), (0, .ref md), (1, .int v1), (2, .int v2), (3, .int v3)]) hx hb d_M_last_59 hl (k := 4) rfl rfl (by decide) rfl (fun ls hl => ?_)
                refine lv_goto (tgt := 5) hx hb d_M_last_62 (by decide) ?_
                exact ih_5 _ _ _ hf (lv_sub hl [1, 2, 3, 4, 0] rfl)
              · have hf := fn_f hc hf
                refine lv_iload hx hb d_M_last_56 (lv_at hl 4 rfl) ?_
                refine lv_istore_n (lv' := [(3, .int v4), (0, .ref md), (1, .int v1), (2, .int v2), (4, .int v4)]) hx hb d_M_last_58 rfl hl (by decide) rfl (fun ls hl => ?_)
                refine lv_iinc (v := (v4 + 1)) (lv' := [(4, .int (v4 + 1)), (3, .int v4), (0, .ref md), (1, .int v1), (2, .int v2)]) hx hb d_M_last_59 hl (k := 4) rfl rfl (by decide) rfl (fun ls hl => ?_)
                refine lv_goto (tgt := 5) hx hb d_M_last_62 (by decide) ?_
                exact ih_5 _ _ _ hf (lv_sub hl [2, 3, 4, 1, 0] rfl)
  unfold f_M_last at hf
  refine lv_iconst (v := (-1)) hx hb d_M_last_0 (by decide) ?_
  refine lv_istore_n (lv' := [(3, .int (-1)), (0, .ref md), (1, .int v1), (2, .int v2)]) hx hb d_M_last_1 rfl hl (by decide) rfl (fun ls hl => ?_)
  refine lv_iconst (v := 0) hx hb d_M_last_2 (by decide) ?_
  refine lv_istore (lv' := [(4, .int 0), (3, .int (-1)), (0, .ref md), (1, .int v1), (2, .int v2)]) hx hb d_M_last_3 hl (by decide) rfl (fun ls hl => ?_)
  exact J_5 _ _ _ _ _ _ hf (lv_sub hl [2, 3, 4, 1, 0] rfl)
abbrev rm_M_isThere : Room := { frames := 1, cells := 0, slots := 0, locals := 24 }
set_option maxHeartbeats 4000000 in
set_option maxRecDepth 100000 in
theorem c_M_isThere (l : Launch) (D : va_G) (cK : Nat → ClassId) (md mWh mTr mCo mWi mPc mIt mRo mKn mNe mSe mVa mLa : Nat) (mdN : Int32) (mdL : Int32) (mdS : Int32) (mdQ : Int32) (mWhf : Nat → Int32) (mTrf : Nat → Int32) (mCof : Nat → Int32) (N : Nat) (v1 : Int32) (v2 : Int32) (r : Int32) (hf : f_M_isThere N mdS mWhf mTrf mCof v1 v2 = some r) : RdI l y_M_isThere w_M_isThere rm_M_isThere D zz_cl (mt_ty cK RK2) [.ref md, .int v1, .int v2] [(md, .inr (6, [.int mdN, .int mdL, .ref mWh, .ref mTr, .ref mCo, .int mdS, .ref mWi, .ref mPc, .ref mIt, .int mdQ, .ref mRo, .ref mKn, .ref mNe, .ref mSe, .ref mVa, .ref mLa])), (mWh, .inl (cK 0, 400, .inl mWhf)), (mTr, .inl (cK 0, 400, .inl mTrf)), (mCo, .inl (cK 1, 400, .inl mCof))] r := by
  refine mk_RdI (cc := b_M_isThere) (maxL := 4) (ty := .boolean) (by decide +kernel) rfl (Nat.le_of_ble_eq_true rfl) ?_
  intro p e s m below meth c args Q ls hx hb hml hown hts hK hP hret hl
  have hl : lv_has ls 4 [(0, .ref md), (1, .int v1), (2, .int v2)] := hl
  unfold f_M_isThere at hf
  refine lv_aload_n hx hb d_M_isThere_0 rfl (lv_at hl 0 rfl) ?_
  refine lv_iload_n hx hb d_M_isThere_1 rfl (lv_at hl 1 rfl) ?_
  refine lv_iload_n hx hb d_M_isThere_2 rfl (lv_at hl 2 rfl) ?_
  obtain ⟨r_3, hcl, hf⟩ := fn_e1 hf
  refine cv_RdI (rest := []) ⟨hx, hb, hml, hown, hts⟩ (c_M_last l D cK md mWh mTr mCo mWi mPc mIt mRo mKn mNe mSe mVa mLa mdN mdL mdS mdQ mWhf mTrf N v1 v2 r_3 hcl) (cwV 2 hts (zz_V ml_M_62 im_M_last se_M_last in_M co_M_last) rfl rfl rfl ⟨rfl, hd_M_last⟩ ⟨Nat.le_of_ble_eq_true rfl, Nat.le_of_ble_eq_true rfl⟩) hK hP [0, 1, 2] rfl 0 rfl rfl rfl rfl hl.1 rfl (Nat.le_of_ble_eq_true rfl) d_M_isThere_3 ⟨Nat.zero_le _, Nat.zero_le _⟩ ?_
  refine lv_istore_n (lv' := [(3, .int r_3), (0, .ref md), (1, .int v1), (2, .int v2)]) hx hb d_M_isThere_6 rfl hl (by decide) rfl (fun ls hl => ?_)
  refine lv_iload_n hx hb d_M_isThere_7 rfl (lv_at hl 0 rfl) ?_
  refine lv_if_lt (tgt := 24) hx hb d_M_isThere_8 (by decide) (fun hc => ?_) (fun hc => ?_)
  · have hf := fn_t hc hf
    refine lv_iconst (v := 0) hx hb d_M_isThere_24 (by decide) ?_
    cases hf
    exact hret 25 _ rfl d_M_isThere_25
  · have hf := fn_f hc hf
    refine lv_aload_n hx hb d_M_isThere_11 rfl (lv_at hl 1 rfl) ?_
    refine va_get (D := D) (ci := 6) (v := .ref mCo) (C := RK6) (T := TK6) (N := 16) hx hb hts iwK6 hown hK hP 0 rfl rfl 4 (by decide) (hts _ fl_M_16) (fun _ h9 => h9) rfl d_M_isThere_12 ?_
    refine lv_iload_n hx hb d_M_isThere_15 rfl (lv_at hl 0 rfl) ?_
    have hg := fn_g hf
    have hf := fn_t hg hf
    refine va_zald hx hb hK hP 3 1 rfl rfl (fn_v hg) d_M_isThere_16 ?_
    refine lv_if_eq (tgt := 24) hx hb d_M_isThere_17 (by decide) (fun hc => ?_) (fun hc => ?_)
    · have hf := fn_t hc hf
      refine lv_iconst (v := 0) hx hb d_M_isThere_24 (by decide) ?_
      cases hf
      exact hret 25 _ rfl d_M_isThere_25
    · have hf := fn_f hc hf
      refine lv_iconst (v := 1) hx hb d_M_isThere_20 (by decide) ?_
      refine lv_goto (tgt := 25) hx hb d_M_isThere_21 (by decide) ?_
      cases hf
      exact hret 25 _ rfl d_M_isThere_25
abbrev rm_M_say : Room := { frames := 0, cells := 0, slots := 0, locals := 0 }
set_option maxHeartbeats 4000000 in
set_option maxRecDepth 100000 in
theorem c_M_say (l : Launch) (D : va_G) (cK : Nat → ClassId) (md mWh mTr mCo mWi mPc mIt mRo mKn mNe mSe mVa mLa : Nat) (mdN : Int32) (mdL : Int32) (mdS : Int32) (mdQ : Int32) (mWhf : Nat → Int32) (mTrf : Nat → Int32) (mCof : Nat → Int32) (v1 : Int32) (v2 : Int32) (v3 : Int32) (o_mdS : Int32) (o_mWhf : Nat → Int32) (o_mTrf : Nat → Int32) (o_mCof : Nat → Int32) (hf : f_M_say mdS mWhf mTrf mCof v1 v2 v3 = some (o_mdS, o_mWhf, o_mTrf, o_mCof)) : WrV l y_M_say w_M_say rm_M_say D zz_cl (mt_ty cK RK2) [.ref md, .int v1, .int v2, .int v3] [(md, .inr (6, [.int mdN, .int mdL, .ref mWh, .ref mTr, .ref mCo, .int mdS, .ref mWi, .ref mPc, .ref mIt, .int mdQ, .ref mRo, .ref mKn, .ref mNe, .ref mSe, .ref mVa, .ref mLa])), (mWh, .inl (cK 0, 400, .inl mWhf)), (mTr, .inl (cK 0, 400, .inl mTrf)), (mCo, .inl (cK 1, 400, .inl mCof))] [(md, .inr (6, [.int mdN, .int mdL, .ref mWh, .ref mTr, .ref mCo, .int o_mdS, .ref mWi, .ref mPc, .ref mIt, .int mdQ, .ref mRo, .ref mKn, .ref mNe, .ref mSe, .ref mVa, .ref mLa])), (mWh, .inl (cK 0, 400, .inl o_mWhf)), (mTr, .inl (cK 0, 400, .inl o_mTrf)), (mCo, .inl (cK 1, 400, .inl o_mCof))] := by
  refine mk_WrV (cc := b_M_say) (maxL := 4) (by decide +kernel) rfl (Nat.le_of_ble_eq_true rfl) ?_
  intro p e s m below meth c args Q A ls hx hb hml hown hts hA hK hP hD hret hl
  have hS : va_S A s.heap s.heap [] := va_S.rf
  have hl : lv_has ls 4 [(0, .ref md), (1, .int v1), (2, .int v2), (3, .int v3)] := hl
  unfold f_M_say at hf
  refine lv_aload_n hx hb d_M_say_0 rfl (lv_at hl 0 rfl) ?_
  refine va_get (D := D) (ci := 6) (v := .ref mWh) (C := RK6) (T := TK6) (N := 16) hx hb hts iwK6 hown hK hP 0 rfl rfl 2 (by decide) (hts _ fl_M_7) (fun _ h9 => h9) rfl d_M_say_1 ?_
  refine lv_aload_n hx hb d_M_say_4 rfl (lv_at hl 0 rfl) ?_
  refine va_get (D := D) (ci := 6) (v := .int mdS) (C := RK6) (T := TK6) (N := 16) hx hb hts iwK6 hown hK hP 0 rfl rfl 5 (by decide) (hts _ fl_M_59) (fun _ h9 => h9) rfl d_M_say_5 ?_
  refine lv_iload_n hx hb d_M_say_8 rfl (lv_at hl 1 rfl) ?_
  have hg := fn_g hf
  have hf := fn_t hg hf
  refine va_iast hx hb hK hP hD hS 1 0 rfl rfl (fn_v hg) d_M_say_9 (fun H locs hP hD hS => ?_)
  have hP : va_P D zz_cl [(md, .inr (6, [.int mdN, .int mdL, .ref mWh, .ref mTr, .ref mCo, .int mdS, .ref mWi, .ref mPc, .ref mIt, .int mdQ, .ref mRo, .ref mKn, .ref mNe, .ref mSe, .ref mVa, .ref mLa])), (mWh, .inl (cK 0, 400, .inl (upd mWhf (Int32.toNatClampNeg mdS) v1))), (mTr, .inl (cK 0, 400, .inl mTrf)), (mCo, .inl (cK 1, 400, .inl mCof))] H := hP
  have hD : va_D A [(md, .inr (6, [.int mdN, .int mdL, .ref mWh, .ref mTr, .ref mCo, .int mdS, .ref mWi, .ref mPc, .ref mIt, .int mdQ, .ref mRo, .ref mKn, .ref mNe, .ref mSe, .ref mVa, .ref mLa])), (mWh, .inl (cK 0, 400, .inl (upd mWhf (Int32.toNatClampNeg mdS) v1))), (mTr, .inl (cK 0, 400, .inl mTrf)), (mCo, .inl (cK 1, 400, .inl mCof))] := hD
  refine lv_aload_n hx hb d_M_say_10 rfl (lv_at hl 0 rfl) ?_
  refine va_get (D := D) (ci := 6) (v := .ref mTr) (C := RK6) (T := TK6) (N := 16) hx hb hts iwK6 hown hK hP 0 rfl rfl 3 (by decide) (hts _ fl_M_13) (fun _ h9 => h9) rfl d_M_say_11 ?_
  refine lv_aload_n hx hb d_M_say_14 rfl (lv_at hl 0 rfl) ?_
  refine va_get (D := D) (ci := 6) (v := .int mdS) (C := RK6) (T := TK6) (N := 16) hx hb hts iwK6 hown hK hP 0 rfl rfl 5 (by decide) (hts _ fl_M_59) (fun _ h9 => h9) rfl d_M_say_15 ?_
  refine lv_iload_n hx hb d_M_say_18 rfl (lv_at hl 2 rfl) ?_
  have hg := fn_g hf
  have hf := fn_t hg hf
  refine va_iast hx hb hK hP hD hS 2 0 rfl rfl (fn_v hg) d_M_say_19 (fun H locs hP hD hS => ?_)
  have hP : va_P D zz_cl [(md, .inr (6, [.int mdN, .int mdL, .ref mWh, .ref mTr, .ref mCo, .int mdS, .ref mWi, .ref mPc, .ref mIt, .int mdQ, .ref mRo, .ref mKn, .ref mNe, .ref mSe, .ref mVa, .ref mLa])), (mWh, .inl (cK 0, 400, .inl (upd mWhf (Int32.toNatClampNeg mdS) v1))), (mTr, .inl (cK 0, 400, .inl (upd mTrf (Int32.toNatClampNeg mdS) v2))), (mCo, .inl (cK 1, 400, .inl mCof))] H := hP
  have hD : va_D A [(md, .inr (6, [.int mdN, .int mdL, .ref mWh, .ref mTr, .ref mCo, .int mdS, .ref mWi, .ref mPc, .ref mIt, .int mdQ, .ref mRo, .ref mKn, .ref mNe, .ref mSe, .ref mVa, .ref mLa])), (mWh, .inl (cK 0, 400, .inl (upd mWhf (Int32.toNatClampNeg mdS) v1))), (mTr, .inl (cK 0, 400, .inl (upd mTrf (Int32.toNatClampNeg mdS) v2))), (mCo, .inl (cK 1, 400, .inl mCof))] := hD
  refine lv_aload_n hx hb d_M_say_20 rfl (lv_at hl 0 rfl) ?_
  refine va_get (D := D) (ci := 6) (v := .ref mCo) (C := RK6) (T := TK6) (N := 16) hx hb hts iwK6 hown hK hP 0 rfl rfl 4 (by decide) (hts _ fl_M_16) (fun _ h9 => h9) rfl d_M_say_21 ?_
  refine lv_aload_n hx hb d_M_say_24 rfl (lv_at hl 0 rfl) ?_
  refine va_get (D := D) (ci := 6) (v := .int mdS) (C := RK6) (T := TK6) (N := 16) hx hb hts iwK6 hown hK hP 0 rfl rfl 5 (by decide) (hts _ fl_M_59) (fun _ h9 => h9) rfl d_M_say_25 ?_
  refine lv_iload_n hx hb d_M_say_28 rfl (lv_at hl 3 rfl) ?_
  have hg := fn_g hf
  have hf := fn_t hg hf
  refine va_zast hx hb hK hP hD hS 3 1 rfl rfl (fn_v hg) d_M_say_29 (fun H locs hP hD hS => ?_)
  have hP : va_P D zz_cl [(md, .inr (6, [.int mdN, .int mdL, .ref mWh, .ref mTr, .ref mCo, .int mdS, .ref mWi, .ref mPc, .ref mIt, .int mdQ, .ref mRo, .ref mKn, .ref mNe, .ref mSe, .ref mVa, .ref mLa])), (mWh, .inl (cK 0, 400, .inl (upd mWhf (Int32.toNatClampNeg mdS) v1))), (mTr, .inl (cK 0, 400, .inl (upd mTrf (Int32.toNatClampNeg mdS) v2))), (mCo, .inl (cK 1, 400, .inl (upd mCof (Int32.toNatClampNeg mdS) (vp_nar .boolean v3))))] H := hP
  have hD : va_D A [(md, .inr (6, [.int mdN, .int mdL, .ref mWh, .ref mTr, .ref mCo, .int mdS, .ref mWi, .ref mPc, .ref mIt, .int mdQ, .ref mRo, .ref mKn, .ref mNe, .ref mSe, .ref mVa, .ref mLa])), (mWh, .inl (cK 0, 400, .inl (upd mWhf (Int32.toNatClampNeg mdS) v1))), (mTr, .inl (cK 0, 400, .inl (upd mTrf (Int32.toNatClampNeg mdS) v2))), (mCo, .inl (cK 1, 400, .inl (upd mCof (Int32.toNatClampNeg mdS) (vp_nar .boolean v3))))] := hD
  refine lv_aload_n hx hb d_M_say_30 rfl (lv_at hl 0 rfl) ?_
  refine lv_dup hx hb d_M_say_31 rfl ?_
  refine va_get (D := D) (ci := 6) (v := .int mdS) (C := RK6) (T := TK6) (N := 16) hx hb hts iwK6 hown hK hP 0 rfl rfl 5 (by decide) (hts _ fl_M_59) (fun _ h9 => h9) rfl d_M_say_32 ?_
  refine lv_iconst (v := 1) hx hb d_M_say_35 (by decide) ?_
  refine lv_iadd hx hb d_M_say_36 ?_
  refine va_put (D := D) (ci := 6) (v := .int (mdS + 1)) (ty := .int) (C := RK6) (T := TK6) (N := 16) hx hb hts iwK6 tyK6 tyK6_ok nmK6 hown hK hP hD hS 0 rfl rfl 5 (by decide) (hts _ fl_M_59) (fun _ h9 => h9) rfl (by decide +kernel) rfl rfl (Nat.le_of_ble_eq_true rfl) d_M_say_37 (fun H locs hP hD hS => ?_)
  have hP : va_P D zz_cl [(md, .inr (6, [.int mdN, .int mdL, .ref mWh, .ref mTr, .ref mCo, .int (mdS + 1), .ref mWi, .ref mPc, .ref mIt, .int mdQ, .ref mRo, .ref mKn, .ref mNe, .ref mSe, .ref mVa, .ref mLa])), (mWh, .inl (cK 0, 400, .inl (upd mWhf (Int32.toNatClampNeg mdS) v1))), (mTr, .inl (cK 0, 400, .inl (upd mTrf (Int32.toNatClampNeg mdS) v2))), (mCo, .inl (cK 1, 400, .inl (upd mCof (Int32.toNatClampNeg mdS) (vp_nar .boolean v3))))] H := hP
  have hD : va_D A [(md, .inr (6, [.int mdN, .int mdL, .ref mWh, .ref mTr, .ref mCo, .int (mdS + 1), .ref mWi, .ref mPc, .ref mIt, .int mdQ, .ref mRo, .ref mKn, .ref mNe, .ref mSe, .ref mVa, .ref mLa])), (mWh, .inl (cK 0, 400, .inl (upd mWhf (Int32.toNatClampNeg mdS) v1))), (mTr, .inl (cK 0, 400, .inl (upd mTrf (Int32.toNatClampNeg mdS) v2))), (mCo, .inl (cK 1, 400, .inl (upd mCof (Int32.toNatClampNeg mdS) (vp_nar .boolean v3))))] := hD
  cases hf
  exact hret _ _ 40 _ hP hD hS d_M_say_40
abbrev rm_M_forget : Room := { frames := 0, cells := 0, slots := 0, locals := 0 }
set_option maxHeartbeats 4000000 in
set_option maxRecDepth 100000 in
theorem c_M_forget (l : Launch) (D : va_G) (cK : Nat → ClassId) (md mWh mTr mCo mWi mPc mIt mRo mKn mNe mSe mVa mLa : Nat) (mdN : Int32) (mdL : Int32) (mdS : Int32) (mdQ : Int32) (mKnf : Nat → Int32) (N : Nat) (v1 : Int32) (v2 : Int32) (o_mKnf : Nat → Int32) (hf : f_M_forget N mKnf v1 v2 = some o_mKnf) : WrV l y_M_forget w_M_forget rm_M_forget D zz_cl (mt_ty cK RK2) [.ref md, .int v1, .int v2] [(md, .inr (6, [.int mdN, .int mdL, .ref mWh, .ref mTr, .ref mCo, .int mdS, .ref mWi, .ref mPc, .ref mIt, .int mdQ, .ref mRo, .ref mKn, .ref mNe, .ref mSe, .ref mVa, .ref mLa])), (mKn, .inl (cK 1, 744, .inl mKnf))] [(md, .inr (6, [.int mdN, .int mdL, .ref mWh, .ref mTr, .ref mCo, .int mdS, .ref mWi, .ref mPc, .ref mIt, .int mdQ, .ref mRo, .ref mKn, .ref mNe, .ref mSe, .ref mVa, .ref mLa])), (mKn, .inl (cK 1, 744, .inl o_mKnf))] := by
  refine mk_WrV (cc := b_M_forget) (maxL := 4) (by decide +kernel) rfl (Nat.le_of_ble_eq_true rfl) ?_
  intro p e s m below meth c args Q A ls hx hb hml hown hts hA hK hP hD hret hl
  have hS : va_S A s.heap s.heap [] := va_S.rf
  have hl : lv_has ls 4 [(0, .ref md), (1, .int v1), (2, .int v2)] := hl
  have J_2 : ∀ (v1 : Int32) (n_2 : Nat) (mKnf : Nat → Int32) (v3 : Int32) (H : Heap) (locs : List Loc) (ls : Array Slot), f_M_forget_2 N v1 n_2 mKnf v3 = some o_mKnf → va_P D zz_cl [(md, .inr (6, [.int mdN, .int mdL, .ref mWh, .ref mTr, .ref mCo, .int mdS, .ref mWi, .ref mPc, .ref mIt, .int mdQ, .ref mRo, .ref mKn, .ref mNe, .ref mSe, .ref mVa, .ref mLa])), (mKn, .inl (cK 1, 744, .inl mKnf))] H → va_D A [(md, .inr (6, [.int mdN, .int mdL, .ref mWh, .ref mTr, .ref mCo, .int mdS, .ref mWi, .ref mPc, .ref mIt, .int mdQ, .ref mRo, .ref mKn, .ref mNe, .ref mSe, .ref mVa, .ref mLa])), (mKn, .inl (cK 1, 744, .inl mKnf))] → va_S A s.heap H locs → lv_has ls 4 [(0, .ref md), (1, .int v1), (3, .int v3)] → W p l e rm_M_forget s m args below meth c H locs 0 0 Q (F0 m 2 ls []) := by
    intro v1 n_2
    induction n_2 with
    | zero =>
      intro mKnf v3 H locs ls hf hP hD hS hl
      exact fn_0 hf
    | succ n_2 ih_2 =>
      intro mKnf v3 H locs ls hf hP hD hS hl
      rw [f_M_forget_2.eq_2] at hf
      refine lv_iload_n hx hb d_M_forget_2 rfl (lv_at hl 2 rfl) ?_
      refine lv_bipush (v := 62) hx hb d_M_forget_3 (by decide) ?_
      refine lv_icmp_ge (tgt := 26) hx hb d_M_forget_5 (by decide) (fun hc => ?_) (fun hc => ?_)
      · have hf := fn_t hc hf
        cases hf
        exact hret _ _ 26 _ hP hD hS d_M_forget_26
      · have hf := fn_f hc hf
        refine lv_aload_n hx hb d_M_forget_8 rfl (lv_at hl 0 rfl) ?_
        refine va_get (D := D) (ci := 6) (v := .ref mKn) (C := RK6) (T := TK6) (N := 16) hx hb hts iwK6 hown hK hP 0 rfl rfl 11 (by decide) (hts _ fl_M_34) (fun _ h9 => h9) rfl d_M_forget_9 ?_
        refine lv_bipush (v := 62) hx hb d_M_forget_12 (by decide) ?_
        refine lv_iload_n hx hb d_M_forget_14 rfl (lv_at hl 1 rfl) ?_
        refine lv_imul hx hb d_M_forget_15 ?_
        refine lv_iload_n hx hb d_M_forget_16 rfl (lv_at hl 2 rfl) ?_
        refine lv_iadd hx hb d_M_forget_17 ?_
        refine lv_iconst (v := 0) hx hb d_M_forget_18 (by decide) ?_
        have hg := fn_g hf
        have hf := fn_t hg hf
        refine va_zast hx hb hK hP hD hS 1 1 rfl rfl (fn_v hg) d_M_forget_19 (fun H locs hP hD hS => ?_)
        have hP : va_P D zz_cl [(md, .inr (6, [.int mdN, .int mdL, .ref mWh, .ref mTr, .ref mCo, .int mdS, .ref mWi, .ref mPc, .ref mIt, .int mdQ, .ref mRo, .ref mKn, .ref mNe, .ref mSe, .ref mVa, .ref mLa])), (mKn, .inl (cK 1, 744, .inl (upd mKnf (Int32.toNatClampNeg ((62 * v1) + v3)) (vp_nar .boolean 0))))] H := hP
        have hD : va_D A [(md, .inr (6, [.int mdN, .int mdL, .ref mWh, .ref mTr, .ref mCo, .int mdS, .ref mWi, .ref mPc, .ref mIt, .int mdQ, .ref mRo, .ref mKn, .ref mNe, .ref mSe, .ref mVa, .ref mLa])), (mKn, .inl (cK 1, 744, .inl (upd mKnf (Int32.toNatClampNeg ((62 * v1) + v3)) (vp_nar .boolean 0))))] := hD
        refine lv_iinc (v := (v3 + 1)) (lv' := [(3, .int (v3 + 1)), (0, .ref md), (1, .int v1)]) hx hb d_M_forget_20 hl (k := 2) rfl rfl (by decide) rfl (fun ls hl => ?_)
        refine lv_goto (tgt := 2) hx hb d_M_forget_23 (by decide) ?_
        exact ih_2 _ _ _ _ _ hf hP hD hS (lv_sub hl [1, 2, 0] rfl)
  unfold f_M_forget at hf
  refine lv_iload_n hx hb d_M_forget_0 rfl (lv_at hl 2 rfl) ?_
  refine lv_istore_n (lv' := [(3, .int v2), (0, .ref md), (1, .int v1), (2, .int v2)]) hx hb d_M_forget_1 rfl hl (by decide) rfl (fun ls hl => ?_)
  exact J_2 _ _ _ _ _ _ _ hf hP hD hS (lv_sub hl [1, 2, 0] rfl)
abbrev rm_M_change : Room := { frames := 2, cells := 0, slots := 0, locals := 47 }
set_option maxHeartbeats 4000000 in
set_option maxRecDepth 100000 in
theorem c_M_change (l : Launch) (D : va_G) (cK : Nat → ClassId) (md mWh mTr mCo mWi mPc mIt mRo mKn mNe mSe mVa mLa : Nat) (mdN : Int32) (mdL : Int32) (mdS : Int32) (mdQ : Int32) (mWhf : Nat → Int32) (mTrf : Nat → Int32) (mCof : Nat → Int32) (mKnf : Nat → Int32) (N : Nat) (v1 : Int32) (v2 : Int32) (v3 : Int32) (v4 : Int32) (r : Int32) (o_mdS : Int32) (o_mWhf : Nat → Int32) (o_mTrf : Nat → Int32) (o_mCof : Nat → Int32) (o_mKnf : Nat → Int32) (hf : f_M_change N mdL mdS mdQ mWhf mTrf mCof mKnf v1 v2 v3 v4 = some (r, o_mdS, o_mWhf, o_mTrf, o_mCof, o_mKnf)) : WrI l y_M_change w_M_change rm_M_change D zz_cl (mt_ty cK RK2) [.ref md, .int v1, .int v2, .int v3, .int v4] [(md, .inr (6, [.int mdN, .int mdL, .ref mWh, .ref mTr, .ref mCo, .int mdS, .ref mWi, .ref mPc, .ref mIt, .int mdQ, .ref mRo, .ref mKn, .ref mNe, .ref mSe, .ref mVa, .ref mLa])), (mWh, .inl (cK 0, 400, .inl mWhf)), (mTr, .inl (cK 0, 400, .inl mTrf)), (mCo, .inl (cK 1, 400, .inl mCof)), (mKn, .inl (cK 1, 744, .inl mKnf))] [(md, .inr (6, [.int mdN, .int mdL, .ref mWh, .ref mTr, .ref mCo, .int o_mdS, .ref mWi, .ref mPc, .ref mIt, .int mdQ, .ref mRo, .ref mKn, .ref mNe, .ref mSe, .ref mVa, .ref mLa])), (mWh, .inl (cK 0, 400, .inl o_mWhf)), (mTr, .inl (cK 0, 400, .inl o_mTrf)), (mCo, .inl (cK 1, 400, .inl o_mCof)), (mKn, .inl (cK 1, 744, .inl o_mKnf))] r := by
  refine mk_WrI (cc := b_M_change) (maxL := 7) (ty := .int) (by decide +kernel) rfl (Nat.le_of_ble_eq_true rfl) ?_
  intro p e s m below meth c args Q A ls hx hb hml hown hts hA hK hP hD hret hl
  have hS : va_S A s.heap s.heap [] := va_S.rf
  have hl : lv_has ls 7 [(0, .ref md), (1, .int v1), (2, .int v2), (3, .int v3), (4, .int v4)] := hl
  have J_59 : ∀ (v4 : Int32) (v5 : Int32) (n_59 : Nat) (mdS : Int32) (mWhf : Nat → Int32) (mTrf : Nat → Int32) (mCof : Nat → Int32) (mKnf : Nat → Int32) (v6 : Int32) (H : Heap) (locs : List Loc) (ls : Array Slot), f_M_change_59 N mdL mdQ v4 v5 n_59 mdS mWhf mTrf mCof mKnf v6 = some (r, o_mdS, o_mWhf, o_mTrf, o_mCof, o_mKnf) → va_P D zz_cl [(md, .inr (6, [.int mdN, .int mdL, .ref mWh, .ref mTr, .ref mCo, .int mdS, .ref mWi, .ref mPc, .ref mIt, .int mdQ, .ref mRo, .ref mKn, .ref mNe, .ref mSe, .ref mVa, .ref mLa])), (mWh, .inl (cK 0, 400, .inl mWhf)), (mTr, .inl (cK 0, 400, .inl mTrf)), (mCo, .inl (cK 1, 400, .inl mCof)), (mKn, .inl (cK 1, 744, .inl mKnf))] H → va_D A [(md, .inr (6, [.int mdN, .int mdL, .ref mWh, .ref mTr, .ref mCo, .int mdS, .ref mWi, .ref mPc, .ref mIt, .int mdQ, .ref mRo, .ref mKn, .ref mNe, .ref mSe, .ref mVa, .ref mLa])), (mWh, .inl (cK 0, 400, .inl mWhf)), (mTr, .inl (cK 0, 400, .inl mTrf)), (mCo, .inl (cK 1, 400, .inl mCof)), (mKn, .inl (cK 1, 744, .inl mKnf))] → va_S A s.heap H locs → lv_has ls 7 [(0, .ref md), (4, .int v4), (5, .int v5), (6, .int v6)] → W p l e rm_M_change s m args below meth c H locs 0 0 Q (F0 m 59 ls []) := by
    intro v4 v5 n_59
    induction n_59 with
    | zero =>
      intro mdS mWhf mTrf mCof mKnf v6 H locs ls hf hP hD hS hl
      exact fn_0 hf
    | succ n_59 ih_59 =>
      intro mdS mWhf mTrf mCof mKnf v6 H locs ls hf hP hD hS hl
      rw [f_M_change_59.eq_2] at hf
      refine lv_iload hx hb d_M_change_59 (lv_at hl 3 rfl) ?_
      refine lv_aload_n hx hb d_M_change_61 rfl (lv_at hl 0 rfl) ?_
      refine va_get (D := D) (ci := 6) (v := .int mdQ) (C := RK6) (T := TK6) (N := 16) hx hb hts iwK6 hown hK hP 0 rfl rfl 9 (by decide) (hts _ fl_M_56) (fun _ h9 => h9) rfl d_M_change_62 ?_
      refine lv_icmp_ge (tgt := 84) hx hb d_M_change_65 (by decide) (fun hc => ?_) (fun hc => ?_)
      · have hf := fn_t hc hf
        refine lv_iload hx hb d_M_change_84 (lv_at hl 2 rfl) ?_
        refine lv_iload hx hb d_M_change_86 (lv_at hl 1 rfl) ?_
        refine lv_icmp_eq (tgt := 95) hx hb d_M_change_88 (by decide) (fun hc => ?_) (fun hc => ?_)
        · have hf := fn_t hc hf
          refine lv_iconst (v := 0) hx hb d_M_change_95 (by decide) ?_
          cases hf
          exact hret _ _ 96 _ hP hD hS rfl d_M_change_96
        · have hf := fn_f hc hf
          refine lv_iconst (v := 1) hx hb d_M_change_91 (by decide) ?_
          refine lv_goto (tgt := 96) hx hb d_M_change_92 (by decide) ?_
          cases hf
          exact hret _ _ 96 _ hP hD hS rfl d_M_change_96
      · have hf := fn_f hc hf
        refine lv_aload_n hx hb d_M_change_68 rfl (lv_at hl 0 rfl) ?_
        refine lv_iload hx hb d_M_change_69 (lv_at hl 3 rfl) ?_
        refine lv_aload_n hx hb d_M_change_71 rfl (lv_at hl 0 rfl) ?_
        refine va_get (D := D) (ci := 6) (v := .int mdL) (C := RK6) (T := TK6) (N := 16) hx hb hts iwK6 hown hK hP 0 rfl rfl 1 (by decide) (hts _ fl_M_53) (fun _ h9 => h9) rfl d_M_change_72 ?_
        obtain ⟨mKnf_75, hcl, hf⟩ := fn_e1 hf
        refine cv_WrV (rest := []) (wr := [(mWh, .inl (cK 0, 400, .inl mWhf)), (mTr, .inl (cK 0, 400, .inl mTrf)), (mCo, .inl (cK 1, 400, .inl mCof))]) (w' := [(md, .inr (6, [.int mdN, .int mdL, .ref mWh, .ref mTr, .ref mCo, .int mdS, .ref mWi, .ref mPc, .ref mIt, .int mdQ, .ref mRo, .ref mKn, .ref mNe, .ref mSe, .ref mVa, .ref mLa])), (mWh, .inl (cK 0, 400, .inl mWhf)), (mTr, .inl (cK 0, 400, .inl mTrf)), (mCo, .inl (cK 1, 400, .inl mCof)), (mKn, .inl (cK 1, 744, .inl mKnf_75))]) ⟨hx, hb, hml, hown, hts⟩ (c_M_forget l D cK md mWh mTr mCo mWi mPc mIt mRo mKn mNe mSe mVa mLa mdN mdL mdS mdQ mKnf N v6 mdL mKnf_75 hcl) (cwV 2 hts (zz_V ml_M_82 im_M_forget se_M_forget in_M co_M_forget) rfl rfl rfl ⟨rfl, hd_M_forget⟩ ⟨Nat.le_of_ble_eq_true rfl, Nat.le_of_ble_eq_true rfl⟩) hK hP hD hS hA [0, 4] [1, 2, 3] [3, 0, 1, 2, 4] rfl (by decide) rfl (by decide) (by decide) rfl (by decide) 0 rfl rfl rfl rfl hl.1 rfl (Nat.le_of_ble_eq_true rfl) d_M_change_75 ⟨Nat.zero_le _, Nat.zero_le _⟩ (fun H locs hP hD hS => ?_)
        refine lv_iinc (v := (v6 + 1)) (lv' := [(6, .int (v6 + 1)), (0, .ref md), (4, .int v4), (5, .int v5)]) hx hb d_M_change_78 hl (k := 3) rfl rfl (by decide) rfl (fun ls hl => ?_)
        refine lv_goto (tgt := 59) hx hb d_M_change_81 (by decide) ?_
        exact ih_59 _ _ _ _ _ _ _ _ _ hf hP hD hS (lv_sub hl [1, 2, 3, 0] rfl)
  unfold f_M_change at hf
  refine lv_iload_n hx hb d_M_change_0 rfl (lv_at hl 1 rfl) ?_
  refine lv_iload_n hx hb d_M_change_1 rfl (lv_at hl 2 rfl) ?_
  refine lv_iload_n hx hb d_M_change_2 rfl (lv_at hl 3 rfl) ?_
  obtain ⟨r_3, hcl, hf⟩ := fn_e1 hf
  refine cs_RdI (rest := []) ⟨hx, hb, hml, hown, hts⟩ (c_M_isTriple l D cK v1 v2 v3 r_3 hcl) (va_cwS 3 hts (zz_S ml_M_66 st_M_isTriple in_M co_M_isTriple) rfl rfl rfl hd_M_isTriple ⟨Nat.le_of_ble_eq_true rfl, Nat.le_of_ble_eq_true rfl⟩) hK hP [] rfl rfl hl.1 rfl (Nat.le_of_ble_eq_true rfl) d_M_change_3 ⟨Nat.zero_le _, Nat.zero_le _⟩ ?_
  refine lv_if_ne (tgt := 11) hx hb d_M_change_6 (by decide) (fun hc => ?_) (fun hc => ?_)
  · have hf := fn_f hc hf
    refine lv_aload_n hx hb d_M_change_11 rfl (lv_at hl 0 rfl) ?_
    refine va_get (D := D) (ci := 6) (v := .int mdS) (C := RK6) (T := TK6) (N := 16) hx hb hts iwK6 hown hK hP 0 rfl rfl 5 (by decide) (hts _ fl_M_59) (fun _ h9 => h9) rfl d_M_change_12 ?_
    refine lv_sipush (v := 400) hx hb d_M_change_15 (by decide) ?_
    refine lv_icmp_ne (tgt := 24) hx hb d_M_change_18 (by decide) (fun hc => ?_) (fun hc => ?_)
    · have hf := fn_f hc hf
      refine lv_aload_n hx hb d_M_change_24 rfl (lv_at hl 0 rfl) ?_
      refine lv_aload_n hx hb d_M_change_25 rfl (lv_at hl 0 rfl) ?_
      refine va_get (D := D) (ci := 6) (v := .int mdL) (C := RK6) (T := TK6) (N := 16) hx hb hts iwK6 hown hK hP 0 rfl rfl 1 (by decide) (hts _ fl_M_53) (fun _ h9 => h9) rfl d_M_change_26 ?_
      refine lv_iload_n hx hb d_M_change_29 rfl (lv_at hl 1 rfl) ?_
      refine lv_iload_n hx hb d_M_change_30 rfl (lv_at hl 2 rfl) ?_
      refine lv_iload_n hx hb d_M_change_31 rfl (lv_at hl 3 rfl) ?_
      obtain ⟨r_32, hcl, hf⟩ := fn_e1 hf
      refine cs_RdI (rest := [.int mdL, .ref md]) ⟨hx, hb, hml, hown, hts⟩ (c_M_triple l D cK v1 v2 v3 r_32 hcl) (va_cwS 3 hts (zz_S ml_M_70 st_M_triple in_M co_M_triple) rfl rfl rfl hd_M_triple ⟨Nat.le_of_ble_eq_true rfl, Nat.le_of_ble_eq_true rfl⟩) hK hP [] rfl rfl hl.1 rfl (Nat.le_of_ble_eq_true rfl) d_M_change_32 ⟨Nat.zero_le _, Nat.zero_le _⟩ ?_
      obtain ⟨r_35, hcl, hf⟩ := fn_e1 hf
      refine cv_RdI (rest := []) ⟨hx, hb, hml, hown, hts⟩ (c_M_isThere l D cK md mWh mTr mCo mWi mPc mIt mRo mKn mNe mSe mVa mLa mdN mdL mdS mdQ mWhf mTrf mCof N mdL r_32 r_35 hcl) (cwV 2 hts (zz_V ml_M_74 im_M_isThere se_M_isThere in_M co_M_isThere) rfl rfl rfl ⟨rfl, hd_M_isThere⟩ ⟨Nat.le_of_ble_eq_true rfl, Nat.le_of_ble_eq_true rfl⟩) hK hP [0, 1, 2, 3] rfl 0 rfl rfl rfl rfl hl.1 rfl (Nat.le_of_ble_eq_true rfl) d_M_change_35 ⟨Nat.zero_le _, Nat.zero_le _⟩ ?_
      refine lv_istore (lv' := [(5, .int r_35), (0, .ref md), (1, .int v1), (2, .int v2), (3, .int v3), (4, .int v4)]) hx hb d_M_change_38 hl (by decide) rfl (fun ls hl => ?_)
      refine lv_aload_n hx hb d_M_change_40 rfl (lv_at hl 1 rfl) ?_
      refine lv_aload_n hx hb d_M_change_41 rfl (lv_at hl 1 rfl) ?_
      refine va_get (D := D) (ci := 6) (v := .int mdL) (C := RK6) (T := TK6) (N := 16) hx hb hts iwK6 hown hK hP 0 rfl rfl 1 (by decide) (hts _ fl_M_53) (fun _ h9 => h9) rfl d_M_change_42 ?_
      refine lv_iload_n hx hb d_M_change_45 rfl (lv_at hl 2 rfl) ?_
      refine lv_iload_n hx hb d_M_change_46 rfl (lv_at hl 3 rfl) ?_
      refine lv_iload_n hx hb d_M_change_47 rfl (lv_at hl 4 rfl) ?_
      obtain ⟨r_48, hcl, hf⟩ := fn_e1 hf
      refine cs_RdI (rest := [.int mdL, .ref md]) ⟨hx, hb, hml, hown, hts⟩ (c_M_triple l D cK v1 v2 v3 r_48 hcl) (va_cwS 3 hts (zz_S ml_M_70 st_M_triple in_M co_M_triple) rfl rfl rfl hd_M_triple ⟨Nat.le_of_ble_eq_true rfl, Nat.le_of_ble_eq_true rfl⟩) hK hP [] rfl rfl hl.1 rfl (Nat.le_of_ble_eq_true rfl) d_M_change_48 ⟨Nat.zero_le _, Nat.zero_le _⟩ ?_
      refine lv_iload hx hb d_M_change_51 (lv_at hl 5 rfl) ?_
      obtain ⟨mdS_53, mWhf_53, mTrf_53, mCof_53, hcl, hf⟩ := fn_e4 hf
      refine cv_WrV (rest := []) (wr := [(mKn, .inl (cK 1, 744, .inl mKnf))]) (w' := [(md, .inr (6, [.int mdN, .int mdL, .ref mWh, .ref mTr, .ref mCo, .int mdS_53, .ref mWi, .ref mPc, .ref mIt, .int mdQ, .ref mRo, .ref mKn, .ref mNe, .ref mSe, .ref mVa, .ref mLa])), (mWh, .inl (cK 0, 400, .inl mWhf_53)), (mTr, .inl (cK 0, 400, .inl mTrf_53)), (mCo, .inl (cK 1, 400, .inl mCof_53)), (mKn, .inl (cK 1, 744, .inl mKnf))]) ⟨hx, hb, hml, hown, hts⟩ (c_M_say l D cK md mWh mTr mCo mWi mPc mIt mRo mKn mNe mSe mVa mLa mdN mdL mdS mdQ mWhf mTrf mCof mdL r_48 v4 mdS_53 mWhf_53 mTrf_53 mCof_53 hcl) (cwV 3 hts (zz_V ml_M_78 im_M_say se_M_say in_M co_M_say) rfl rfl rfl ⟨rfl, hd_M_say⟩ ⟨Nat.le_of_ble_eq_true rfl, Nat.le_of_ble_eq_true rfl⟩) hK hP hD hS hA [0, 1, 2, 3] [4] [1, 2, 3, 4, 0] rfl (by decide) rfl (by decide) (by decide) rfl (by decide) 0 rfl rfl rfl rfl hl.1 rfl (Nat.le_of_ble_eq_true rfl) d_M_change_53 ⟨Nat.zero_le _, Nat.zero_le _⟩ (fun H locs hP hD hS => ?_)
      refine lv_iconst (v := 0) hx hb d_M_change_56 (by decide) ?_
      refine lv_istore (lv' := [(6, .int 0), (5, .int r_35), (0, .ref md), (1, .int v1), (2, .int v2), (3, .int v3), (4, .int v4)]) hx hb d_M_change_57 hl (by decide) rfl (fun ls hl => ?_)
      exact J_59 _ _ _ _ _ _ _ _ _ _ _ _ hf hP hD hS (lv_sub hl [2, 6, 1, 0] rfl)
    · have hf := fn_t hc hf
      refine lv_bipush (v := (-3)) hx hb d_M_change_21 (by decide) ?_
      cases hf
      exact hret _ _ 23 _ hP hD hS rfl d_M_change_23
  · have hf := fn_t hc hf
    refine lv_iconst (v := (-1)) hx hb d_M_change_9 (by decide) ?_
    cases hf
    exact hret _ _ 10 _ hP hD hS rfl d_M_change_10
abbrev rm_M_step : Room := { frames := 0, cells := 0, slots := 0, locals := 0 }
set_option maxHeartbeats 4000000 in
set_option maxRecDepth 100000 in
theorem c_M_step (l : Launch) (D : va_G) (cK : Nat → ClassId) (md mWh mTr mCo mWi mPc mIt mRo mKn mNe mSe mVa mLa : Nat) (mdN : Int32) (mdL : Int32) (mdS : Int32) (mdQ : Int32)  (r : Int32) (o_mdL : Int32) (hf : f_M_step mdN mdL = some (r, o_mdL)) : WrI l y_M_step w_M_step rm_M_step D zz_cl (mt_ty cK RK2) [.ref md] [(md, .inr (6, [.int mdN, .int mdL, .ref mWh, .ref mTr, .ref mCo, .int mdS, .ref mWi, .ref mPc, .ref mIt, .int mdQ, .ref mRo, .ref mKn, .ref mNe, .ref mSe, .ref mVa, .ref mLa]))] [(md, .inr (6, [.int mdN, .int o_mdL, .ref mWh, .ref mTr, .ref mCo, .int mdS, .ref mWi, .ref mPc, .ref mIt, .int mdQ, .ref mRo, .ref mKn, .ref mNe, .ref mSe, .ref mVa, .ref mLa]))] r := by
  refine mk_WrI (cc := b_M_step) (maxL := 1) (ty := .int) (by decide +kernel) rfl (Nat.le_of_ble_eq_true rfl) ?_
  intro p e s m below meth c args Q A ls hx hb hml hown hts hA hK hP hD hret hl
  have hS : va_S A s.heap s.heap [] := va_S.rf
  have hl : lv_has ls 1 [(0, .ref md)] := hl
  unfold f_M_step at hf
  refine lv_aload_n hx hb d_M_step_0 rfl (lv_at hl 0 rfl) ?_
  refine va_get (D := D) (ci := 6) (v := .int mdL) (C := RK6) (T := TK6) (N := 16) hx hb hts iwK6 hown hK hP 0 rfl rfl 1 (by decide) (hts _ fl_M_53) (fun _ h9 => h9) rfl d_M_step_1 ?_
  refine lv_iconst (v := 1) hx hb d_M_step_4 (by decide) ?_
  refine lv_iadd hx hb d_M_step_5 ?_
  refine lv_aload_n hx hb d_M_step_6 rfl (lv_at hl 0 rfl) ?_
  refine va_get (D := D) (ci := 6) (v := .int mdN) (C := RK6) (T := TK6) (N := 16) hx hb hts iwK6 hown hK hP 0 rfl rfl 0 (by decide) (hts _ fl_M_49) (fun _ h9 => h9) rfl d_M_step_7 ?_
  refine lv_icmp_ne (tgt := 16) hx hb d_M_step_10 (by decide) (fun hc => ?_) (fun hc => ?_)
  · have hf := fn_f hc hf
    refine lv_aload_n hx hb d_M_step_16 rfl (lv_at hl 0 rfl) ?_
    refine lv_dup hx hb d_M_step_17 rfl ?_
    refine va_get (D := D) (ci := 6) (v := .int mdL) (C := RK6) (T := TK6) (N := 16) hx hb hts iwK6 hown hK hP 0 rfl rfl 1 (by decide) (hts _ fl_M_53) (fun _ h9 => h9) rfl d_M_step_18 ?_
    refine lv_iconst (v := 1) hx hb d_M_step_21 (by decide) ?_
    refine lv_iadd hx hb d_M_step_22 ?_
    refine va_put (D := D) (ci := 6) (v := .int (mdL + 1)) (ty := .int) (C := RK6) (T := TK6) (N := 16) hx hb hts iwK6 tyK6 tyK6_ok nmK6 hown hK hP hD hS 0 rfl rfl 1 (by decide) (hts _ fl_M_53) (fun _ h9 => h9) rfl (by decide +kernel) rfl rfl (Nat.le_of_ble_eq_true rfl) d_M_step_23 (fun H locs hP hD hS => ?_)
    have hP : va_P D zz_cl [(md, .inr (6, [.int mdN, .int (mdL + 1), .ref mWh, .ref mTr, .ref mCo, .int mdS, .ref mWi, .ref mPc, .ref mIt, .int mdQ, .ref mRo, .ref mKn, .ref mNe, .ref mSe, .ref mVa, .ref mLa]))] H := hP
    have hD : va_D A [(md, .inr (6, [.int mdN, .int (mdL + 1), .ref mWh, .ref mTr, .ref mCo, .int mdS, .ref mWi, .ref mPc, .ref mIt, .int mdQ, .ref mRo, .ref mKn, .ref mNe, .ref mSe, .ref mVa, .ref mLa]))] := hD
    refine lv_aload_n hx hb d_M_step_26 rfl (lv_at hl 0 rfl) ?_
    refine va_get (D := D) (ci := 6) (v := .int (mdL + 1)) (C := RK6) (T := TK6) (N := 16) hx hb hts iwK6 hown hK hP 0 rfl rfl 1 (by decide) (hts _ fl_M_53) (fun _ h9 => h9) rfl d_M_step_27 ?_
    cases hf
    exact hret _ _ 30 _ hP hD hS rfl d_M_step_30
  · have hf := fn_t hc hf
    refine lv_bipush (v := (-3)) hx hb d_M_step_13 (by decide) ?_
    cases hf
    exact hret _ _ 15 _ hP hD hS rfl d_M_step_15
abbrev rm_M_latest : Room := { frames := 0, cells := 0, slots := 0, locals := 0 }
set_option maxHeartbeats 4000000 in
set_option maxRecDepth 100000 in
theorem c_M_latest (l : Launch) (D : va_G) (cK : Nat → ClassId) (md mWh mTr mCo mWi mPc mIt mRo mKn mNe mSe mVa mLa : Nat) (mdN : Int32) (mdL : Int32) (mdS : Int32) (mdQ : Int32)  (r : Int32) (hf : f_M_latest mdL = some r) : RdI l y_M_latest w_M_latest rm_M_latest D zz_cl (mt_ty cK RK2) [.ref md] [(md, .inr (6, [.int mdN, .int mdL, .ref mWh, .ref mTr, .ref mCo, .int mdS, .ref mWi, .ref mPc, .ref mIt, .int mdQ, .ref mRo, .ref mKn, .ref mNe, .ref mSe, .ref mVa, .ref mLa]))] r := by
  refine mk_RdI (cc := b_M_latest) (maxL := 1) (ty := .int) (by decide +kernel) rfl (Nat.le_of_ble_eq_true rfl) ?_
  intro p e s m below meth c args Q ls hx hb hml hown hts hK hP hret hl
  have hl : lv_has ls 1 [(0, .ref md)] := hl
  unfold f_M_latest at hf
  refine lv_aload_n hx hb d_M_latest_0 rfl (lv_at hl 0 rfl) ?_
  refine va_get (D := D) (ci := 6) (v := .int mdL) (C := RK6) (T := TK6) (N := 16) hx hb hts iwK6 hown hK hP 0 rfl rfl 1 (by decide) (hts _ fl_M_53) (fun _ h9 => h9) rfl d_M_latest_1 ?_
  cases hf
  exact hret 4 _ rfl d_M_latest_4
abbrev rm_M_there : Room := { frames := 2, cells := 0, slots := 0, locals := 47 }
set_option maxHeartbeats 4000000 in
set_option maxRecDepth 100000 in
theorem c_M_there (l : Launch) (D : va_G) (cK : Nat → ClassId) (md mWh mTr mCo mWi mPc mIt mRo mKn mNe mSe mVa mLa : Nat) (mdN : Int32) (mdL : Int32) (mdS : Int32) (mdQ : Int32) (mWhf : Nat → Int32) (mTrf : Nat → Int32) (mCof : Nat → Int32) (N : Nat) (v1 : Int32) (v2 : Int32) (v3 : Int32) (v4 : Int32) (r : Int32) (hf : f_M_there N mdL mdS mWhf mTrf mCof v1 v2 v3 v4 = some r) : RdI l y_M_there w_M_there rm_M_there D zz_cl (mt_ty cK RK2) [.ref md, .int v1, .int v2, .int v3, .int v4] [(md, .inr (6, [.int mdN, .int mdL, .ref mWh, .ref mTr, .ref mCo, .int mdS, .ref mWi, .ref mPc, .ref mIt, .int mdQ, .ref mRo, .ref mKn, .ref mNe, .ref mSe, .ref mVa, .ref mLa])), (mWh, .inl (cK 0, 400, .inl mWhf)), (mTr, .inl (cK 0, 400, .inl mTrf)), (mCo, .inl (cK 1, 400, .inl mCof))] r := by
  refine mk_RdI (cc := b_M_there) (maxL := 5) (ty := .int) (by decide +kernel) rfl (Nat.le_of_ble_eq_true rfl) ?_
  intro p e s m below meth c args Q ls hx hb hml hown hts hK hP hret hl
  have hl : lv_has ls 5 [(0, .ref md), (1, .int v1), (2, .int v2), (3, .int v3), (4, .int v4)] := hl
  unfold f_M_there at hf
  refine lv_aload_n hx hb d_M_there_0 rfl (lv_at hl 0 rfl) ?_
  refine lv_iload_n hx hb d_M_there_1 rfl (lv_at hl 1 rfl) ?_
  obtain ⟨r_2, hcl, hf⟩ := fn_e1 hf
  refine cv_RdI (rest := []) ⟨hx, hb, hml, hown, hts⟩ (c_M_isNumber l D cK md mWh mTr mCo mWi mPc mIt mRo mKn mNe mSe mVa mLa mdN mdL mdS mdQ v1 r_2 hcl) (cwV 1 hts (zz_V ml_M_86 im_M_isNumber se_M_isNumber in_M co_M_isNumber) rfl rfl rfl ⟨rfl, hd_M_isNumber⟩ ⟨Nat.le_of_ble_eq_true rfl, Nat.le_of_ble_eq_true rfl⟩) hK hP [0] rfl 0 rfl rfl rfl rfl hl.1 rfl (Nat.le_of_ble_eq_true rfl) d_M_there_2 ⟨Nat.zero_le _, Nat.zero_le _⟩ ?_
  refine lv_if_eq (tgt := 18) hx hb d_M_there_5 (by decide) (fun hc => ?_) (fun hc => ?_)
  · have hf := fn_t hc hf
    refine lv_iconst (v := (-1)) hx hb d_M_there_18 (by decide) ?_
    refine lv_goto (tgt := 42) hx hb d_M_there_19 (by decide) ?_
    cases hf
    exact hret 42 _ rfl d_M_there_42
  · have hf := fn_f hc hf
    refine lv_iload_n hx hb d_M_there_8 rfl (lv_at hl 2 rfl) ?_
    refine lv_iload_n hx hb d_M_there_9 rfl (lv_at hl 3 rfl) ?_
    refine lv_iload hx hb d_M_there_10 (lv_at hl 4 rfl) ?_
    obtain ⟨r_12, hcl, hf⟩ := fn_e1 hf
    refine cs_RdI (rest := []) ⟨hx, hb, hml, hown, hts⟩ (c_M_isTriple l D cK v2 v3 v4 r_12 hcl) (va_cwS 3 hts (zz_S ml_M_66 st_M_isTriple in_M co_M_isTriple) rfl rfl rfl hd_M_isTriple ⟨Nat.le_of_ble_eq_true rfl, Nat.le_of_ble_eq_true rfl⟩) hK hP [] rfl rfl hl.1 rfl (Nat.le_of_ble_eq_true rfl) d_M_there_12 ⟨Nat.zero_le _, Nat.zero_le _⟩ ?_
    refine lv_if_ne (tgt := 22) hx hb d_M_there_15 (by decide) (fun hc => ?_) (fun hc => ?_)
    · have hf := fn_f hc hf
      refine lv_aload_n hx hb d_M_there_22 rfl (lv_at hl 0 rfl) ?_
      refine lv_iload_n hx hb d_M_there_23 rfl (lv_at hl 1 rfl) ?_
      refine lv_iload_n hx hb d_M_there_24 rfl (lv_at hl 2 rfl) ?_
      refine lv_iload_n hx hb d_M_there_25 rfl (lv_at hl 3 rfl) ?_
      refine lv_iload hx hb d_M_there_26 (lv_at hl 4 rfl) ?_
      obtain ⟨r_28, hcl, hf⟩ := fn_e1 hf
      refine cs_RdI (rest := [.int v1, .ref md]) ⟨hx, hb, hml, hown, hts⟩ (c_M_triple l D cK v2 v3 v4 r_28 hcl) (va_cwS 3 hts (zz_S ml_M_70 st_M_triple in_M co_M_triple) rfl rfl rfl hd_M_triple ⟨Nat.le_of_ble_eq_true rfl, Nat.le_of_ble_eq_true rfl⟩) hK hP [] rfl rfl hl.1 rfl (Nat.le_of_ble_eq_true rfl) d_M_there_28 ⟨Nat.zero_le _, Nat.zero_le _⟩ ?_
      obtain ⟨r_31, hcl, hf⟩ := fn_e1 hf
      refine cv_RdI (rest := []) ⟨hx, hb, hml, hown, hts⟩ (c_M_isThere l D cK md mWh mTr mCo mWi mPc mIt mRo mKn mNe mSe mVa mLa mdN mdL mdS mdQ mWhf mTrf mCof N v1 r_28 r_31 hcl) (cwV 2 hts (zz_V ml_M_74 im_M_isThere se_M_isThere in_M co_M_isThere) rfl rfl rfl ⟨rfl, hd_M_isThere⟩ ⟨Nat.le_of_ble_eq_true rfl, Nat.le_of_ble_eq_true rfl⟩) hK hP [0, 1, 2, 3] rfl 0 rfl rfl rfl rfl hl.1 rfl (Nat.le_of_ble_eq_true rfl) d_M_there_31 ⟨Nat.zero_le _, Nat.zero_le _⟩ ?_
      refine lv_if_eq (tgt := 41) hx hb d_M_there_34 (by decide) (fun hc => ?_) (fun hc => ?_)
      · have hf := fn_t hc hf
        refine lv_iconst (v := 0) hx hb d_M_there_41 (by decide) ?_
        cases hf
        exact hret 42 _ rfl d_M_there_42
      · have hf := fn_f hc hf
        refine lv_iconst (v := 1) hx hb d_M_there_37 (by decide) ?_
        refine lv_goto (tgt := 42) hx hb d_M_there_38 (by decide) ?_
        cases hf
        exact hret 42 _ rfl d_M_there_42
    · have hf := fn_t hc hf
      refine lv_iconst (v := (-1)) hx hb d_M_there_18 (by decide) ?_
      refine lv_goto (tgt := 42) hx hb d_M_there_19 (by decide) ?_
      cases hf
      exact hret 42 _ rfl d_M_there_42
abbrev rm_M_age : Room := { frames := 2, cells := 0, slots := 0, locals := 47 }
set_option maxHeartbeats 4000000 in
set_option maxRecDepth 100000 in
theorem c_M_age (l : Launch) (D : va_G) (cK : Nat → ClassId) (md mWh mTr mCo mWi mPc mIt mRo mKn mNe mSe mVa mLa : Nat) (mdN : Int32) (mdL : Int32) (mdS : Int32) (mdQ : Int32) (mWhf : Nat → Int32) (mTrf : Nat → Int32) (mCof : Nat → Int32) (N : Nat) (v1 : Int32) (v2 : Int32) (v3 : Int32) (v4 : Int32) (r : Int32) (hf : f_M_age N mdL mdS mWhf mTrf mCof v1 v2 v3 v4 = some r) : RdI l y_M_age w_M_age rm_M_age D zz_cl (mt_ty cK RK2) [.ref md, .int v1, .int v2, .int v3, .int v4] [(md, .inr (6, [.int mdN, .int mdL, .ref mWh, .ref mTr, .ref mCo, .int mdS, .ref mWi, .ref mPc, .ref mIt, .int mdQ, .ref mRo, .ref mKn, .ref mNe, .ref mSe, .ref mVa, .ref mLa])), (mWh, .inl (cK 0, 400, .inl mWhf)), (mTr, .inl (cK 0, 400, .inl mTrf)), (mCo, .inl (cK 1, 400, .inl mCof))] r := by
  refine mk_RdI (cc := b_M_age) (maxL := 5) (ty := .int) (by decide +kernel) rfl (Nat.le_of_ble_eq_true rfl) ?_
  intro p e s m below meth c args Q ls hx hb hml hown hts hK hP hret hl
  have hl : lv_has ls 5 [(0, .ref md), (1, .int v1), (2, .int v2), (3, .int v3), (4, .int v4)] := hl
  unfold f_M_age at hf
  refine lv_aload_n hx hb d_M_age_0 rfl (lv_at hl 0 rfl) ?_
  refine lv_iload_n hx hb d_M_age_1 rfl (lv_at hl 1 rfl) ?_
  obtain ⟨r_2, hcl, hf⟩ := fn_e1 hf
  refine cv_RdI (rest := []) ⟨hx, hb, hml, hown, hts⟩ (c_M_isNumber l D cK md mWh mTr mCo mWi mPc mIt mRo mKn mNe mSe mVa mLa mdN mdL mdS mdQ v1 r_2 hcl) (cwV 1 hts (zz_V ml_M_86 im_M_isNumber se_M_isNumber in_M co_M_isNumber) rfl rfl rfl ⟨rfl, hd_M_isNumber⟩ ⟨Nat.le_of_ble_eq_true rfl, Nat.le_of_ble_eq_true rfl⟩) hK hP [0] rfl 0 rfl rfl rfl rfl hl.1 rfl (Nat.le_of_ble_eq_true rfl) d_M_age_2 ⟨Nat.zero_le _, Nat.zero_le _⟩ ?_
  refine lv_if_eq (tgt := 18) hx hb d_M_age_5 (by decide) (fun hc => ?_) (fun hc => ?_)
  · have hf := fn_t hc hf
    refine lv_iconst (v := (-1)) hx hb d_M_age_18 (by decide) ?_
    cases hf
    exact hret 19 _ rfl d_M_age_19
  · have hf := fn_f hc hf
    refine lv_iload_n hx hb d_M_age_8 rfl (lv_at hl 2 rfl) ?_
    refine lv_iload_n hx hb d_M_age_9 rfl (lv_at hl 3 rfl) ?_
    refine lv_iload hx hb d_M_age_10 (lv_at hl 4 rfl) ?_
    obtain ⟨r_12, hcl, hf⟩ := fn_e1 hf
    refine cs_RdI (rest := []) ⟨hx, hb, hml, hown, hts⟩ (c_M_isTriple l D cK v2 v3 v4 r_12 hcl) (va_cwS 3 hts (zz_S ml_M_66 st_M_isTriple in_M co_M_isTriple) rfl rfl rfl hd_M_isTriple ⟨Nat.le_of_ble_eq_true rfl, Nat.le_of_ble_eq_true rfl⟩) hK hP [] rfl rfl hl.1 rfl (Nat.le_of_ble_eq_true rfl) d_M_age_12 ⟨Nat.zero_le _, Nat.zero_le _⟩ ?_
    refine lv_if_ne (tgt := 20) hx hb d_M_age_15 (by decide) (fun hc => ?_) (fun hc => ?_)
    · have hf := fn_f hc hf
      refine lv_aload_n hx hb d_M_age_20 rfl (lv_at hl 0 rfl) ?_
      refine lv_iload_n hx hb d_M_age_21 rfl (lv_at hl 1 rfl) ?_
      refine lv_iload_n hx hb d_M_age_22 rfl (lv_at hl 2 rfl) ?_
      refine lv_iload_n hx hb d_M_age_23 rfl (lv_at hl 3 rfl) ?_
      refine lv_iload hx hb d_M_age_24 (lv_at hl 4 rfl) ?_
      obtain ⟨r_26, hcl, hf⟩ := fn_e1 hf
      refine cs_RdI (rest := [.int v1, .ref md]) ⟨hx, hb, hml, hown, hts⟩ (c_M_triple l D cK v2 v3 v4 r_26 hcl) (va_cwS 3 hts (zz_S ml_M_70 st_M_triple in_M co_M_triple) rfl rfl rfl hd_M_triple ⟨Nat.le_of_ble_eq_true rfl, Nat.le_of_ble_eq_true rfl⟩) hK hP [] rfl rfl hl.1 rfl (Nat.le_of_ble_eq_true rfl) d_M_age_26 ⟨Nat.zero_le _, Nat.zero_le _⟩ ?_
      obtain ⟨r_29, hcl, hf⟩ := fn_e1 hf
      refine cv_RdI (rest := []) ⟨hx, hb, hml, hown, hts⟩ (c_M_isThere l D cK md mWh mTr mCo mWi mPc mIt mRo mKn mNe mSe mVa mLa mdN mdL mdS mdQ mWhf mTrf mCof N v1 r_26 r_29 hcl) (cwV 2 hts (zz_V ml_M_74 im_M_isThere se_M_isThere in_M co_M_isThere) rfl rfl rfl ⟨rfl, hd_M_isThere⟩ ⟨Nat.le_of_ble_eq_true rfl, Nat.le_of_ble_eq_true rfl⟩) hK hP [0, 1, 2, 3] rfl 0 rfl rfl rfl rfl hl.1 rfl (Nat.le_of_ble_eq_true rfl) d_M_age_29 ⟨Nat.zero_le _, Nat.zero_le _⟩ ?_
      refine lv_if_eq (tgt := 57) hx hb d_M_age_32 (by decide) (fun hc => ?_) (fun hc => ?_)
      · have hf := fn_t hc hf
        refine lv_bipush (v := (-2)) hx hb d_M_age_57 (by decide) ?_
        cases hf
        exact hret 59 _ rfl d_M_age_59
      · have hf := fn_f hc hf
        refine lv_iload_n hx hb d_M_age_35 rfl (lv_at hl 1 rfl) ?_
        refine lv_aload_n hx hb d_M_age_36 rfl (lv_at hl 0 rfl) ?_
        refine va_get (D := D) (ci := 6) (v := .ref mWh) (C := RK6) (T := TK6) (N := 16) hx hb hts iwK6 hown hK hP 0 rfl rfl 2 (by decide) (hts _ fl_M_7) (fun _ h9 => h9) rfl d_M_age_37 ?_
        refine lv_aload_n hx hb d_M_age_40 rfl (lv_at hl 0 rfl) ?_
        refine lv_iload_n hx hb d_M_age_41 rfl (lv_at hl 1 rfl) ?_
        refine lv_iload_n hx hb d_M_age_42 rfl (lv_at hl 2 rfl) ?_
        refine lv_iload_n hx hb d_M_age_43 rfl (lv_at hl 3 rfl) ?_
        refine lv_iload hx hb d_M_age_44 (lv_at hl 4 rfl) ?_
        obtain ⟨r_46, hcl, hf⟩ := fn_e1 hf
        refine cs_RdI (rest := [.int v1, .ref md, .ref mWh, .int v1]) ⟨hx, hb, hml, hown, hts⟩ (c_M_triple l D cK v2 v3 v4 r_46 hcl) (va_cwS 3 hts (zz_S ml_M_70 st_M_triple in_M co_M_triple) rfl rfl rfl hd_M_triple ⟨Nat.le_of_ble_eq_true rfl, Nat.le_of_ble_eq_true rfl⟩) hK hP [] rfl rfl hl.1 rfl (Nat.le_of_ble_eq_true rfl) d_M_age_46 ⟨Nat.zero_le _, Nat.zero_le _⟩ ?_
        obtain ⟨r_49, hcl, hf⟩ := fn_e1 hf
        refine cv_RdI (rest := [.ref mWh, .int v1]) ⟨hx, hb, hml, hown, hts⟩ (c_M_last l D cK md mWh mTr mCo mWi mPc mIt mRo mKn mNe mSe mVa mLa mdN mdL mdS mdQ mWhf mTrf N v1 r_46 r_49 hcl) (cwV 2 hts (zz_V ml_M_62 im_M_last se_M_last in_M co_M_last) rfl rfl rfl ⟨rfl, hd_M_last⟩ ⟨Nat.le_of_ble_eq_true rfl, Nat.le_of_ble_eq_true rfl⟩) hK hP [0, 1, 2] rfl 0 rfl rfl rfl rfl hl.1 rfl (Nat.le_of_ble_eq_true rfl) d_M_age_49 ⟨Nat.zero_le _, Nat.zero_le _⟩ ?_
        have hg := fn_g hf
        have hf := fn_t hg hf
        refine va_iald hx hb hK hP 1 0 rfl rfl (fn_v hg) d_M_age_52 ?_
        refine lv_isub hx hb d_M_age_53 ?_
        refine lv_goto (tgt := 59) hx hb d_M_age_54 (by decide) ?_
        cases hf
        exact hret 59 _ rfl d_M_age_59
    · have hf := fn_t hc hf
      refine lv_iconst (v := (-1)) hx hb d_M_age_18 (by decide) ?_
      cases hf
      exact hret 19 _ rfl d_M_age_19
abbrev rm_M_question : Room := { frames := 1, cells := 0, slots := 0, locals := 23 }
set_option maxHeartbeats 4000000 in
set_option maxRecDepth 100000 in
theorem c_M_question (l : Launch) (D : va_G) (cK : Nat → ClassId) (md mWh mTr mCo mWi mPc mIt mRo mKn mNe mSe mVa mLa : Nat) (mdN : Int32) (mdL : Int32) (mdS : Int32) (mdQ : Int32) (mWif : Nat → Int32) (mPcf : Nat → Int32) (mKnf : Nat → Int32) (N : Nat) (v1 : Int32) (r : Int32) (o_mdQ : Int32) (o_mWif : Nat → Int32) (o_mPcf : Nat → Int32) (o_mKnf : Nat → Int32) (hf : f_M_question N mdQ mWif mPcf mKnf v1 = some (r, o_mdQ, o_mWif, o_mPcf, o_mKnf)) : WrI l y_M_question w_M_question rm_M_question D zz_cl (mt_ty cK RK2) [.ref md, .int v1] [(md, .inr (6, [.int mdN, .int mdL, .ref mWh, .ref mTr, .ref mCo, .int mdS, .ref mWi, .ref mPc, .ref mIt, .int mdQ, .ref mRo, .ref mKn, .ref mNe, .ref mSe, .ref mVa, .ref mLa])), (mWi, .inl (cK 0, 12, .inl mWif)), (mPc, .inl (cK 0, 12, .inl mPcf)), (mKn, .inl (cK 1, 744, .inl mKnf))] [(md, .inr (6, [.int mdN, .int mdL, .ref mWh, .ref mTr, .ref mCo, .int mdS, .ref mWi, .ref mPc, .ref mIt, .int o_mdQ, .ref mRo, .ref mKn, .ref mNe, .ref mSe, .ref mVa, .ref mLa])), (mWi, .inl (cK 0, 12, .inl o_mWif)), (mPc, .inl (cK 0, 12, .inl o_mPcf)), (mKn, .inl (cK 1, 744, .inl o_mKnf))] r := by
  refine mk_WrI (cc := b_M_question) (maxL := 2) (ty := .int) (by decide +kernel) rfl (Nat.le_of_ble_eq_true rfl) ?_
  intro p e s m below meth c args Q A ls hx hb hml hown hts hA hK hP hD hret hl
  have hS : va_S A s.heap s.heap [] := va_S.rf
  have hl : lv_has ls 2 [(0, .ref md), (1, .int v1)] := hl
  unfold f_M_question at hf
  refine lv_iload_n hx hb d_M_question_0 rfl (lv_at hl 1 rfl) ?_
  refine lv_if_lt (tgt := 10) hx hb d_M_question_1 (by decide) (fun hc => ?_) (fun hc => ?_)
  · have hf := fn_t hc hf
    refine lv_iconst (v := (-1)) hx hb d_M_question_10 (by decide) ?_
    cases hf
    exact hret _ _ 11 _ hP hD hS rfl d_M_question_11
  · have hf := fn_f hc hf
    refine lv_iload_n hx hb d_M_question_4 rfl (lv_at hl 1 rfl) ?_
    refine lv_bipush (v := 62) hx hb d_M_question_5 (by decide) ?_
    refine lv_icmp_le (tgt := 12) hx hb d_M_question_7 (by decide) (fun hc => ?_) (fun hc => ?_)
    · have hf := fn_t hc hf
      refine lv_aload_n hx hb d_M_question_12 rfl (lv_at hl 0 rfl) ?_
      refine va_get (D := D) (ci := 6) (v := .int mdQ) (C := RK6) (T := TK6) (N := 16) hx hb hts iwK6 hown hK hP 0 rfl rfl 9 (by decide) (hts _ fl_M_56) (fun _ h9 => h9) rfl d_M_question_13 ?_
      refine lv_bipush (v := 12) hx hb d_M_question_16 (by decide) ?_
      refine lv_icmp_ne (tgt := 24) hx hb d_M_question_18 (by decide) (fun hc => ?_) (fun hc => ?_)
      · have hf := fn_f hc hf
        refine lv_aload_n hx hb d_M_question_24 rfl (lv_at hl 0 rfl) ?_
        refine va_get (D := D) (ci := 6) (v := .ref mWi) (C := RK6) (T := TK6) (N := 16) hx hb hts iwK6 hown hK hP 0 rfl rfl 6 (by decide) (hts _ fl_M_20) (fun _ h9 => h9) rfl d_M_question_25 ?_
        refine lv_aload_n hx hb d_M_question_28 rfl (lv_at hl 0 rfl) ?_
        refine va_get (D := D) (ci := 6) (v := .int mdQ) (C := RK6) (T := TK6) (N := 16) hx hb hts iwK6 hown hK hP 0 rfl rfl 9 (by decide) (hts _ fl_M_56) (fun _ h9 => h9) rfl d_M_question_29 ?_
        refine lv_iload_n hx hb d_M_question_32 rfl (lv_at hl 1 rfl) ?_
        have hg := fn_g hf
        have hf := fn_t hg hf
        refine va_iast hx hb hK hP hD hS 1 0 rfl rfl (fn_v hg) d_M_question_33 (fun H locs hP hD hS => ?_)
        have hP : va_P D zz_cl [(md, .inr (6, [.int mdN, .int mdL, .ref mWh, .ref mTr, .ref mCo, .int mdS, .ref mWi, .ref mPc, .ref mIt, .int mdQ, .ref mRo, .ref mKn, .ref mNe, .ref mSe, .ref mVa, .ref mLa])), (mWi, .inl (cK 0, 12, .inl (upd mWif (Int32.toNatClampNeg mdQ) v1))), (mPc, .inl (cK 0, 12, .inl mPcf)), (mKn, .inl (cK 1, 744, .inl mKnf))] H := hP
        have hD : va_D A [(md, .inr (6, [.int mdN, .int mdL, .ref mWh, .ref mTr, .ref mCo, .int mdS, .ref mWi, .ref mPc, .ref mIt, .int mdQ, .ref mRo, .ref mKn, .ref mNe, .ref mSe, .ref mVa, .ref mLa])), (mWi, .inl (cK 0, 12, .inl (upd mWif (Int32.toNatClampNeg mdQ) v1))), (mPc, .inl (cK 0, 12, .inl mPcf)), (mKn, .inl (cK 1, 744, .inl mKnf))] := hD
        refine lv_aload_n hx hb d_M_question_34 rfl (lv_at hl 0 rfl) ?_
        refine va_get (D := D) (ci := 6) (v := .ref mPc) (C := RK6) (T := TK6) (N := 16) hx hb hts iwK6 hown hK hP 0 rfl rfl 7 (by decide) (hts _ fl_M_23) (fun _ h9 => h9) rfl d_M_question_35 ?_
        refine lv_aload_n hx hb d_M_question_38 rfl (lv_at hl 0 rfl) ?_
        refine va_get (D := D) (ci := 6) (v := .int mdQ) (C := RK6) (T := TK6) (N := 16) hx hb hts iwK6 hown hK hP 0 rfl rfl 9 (by decide) (hts _ fl_M_56) (fun _ h9 => h9) rfl d_M_question_39 ?_
        refine lv_iconst (v := 0) hx hb d_M_question_42 (by decide) ?_
        have hg := fn_g hf
        have hf := fn_t hg hf
        refine va_iast hx hb hK hP hD hS 2 0 rfl rfl (fn_v hg) d_M_question_43 (fun H locs hP hD hS => ?_)
        have hP : va_P D zz_cl [(md, .inr (6, [.int mdN, .int mdL, .ref mWh, .ref mTr, .ref mCo, .int mdS, .ref mWi, .ref mPc, .ref mIt, .int mdQ, .ref mRo, .ref mKn, .ref mNe, .ref mSe, .ref mVa, .ref mLa])), (mWi, .inl (cK 0, 12, .inl (upd mWif (Int32.toNatClampNeg mdQ) v1))), (mPc, .inl (cK 0, 12, .inl (upd mPcf (Int32.toNatClampNeg mdQ) 0))), (mKn, .inl (cK 1, 744, .inl mKnf))] H := hP
        have hD : va_D A [(md, .inr (6, [.int mdN, .int mdL, .ref mWh, .ref mTr, .ref mCo, .int mdS, .ref mWi, .ref mPc, .ref mIt, .int mdQ, .ref mRo, .ref mKn, .ref mNe, .ref mSe, .ref mVa, .ref mLa])), (mWi, .inl (cK 0, 12, .inl (upd mWif (Int32.toNatClampNeg mdQ) v1))), (mPc, .inl (cK 0, 12, .inl (upd mPcf (Int32.toNatClampNeg mdQ) 0))), (mKn, .inl (cK 1, 744, .inl mKnf))] := hD
        refine lv_aload_n hx hb d_M_question_44 rfl (lv_at hl 0 rfl) ?_
        refine lv_aload_n hx hb d_M_question_45 rfl (lv_at hl 0 rfl) ?_
        refine va_get (D := D) (ci := 6) (v := .int mdQ) (C := RK6) (T := TK6) (N := 16) hx hb hts iwK6 hown hK hP 0 rfl rfl 9 (by decide) (hts _ fl_M_56) (fun _ h9 => h9) rfl d_M_question_46 ?_
        refine lv_iconst (v := 0) hx hb d_M_question_49 (by decide) ?_
        obtain ⟨mKnf_50, hcl, hf⟩ := fn_e1 hf
        refine cv_WrV (rest := []) (wr := [(mWi, .inl (cK 0, 12, .inl (upd mWif (Int32.toNatClampNeg mdQ) v1))), (mPc, .inl (cK 0, 12, .inl (upd mPcf (Int32.toNatClampNeg mdQ) 0)))]) (w' := [(md, .inr (6, [.int mdN, .int mdL, .ref mWh, .ref mTr, .ref mCo, .int mdS, .ref mWi, .ref mPc, .ref mIt, .int mdQ, .ref mRo, .ref mKn, .ref mNe, .ref mSe, .ref mVa, .ref mLa])), (mWi, .inl (cK 0, 12, .inl (upd mWif (Int32.toNatClampNeg mdQ) v1))), (mPc, .inl (cK 0, 12, .inl (upd mPcf (Int32.toNatClampNeg mdQ) 0))), (mKn, .inl (cK 1, 744, .inl mKnf_50))]) ⟨hx, hb, hml, hown, hts⟩ (c_M_forget l D cK md mWh mTr mCo mWi mPc mIt mRo mKn mNe mSe mVa mLa mdN mdL mdS mdQ mKnf N mdQ 0 mKnf_50 hcl) (cwV 2 hts (zz_V ml_M_82 im_M_forget se_M_forget in_M co_M_forget) rfl rfl rfl ⟨rfl, hd_M_forget⟩ ⟨Nat.le_of_ble_eq_true rfl, Nat.le_of_ble_eq_true rfl⟩) hK hP hD hS hA [0, 3] [1, 2] [2, 0, 1, 3] rfl (by decide) rfl (by decide) (by decide) rfl (by decide) 0 rfl rfl rfl rfl hl.1 rfl (Nat.le_of_ble_eq_true rfl) d_M_question_50 ⟨Nat.zero_le _, Nat.zero_le _⟩ (fun H locs hP hD hS => ?_)
        refine lv_aload_n hx hb d_M_question_53 rfl (lv_at hl 0 rfl) ?_
        refine lv_dup hx hb d_M_question_54 rfl ?_
        refine va_get (D := D) (ci := 6) (v := .int mdQ) (C := RK6) (T := TK6) (N := 16) hx hb hts iwK6 hown hK hP 0 rfl rfl 9 (by decide) (hts _ fl_M_56) (fun _ h9 => h9) rfl d_M_question_55 ?_
        refine lv_iconst (v := 1) hx hb d_M_question_58 (by decide) ?_
        refine lv_iadd hx hb d_M_question_59 ?_
        refine va_put (D := D) (ci := 6) (v := .int (mdQ + 1)) (ty := .int) (C := RK6) (T := TK6) (N := 16) hx hb hts iwK6 tyK6 tyK6_ok nmK6 hown hK hP hD hS 0 rfl rfl 9 (by decide) (hts _ fl_M_56) (fun _ h9 => h9) rfl (by decide +kernel) rfl rfl (Nat.le_of_ble_eq_true rfl) d_M_question_60 (fun H locs hP hD hS => ?_)
        have hP : va_P D zz_cl [(md, .inr (6, [.int mdN, .int mdL, .ref mWh, .ref mTr, .ref mCo, .int mdS, .ref mWi, .ref mPc, .ref mIt, .int (mdQ + 1), .ref mRo, .ref mKn, .ref mNe, .ref mSe, .ref mVa, .ref mLa])), (mWi, .inl (cK 0, 12, .inl (upd mWif (Int32.toNatClampNeg mdQ) v1))), (mPc, .inl (cK 0, 12, .inl (upd mPcf (Int32.toNatClampNeg mdQ) 0))), (mKn, .inl (cK 1, 744, .inl mKnf_50))] H := hP
        have hD : va_D A [(md, .inr (6, [.int mdN, .int mdL, .ref mWh, .ref mTr, .ref mCo, .int mdS, .ref mWi, .ref mPc, .ref mIt, .int (mdQ + 1), .ref mRo, .ref mKn, .ref mNe, .ref mSe, .ref mVa, .ref mLa])), (mWi, .inl (cK 0, 12, .inl (upd mWif (Int32.toNatClampNeg mdQ) v1))), (mPc, .inl (cK 0, 12, .inl (upd mPcf (Int32.toNatClampNeg mdQ) 0))), (mKn, .inl (cK 1, 744, .inl mKnf_50))] := hD
        refine lv_aload_n hx hb d_M_question_63 rfl (lv_at hl 0 rfl) ?_
        refine va_get (D := D) (ci := 6) (v := .int (mdQ + 1)) (C := RK6) (T := TK6) (N := 16) hx hb hts iwK6 hown hK hP 0 rfl rfl 9 (by decide) (hts _ fl_M_56) (fun _ h9 => h9) rfl d_M_question_64 ?_
        refine lv_iconst (v := 1) hx hb d_M_question_67 (by decide) ?_
        refine lv_isub hx hb d_M_question_68 ?_
        cases hf
        exact hret _ _ 69 _ hP hD hS rfl d_M_question_69
      · have hf := fn_t hc hf
        refine lv_bipush (v := (-3)) hx hb d_M_question_21 (by decide) ?_
        cases hf
        exact hret _ _ 23 _ hP hD hS rfl d_M_question_23
    · have hf := fn_f hc hf
      refine lv_iconst (v := (-1)) hx hb d_M_question_10 (by decide) ?_
      cases hf
      exact hret _ _ 11 _ hP hD hS rfl d_M_question_11
abbrev rm_M_isItem : Room := { frames := 0, cells := 0, slots := 0, locals := 0 }
set_option maxHeartbeats 4000000 in
set_option maxRecDepth 100000 in
theorem c_M_isItem (l : Launch) (D : va_G) (cK : Nat → ClassId)  (v0 : Int32) (v1 : Int32) (r : Int32) (hf : f_M_isItem v0 v1 = some r) : RdI l y_M_isItem w_M_isItem rm_M_isItem D zz_cl (mt_ty cK RK2) [.int v0, .int v1] [] r := by
  refine mk_RdI (cc := b_M_isItem) (maxL := 2) (ty := .boolean) (by decide +kernel) rfl (Nat.le_of_ble_eq_true rfl) ?_
  intro p e s m below meth c args Q ls hx hb hml hown hts hK hP hret hl
  have hl : lv_has ls 2 [(0, .int v0), (1, .int v1)] := hl
  unfold f_M_isItem at hf
  refine lv_iload_n hx hb d_M_isItem_0 rfl (lv_at hl 0 rfl) ?_
  refine lv_bipush (v := (-4)) hx hb d_M_isItem_1 (by decide) ?_
  refine lv_icmp_lt (tgt := 15) hx hb d_M_isItem_3 (by decide) (fun hc => ?_) (fun hc => ?_)
  · have hf := fn_t hc hf
    refine lv_iconst (v := 0) hx hb d_M_isItem_15 (by decide) ?_
    cases hf
    exact hret 16 _ rfl d_M_isItem_16
  · have hf := fn_f hc hf
    refine lv_iload_n hx hb d_M_isItem_6 rfl (lv_at hl 0 rfl) ?_
    refine lv_iload_n hx hb d_M_isItem_7 rfl (lv_at hl 1 rfl) ?_
    refine lv_icmp_ge (tgt := 15) hx hb d_M_isItem_8 (by decide) (fun hc => ?_) (fun hc => ?_)
    · have hf := fn_t hc hf
      refine lv_iconst (v := 0) hx hb d_M_isItem_15 (by decide) ?_
      cases hf
      exact hret 16 _ rfl d_M_isItem_16
    · have hf := fn_f hc hf
      refine lv_iconst (v := 1) hx hb d_M_isItem_11 (by decide) ?_
      refine lv_goto (tgt := 16) hx hb d_M_isItem_12 (by decide) ?_
      cases hf
      exact hret 16 _ rfl d_M_isItem_16
abbrev rm_M_pattern : Room := { frames := 1, cells := 0, slots := 0, locals := 23 }
set_option maxHeartbeats 4000000 in
set_option maxRecDepth 100000 in
theorem c_M_pattern (l : Launch) (D : va_G) (cK : Nat → ClassId) (md mWh mTr mCo mWi mPc mIt mRo mKn mNe mSe mVa mLa : Nat) (mdN : Int32) (mdL : Int32) (mdS : Int32) (mdQ : Int32) (mPcf : Nat → Int32) (mItf : Nat → Int32) (mKnf : Nat → Int32) (N : Nat) (v1 : Int32) (v2 : Int32) (v3 : Int32) (v4 : Int32) (r : Int32) (o_mPcf : Nat → Int32) (o_mItf : Nat → Int32) (o_mKnf : Nat → Int32) (hf : f_M_pattern N mdQ mPcf mItf mKnf v1 v2 v3 v4 = some (r, o_mPcf, o_mItf, o_mKnf)) : WrI l y_M_pattern w_M_pattern rm_M_pattern D zz_cl (mt_ty cK RK2) [.ref md, .int v1, .int v2, .int v3, .int v4] [(md, .inr (6, [.int mdN, .int mdL, .ref mWh, .ref mTr, .ref mCo, .int mdS, .ref mWi, .ref mPc, .ref mIt, .int mdQ, .ref mRo, .ref mKn, .ref mNe, .ref mSe, .ref mVa, .ref mLa])), (mPc, .inl (cK 0, 12, .inl mPcf)), (mIt, .inl (cK 0, 108, .inl mItf)), (mKn, .inl (cK 1, 744, .inl mKnf))] [(md, .inr (6, [.int mdN, .int mdL, .ref mWh, .ref mTr, .ref mCo, .int mdS, .ref mWi, .ref mPc, .ref mIt, .int mdQ, .ref mRo, .ref mKn, .ref mNe, .ref mSe, .ref mVa, .ref mLa])), (mPc, .inl (cK 0, 12, .inl o_mPcf)), (mIt, .inl (cK 0, 108, .inl o_mItf)), (mKn, .inl (cK 1, 744, .inl o_mKnf))] r := by
  refine mk_WrI (cc := b_M_pattern) (maxL := 6) (ty := .int) (by decide +kernel) rfl (Nat.le_of_ble_eq_true rfl) ?_
  intro p e s m below meth c args Q A ls hx hb hml hown hts hA hK hP hD hret hl
  have hS : va_S A s.heap s.heap [] := va_S.rf
  have hl : lv_has ls 6 [(0, .ref md), (1, .int v1), (2, .int v2), (3, .int v3), (4, .int v4)] := hl
  unfold f_M_pattern at hf
  refine lv_aload_n hx hb d_M_pattern_0 rfl (lv_at hl 0 rfl) ?_
  refine lv_iload_n hx hb d_M_pattern_1 rfl (lv_at hl 1 rfl) ?_
  obtain ⟨r_2, hcl, hf⟩ := fn_e1 hf
  refine cv_RdI (rest := []) ⟨hx, hb, hml, hown, hts⟩ (c_M_isQuestion l D cK md mWh mTr mCo mWi mPc mIt mRo mKn mNe mSe mVa mLa mdN mdL mdS mdQ v1 r_2 hcl) (cwV 1 hts (zz_V ml_M_90 im_M_isQuestion se_M_isQuestion in_M co_M_isQuestion) rfl rfl rfl ⟨rfl, hd_M_isQuestion⟩ ⟨Nat.le_of_ble_eq_true rfl, Nat.le_of_ble_eq_true rfl⟩) hK hP [0] rfl 0 rfl rfl rfl rfl hl.1 rfl (Nat.le_of_ble_eq_true rfl) d_M_pattern_2 ⟨Nat.zero_le _, Nat.zero_le _⟩ ?_
  refine lv_if_eq (tgt := 36) hx hb d_M_pattern_5 (by decide) (fun hc => ?_) (fun hc => ?_)
  · have hf := fn_t hc hf
    refine lv_iconst (v := (-1)) hx hb d_M_pattern_36 (by decide) ?_
    cases hf
    exact hret _ _ 37 _ hP hD hS rfl d_M_pattern_37
  · have hf := fn_f hc hf
    refine lv_iload_n hx hb d_M_pattern_8 rfl (lv_at hl 2 rfl) ?_
    refine lv_bipush (v := 16) hx hb d_M_pattern_9 (by decide) ?_
    obtain ⟨r_11, hcl, hf⟩ := fn_e1 hf
    refine cs_RdI (rest := []) ⟨hx, hb, hml, hown, hts⟩ (c_M_isItem l D cK v2 16 r_11 hcl) (va_cwS 2 hts (zz_S ml_M_93 st_M_isItem in_M co_M_isItem) rfl rfl rfl hd_M_isItem ⟨Nat.le_of_ble_eq_true rfl, Nat.le_of_ble_eq_true rfl⟩) hK hP [] rfl rfl hl.1 rfl (Nat.le_of_ble_eq_true rfl) d_M_pattern_11 ⟨Nat.zero_le _, Nat.zero_le _⟩ ?_
    refine lv_if_eq (tgt := 36) hx hb d_M_pattern_14 (by decide) (fun hc => ?_) (fun hc => ?_)
    · have hf := fn_t hc hf
      refine lv_iconst (v := (-1)) hx hb d_M_pattern_36 (by decide) ?_
      cases hf
      exact hret _ _ 37 _ hP hD hS rfl d_M_pattern_37
    · have hf := fn_f hc hf
      refine lv_iload_n hx hb d_M_pattern_17 rfl (lv_at hl 3 rfl) ?_
      refine lv_bipush (v := 8) hx hb d_M_pattern_18 (by decide) ?_
      obtain ⟨r_20, hcl, hf⟩ := fn_e1 hf
      refine cs_RdI (rest := []) ⟨hx, hb, hml, hown, hts⟩ (c_M_isItem l D cK v3 8 r_20 hcl) (va_cwS 2 hts (zz_S ml_M_93 st_M_isItem in_M co_M_isItem) rfl rfl rfl hd_M_isItem ⟨Nat.le_of_ble_eq_true rfl, Nat.le_of_ble_eq_true rfl⟩) hK hP [] rfl rfl hl.1 rfl (Nat.le_of_ble_eq_true rfl) d_M_pattern_20 ⟨Nat.zero_le _, Nat.zero_le _⟩ ?_
      refine lv_if_eq (tgt := 36) hx hb d_M_pattern_23 (by decide) (fun hc => ?_) (fun hc => ?_)
      · have hf := fn_t hc hf
        refine lv_iconst (v := (-1)) hx hb d_M_pattern_36 (by decide) ?_
        cases hf
        exact hret _ _ 37 _ hP hD hS rfl d_M_pattern_37
      · have hf := fn_f hc hf
        refine lv_iload hx hb d_M_pattern_26 (lv_at hl 4 rfl) ?_
        refine lv_bipush (v := 16) hx hb d_M_pattern_28 (by decide) ?_
        obtain ⟨r_30, hcl, hf⟩ := fn_e1 hf
        refine cs_RdI (rest := []) ⟨hx, hb, hml, hown, hts⟩ (c_M_isItem l D cK v4 16 r_30 hcl) (va_cwS 2 hts (zz_S ml_M_93 st_M_isItem in_M co_M_isItem) rfl rfl rfl hd_M_isItem ⟨Nat.le_of_ble_eq_true rfl, Nat.le_of_ble_eq_true rfl⟩) hK hP [] rfl rfl hl.1 rfl (Nat.le_of_ble_eq_true rfl) d_M_pattern_30 ⟨Nat.zero_le _, Nat.zero_le _⟩ ?_
        refine lv_if_ne (tgt := 38) hx hb d_M_pattern_33 (by decide) (fun hc => ?_) (fun hc => ?_)
        · have hf := fn_f hc hf
          refine lv_aload_n hx hb d_M_pattern_38 rfl (lv_at hl 0 rfl) ?_
          refine va_get (D := D) (ci := 6) (v := .ref mPc) (C := RK6) (T := TK6) (N := 16) hx hb hts iwK6 hown hK hP 0 rfl rfl 7 (by decide) (hts _ fl_M_23) (fun _ h9 => h9) rfl d_M_pattern_39 ?_
          refine lv_iload_n hx hb d_M_pattern_42 rfl (lv_at hl 1 rfl) ?_
          have hg := fn_g hf
          have hf := fn_t hg hf
          refine va_iald hx hb hK hP 1 0 rfl rfl (fn_v hg) d_M_pattern_43 ?_
          refine lv_iconst (v := 3) hx hb d_M_pattern_44 (by decide) ?_
          refine lv_icmp_ne (tgt := 51) hx hb d_M_pattern_45 (by decide) (fun hc => ?_) (fun hc => ?_)
          · have hf := fn_f hc hf
            refine lv_bipush (v := 9) hx hb d_M_pattern_51 (by decide) ?_
            refine lv_iload_n hx hb d_M_pattern_53 rfl (lv_at hl 1 rfl) ?_
            refine lv_imul hx hb d_M_pattern_54 ?_
            refine lv_iconst (v := 3) hx hb d_M_pattern_55 (by decide) ?_
            refine lv_aload_n hx hb d_M_pattern_56 rfl (lv_at hl 0 rfl) ?_
            refine va_get (D := D) (ci := 6) (v := .ref mPc) (C := RK6) (T := TK6) (N := 16) hx hb hts iwK6 hown hK hP 0 rfl rfl 7 (by decide) (hts _ fl_M_23) (fun _ h9 => h9) rfl d_M_pattern_57 ?_
            refine lv_iload_n hx hb d_M_pattern_60 rfl (lv_at hl 1 rfl) ?_
            have hg := fn_g hf
            have hf := fn_t hg hf
            refine va_iald hx hb hK hP 1 0 rfl rfl (fn_v hg) d_M_pattern_61 ?_
            refine lv_imul hx hb d_M_pattern_62 ?_
            refine lv_iadd hx hb d_M_pattern_63 ?_
            refine lv_istore (lv' := [(5, .int ((9 * v1) + (3 * (mPcf (Int32.toNatClampNeg v1))))), (0, .ref md), (1, .int v1), (2, .int v2), (3, .int v3), (4, .int v4)]) hx hb d_M_pattern_64 hl (by decide) rfl (fun ls hl => ?_)
            refine lv_aload_n hx hb d_M_pattern_66 rfl (lv_at hl 1 rfl) ?_
            refine va_get (D := D) (ci := 6) (v := .ref mIt) (C := RK6) (T := TK6) (N := 16) hx hb hts iwK6 hown hK hP 0 rfl rfl 8 (by decide) (hts _ fl_M_26) (fun _ h9 => h9) rfl d_M_pattern_67 ?_
            refine lv_iload hx hb d_M_pattern_70 (lv_at hl 0 rfl) ?_
            refine lv_iload_n hx hb d_M_pattern_72 rfl (lv_at hl 3 rfl) ?_
            have hg := fn_g hf
            have hf := fn_t hg hf
            refine va_iast hx hb hK hP hD hS 2 0 rfl rfl (fn_v hg) d_M_pattern_73 (fun H locs hP hD hS => ?_)
            have hP : va_P D zz_cl [(md, .inr (6, [.int mdN, .int mdL, .ref mWh, .ref mTr, .ref mCo, .int mdS, .ref mWi, .ref mPc, .ref mIt, .int mdQ, .ref mRo, .ref mKn, .ref mNe, .ref mSe, .ref mVa, .ref mLa])), (mPc, .inl (cK 0, 12, .inl mPcf)), (mIt, .inl (cK 0, 108, .inl (upd mItf (Int32.toNatClampNeg ((9 * v1) + (3 * (mPcf (Int32.toNatClampNeg v1))))) v2))), (mKn, .inl (cK 1, 744, .inl mKnf))] H := hP
            have hD : va_D A [(md, .inr (6, [.int mdN, .int mdL, .ref mWh, .ref mTr, .ref mCo, .int mdS, .ref mWi, .ref mPc, .ref mIt, .int mdQ, .ref mRo, .ref mKn, .ref mNe, .ref mSe, .ref mVa, .ref mLa])), (mPc, .inl (cK 0, 12, .inl mPcf)), (mIt, .inl (cK 0, 108, .inl (upd mItf (Int32.toNatClampNeg ((9 * v1) + (3 * (mPcf (Int32.toNatClampNeg v1))))) v2))), (mKn, .inl (cK 1, 744, .inl mKnf))] := hD
            refine lv_aload_n hx hb d_M_pattern_74 rfl (lv_at hl 1 rfl) ?_
            refine va_get (D := D) (ci := 6) (v := .ref mIt) (C := RK6) (T := TK6) (N := 16) hx hb hts iwK6 hown hK hP 0 rfl rfl 8 (by decide) (hts _ fl_M_26) (fun _ h9 => h9) rfl d_M_pattern_75 ?_
            refine lv_iload hx hb d_M_pattern_78 (lv_at hl 0 rfl) ?_
            refine lv_iconst (v := 1) hx hb d_M_pattern_80 (by decide) ?_
            refine lv_iadd hx hb d_M_pattern_81 ?_
            refine lv_iload_n hx hb d_M_pattern_82 rfl (lv_at hl 4 rfl) ?_
            have hg := fn_g hf
            have hf := fn_t hg hf
            refine va_iast hx hb hK hP hD hS 2 0 rfl rfl (fn_v hg) d_M_pattern_83 (fun H locs hP hD hS => ?_)
            have hP : va_P D zz_cl [(md, .inr (6, [.int mdN, .int mdL, .ref mWh, .ref mTr, .ref mCo, .int mdS, .ref mWi, .ref mPc, .ref mIt, .int mdQ, .ref mRo, .ref mKn, .ref mNe, .ref mSe, .ref mVa, .ref mLa])), (mPc, .inl (cK 0, 12, .inl mPcf)), (mIt, .inl (cK 0, 108, .inl (upd (upd mItf (Int32.toNatClampNeg ((9 * v1) + (3 * (mPcf (Int32.toNatClampNeg v1))))) v2) (Int32.toNatClampNeg (((9 * v1) + (3 * (mPcf (Int32.toNatClampNeg v1)))) + 1)) v3))), (mKn, .inl (cK 1, 744, .inl mKnf))] H := hP
            have hD : va_D A [(md, .inr (6, [.int mdN, .int mdL, .ref mWh, .ref mTr, .ref mCo, .int mdS, .ref mWi, .ref mPc, .ref mIt, .int mdQ, .ref mRo, .ref mKn, .ref mNe, .ref mSe, .ref mVa, .ref mLa])), (mPc, .inl (cK 0, 12, .inl mPcf)), (mIt, .inl (cK 0, 108, .inl (upd (upd mItf (Int32.toNatClampNeg ((9 * v1) + (3 * (mPcf (Int32.toNatClampNeg v1))))) v2) (Int32.toNatClampNeg (((9 * v1) + (3 * (mPcf (Int32.toNatClampNeg v1)))) + 1)) v3))), (mKn, .inl (cK 1, 744, .inl mKnf))] := hD
            refine lv_aload_n hx hb d_M_pattern_84 rfl (lv_at hl 1 rfl) ?_
            refine va_get (D := D) (ci := 6) (v := .ref mIt) (C := RK6) (T := TK6) (N := 16) hx hb hts iwK6 hown hK hP 0 rfl rfl 8 (by decide) (hts _ fl_M_26) (fun _ h9 => h9) rfl d_M_pattern_85 ?_
            refine lv_iload hx hb d_M_pattern_88 (lv_at hl 0 rfl) ?_
            refine lv_iconst (v := 2) hx hb d_M_pattern_90 (by decide) ?_
            refine lv_iadd hx hb d_M_pattern_91 ?_
            refine lv_iload hx hb d_M_pattern_92 (lv_at hl 5 rfl) ?_
            have hg := fn_g hf
            have hf := fn_t hg hf
            refine va_iast hx hb hK hP hD hS 2 0 rfl rfl (fn_v hg) d_M_pattern_94 (fun H locs hP hD hS => ?_)
            have hP : va_P D zz_cl [(md, .inr (6, [.int mdN, .int mdL, .ref mWh, .ref mTr, .ref mCo, .int mdS, .ref mWi, .ref mPc, .ref mIt, .int mdQ, .ref mRo, .ref mKn, .ref mNe, .ref mSe, .ref mVa, .ref mLa])), (mPc, .inl (cK 0, 12, .inl mPcf)), (mIt, .inl (cK 0, 108, .inl (upd (upd (upd mItf (Int32.toNatClampNeg ((9 * v1) + (3 * (mPcf (Int32.toNatClampNeg v1))))) v2) (Int32.toNatClampNeg (((9 * v1) + (3 * (mPcf (Int32.toNatClampNeg v1)))) + 1)) v3) (Int32.toNatClampNeg (((9 * v1) + (3 * (mPcf (Int32.toNatClampNeg v1)))) + 2)) v4))), (mKn, .inl (cK 1, 744, .inl mKnf))] H := hP
            have hD : va_D A [(md, .inr (6, [.int mdN, .int mdL, .ref mWh, .ref mTr, .ref mCo, .int mdS, .ref mWi, .ref mPc, .ref mIt, .int mdQ, .ref mRo, .ref mKn, .ref mNe, .ref mSe, .ref mVa, .ref mLa])), (mPc, .inl (cK 0, 12, .inl mPcf)), (mIt, .inl (cK 0, 108, .inl (upd (upd (upd mItf (Int32.toNatClampNeg ((9 * v1) + (3 * (mPcf (Int32.toNatClampNeg v1))))) v2) (Int32.toNatClampNeg (((9 * v1) + (3 * (mPcf (Int32.toNatClampNeg v1)))) + 1)) v3) (Int32.toNatClampNeg (((9 * v1) + (3 * (mPcf (Int32.toNatClampNeg v1)))) + 2)) v4))), (mKn, .inl (cK 1, 744, .inl mKnf))] := hD
            refine lv_aload_n hx hb d_M_pattern_95 rfl (lv_at hl 1 rfl) ?_
            refine va_get (D := D) (ci := 6) (v := .ref mPc) (C := RK6) (T := TK6) (N := 16) hx hb hts iwK6 hown hK hP 0 rfl rfl 7 (by decide) (hts _ fl_M_23) (fun _ h9 => h9) rfl d_M_pattern_96 ?_
            refine lv_iload_n hx hb d_M_pattern_99 rfl (lv_at hl 2 rfl) ?_
            refine lv_dup2_11 hx hb d_M_pattern_100 rfl rfl ?_
            have hg := fn_g hf
            have hf := fn_t hg hf
            refine va_iald hx hb hK hP 1 0 rfl rfl (fn_v hg) d_M_pattern_101 ?_
            refine lv_iconst (v := 1) hx hb d_M_pattern_102 (by decide) ?_
            refine lv_iadd hx hb d_M_pattern_103 ?_
            have hg := fn_g hf
            have hf := fn_t hg hf
            refine va_iast hx hb hK hP hD hS 1 0 rfl rfl (fn_v hg) d_M_pattern_104 (fun H locs hP hD hS => ?_)
            have hP : va_P D zz_cl [(md, .inr (6, [.int mdN, .int mdL, .ref mWh, .ref mTr, .ref mCo, .int mdS, .ref mWi, .ref mPc, .ref mIt, .int mdQ, .ref mRo, .ref mKn, .ref mNe, .ref mSe, .ref mVa, .ref mLa])), (mPc, .inl (cK 0, 12, .inl (upd mPcf (Int32.toNatClampNeg v1) ((mPcf (Int32.toNatClampNeg v1)) + 1)))), (mIt, .inl (cK 0, 108, .inl (upd (upd (upd mItf (Int32.toNatClampNeg ((9 * v1) + (3 * (mPcf (Int32.toNatClampNeg v1))))) v2) (Int32.toNatClampNeg (((9 * v1) + (3 * (mPcf (Int32.toNatClampNeg v1)))) + 1)) v3) (Int32.toNatClampNeg (((9 * v1) + (3 * (mPcf (Int32.toNatClampNeg v1)))) + 2)) v4))), (mKn, .inl (cK 1, 744, .inl mKnf))] H := hP
            have hD : va_D A [(md, .inr (6, [.int mdN, .int mdL, .ref mWh, .ref mTr, .ref mCo, .int mdS, .ref mWi, .ref mPc, .ref mIt, .int mdQ, .ref mRo, .ref mKn, .ref mNe, .ref mSe, .ref mVa, .ref mLa])), (mPc, .inl (cK 0, 12, .inl (upd mPcf (Int32.toNatClampNeg v1) ((mPcf (Int32.toNatClampNeg v1)) + 1)))), (mIt, .inl (cK 0, 108, .inl (upd (upd (upd mItf (Int32.toNatClampNeg ((9 * v1) + (3 * (mPcf (Int32.toNatClampNeg v1))))) v2) (Int32.toNatClampNeg (((9 * v1) + (3 * (mPcf (Int32.toNatClampNeg v1)))) + 1)) v3) (Int32.toNatClampNeg (((9 * v1) + (3 * (mPcf (Int32.toNatClampNeg v1)))) + 2)) v4))), (mKn, .inl (cK 1, 744, .inl mKnf))] := hD
            refine lv_aload_n hx hb d_M_pattern_105 rfl (lv_at hl 1 rfl) ?_
            refine lv_iload_n hx hb d_M_pattern_106 rfl (lv_at hl 2 rfl) ?_
            refine lv_iconst (v := 0) hx hb d_M_pattern_107 (by decide) ?_
            obtain ⟨mKnf_108, hcl, hf⟩ := fn_e1 hf
            refine cv_WrV (rest := []) (wr := [(mPc, .inl (cK 0, 12, .inl (upd mPcf (Int32.toNatClampNeg v1) ((mPcf (Int32.toNatClampNeg v1)) + 1)))), (mIt, .inl (cK 0, 108, .inl (upd (upd (upd mItf (Int32.toNatClampNeg ((9 * v1) + (3 * (mPcf (Int32.toNatClampNeg v1))))) v2) (Int32.toNatClampNeg (((9 * v1) + (3 * (mPcf (Int32.toNatClampNeg v1)))) + 1)) v3) (Int32.toNatClampNeg (((9 * v1) + (3 * (mPcf (Int32.toNatClampNeg v1)))) + 2)) v4)))]) (w' := [(md, .inr (6, [.int mdN, .int mdL, .ref mWh, .ref mTr, .ref mCo, .int mdS, .ref mWi, .ref mPc, .ref mIt, .int mdQ, .ref mRo, .ref mKn, .ref mNe, .ref mSe, .ref mVa, .ref mLa])), (mPc, .inl (cK 0, 12, .inl (upd mPcf (Int32.toNatClampNeg v1) ((mPcf (Int32.toNatClampNeg v1)) + 1)))), (mIt, .inl (cK 0, 108, .inl (upd (upd (upd mItf (Int32.toNatClampNeg ((9 * v1) + (3 * (mPcf (Int32.toNatClampNeg v1))))) v2) (Int32.toNatClampNeg (((9 * v1) + (3 * (mPcf (Int32.toNatClampNeg v1)))) + 1)) v3) (Int32.toNatClampNeg (((9 * v1) + (3 * (mPcf (Int32.toNatClampNeg v1)))) + 2)) v4))), (mKn, .inl (cK 1, 744, .inl mKnf_108))]) ⟨hx, hb, hml, hown, hts⟩ (c_M_forget l D cK md mWh mTr mCo mWi mPc mIt mRo mKn mNe mSe mVa mLa mdN mdL mdS mdQ mKnf N v1 0 mKnf_108 hcl) (cwV 2 hts (zz_V ml_M_82 im_M_forget se_M_forget in_M co_M_forget) rfl rfl rfl ⟨rfl, hd_M_forget⟩ ⟨Nat.le_of_ble_eq_true rfl, Nat.le_of_ble_eq_true rfl⟩) hK hP hD hS hA [0, 3] [1, 2] [2, 0, 1, 3] rfl (by decide) rfl (by decide) (by decide) rfl (by decide) 0 rfl rfl rfl rfl hl.1 rfl (Nat.le_of_ble_eq_true rfl) d_M_pattern_108 ⟨Nat.zero_le _, Nat.zero_le _⟩ (fun H locs hP hD hS => ?_)
            refine lv_aload_n hx hb d_M_pattern_111 rfl (lv_at hl 1 rfl) ?_
            refine va_get (D := D) (ci := 6) (v := .ref mPc) (C := RK6) (T := TK6) (N := 16) hx hb hts iwK6 hown hK hP 0 rfl rfl 7 (by decide) (hts _ fl_M_23) (fun _ h9 => h9) rfl d_M_pattern_112 ?_
            refine lv_iload_n hx hb d_M_pattern_115 rfl (lv_at hl 2 rfl) ?_
            have hg := fn_g hf
            have hf := fn_t hg hf
            refine va_iald hx hb hK hP 1 0 rfl rfl (fn_v hg) d_M_pattern_116 ?_
            cases hf
            exact hret _ _ 117 _ hP hD hS rfl d_M_pattern_117
          · have hf := fn_t hc hf
            refine lv_bipush (v := (-3)) hx hb d_M_pattern_48 (by decide) ?_
            cases hf
            exact hret _ _ 50 _ hP hD hS rfl d_M_pattern_50
        · have hf := fn_t hc hf
          refine lv_iconst (v := (-1)) hx hb d_M_pattern_36 (by decide) ?_
          cases hf
          exact hret _ _ 37 _ hP hD hS rfl d_M_pattern_37
abbrev rm_M_window : Room := { frames := 1, cells := 0, slots := 0, locals := 23 }
set_option maxHeartbeats 4000000 in
set_option maxRecDepth 100000 in
theorem c_M_window (l : Launch) (D : va_G) (cK : Nat → ClassId) (md mWh mTr mCo mWi mPc mIt mRo mKn mNe mSe mVa mLa : Nat) (mdN : Int32) (mdL : Int32) (mdS : Int32) (mdQ : Int32) (mWif : Nat → Int32) (mKnf : Nat → Int32) (N : Nat) (v1 : Int32) (v2 : Int32) (r : Int32) (o_mWif : Nat → Int32) (o_mKnf : Nat → Int32) (hf : f_M_window N mdQ mWif mKnf v1 v2 = some (r, o_mWif, o_mKnf)) : WrI l y_M_window w_M_window rm_M_window D zz_cl (mt_ty cK RK2) [.ref md, .int v1, .int v2] [(md, .inr (6, [.int mdN, .int mdL, .ref mWh, .ref mTr, .ref mCo, .int mdS, .ref mWi, .ref mPc, .ref mIt, .int mdQ, .ref mRo, .ref mKn, .ref mNe, .ref mSe, .ref mVa, .ref mLa])), (mWi, .inl (cK 0, 12, .inl mWif)), (mKn, .inl (cK 1, 744, .inl mKnf))] [(md, .inr (6, [.int mdN, .int mdL, .ref mWh, .ref mTr, .ref mCo, .int mdS, .ref mWi, .ref mPc, .ref mIt, .int mdQ, .ref mRo, .ref mKn, .ref mNe, .ref mSe, .ref mVa, .ref mLa])), (mWi, .inl (cK 0, 12, .inl o_mWif)), (mKn, .inl (cK 1, 744, .inl o_mKnf))] r := by
  refine mk_WrI (cc := b_M_window) (maxL := 4) (ty := .int) (by decide +kernel) rfl (Nat.le_of_ble_eq_true rfl) ?_
  intro p e s m below meth c args Q A ls hx hb hml hown hts hA hK hP hD hret hl
  have hS : va_S A s.heap s.heap [] := va_S.rf
  have hl : lv_has ls 4 [(0, .ref md), (1, .int v1), (2, .int v2)] := hl
  unfold f_M_window at hf
  refine lv_aload_n hx hb d_M_window_0 rfl (lv_at hl 0 rfl) ?_
  refine lv_iload_n hx hb d_M_window_1 rfl (lv_at hl 1 rfl) ?_
  obtain ⟨r_2, hcl, hf⟩ := fn_e1 hf
  refine cv_RdI (rest := []) ⟨hx, hb, hml, hown, hts⟩ (c_M_isQuestion l D cK md mWh mTr mCo mWi mPc mIt mRo mKn mNe mSe mVa mLa mdN mdL mdS mdQ v1 r_2 hcl) (cwV 1 hts (zz_V ml_M_90 im_M_isQuestion se_M_isQuestion in_M co_M_isQuestion) rfl rfl rfl ⟨rfl, hd_M_isQuestion⟩ ⟨Nat.le_of_ble_eq_true rfl, Nat.le_of_ble_eq_true rfl⟩) hK hP [0] rfl 0 rfl rfl rfl rfl hl.1 rfl (Nat.le_of_ble_eq_true rfl) d_M_window_2 ⟨Nat.zero_le _, Nat.zero_le _⟩ ?_
  refine lv_if_eq (tgt := 18) hx hb d_M_window_5 (by decide) (fun hc => ?_) (fun hc => ?_)
  · have hf := fn_t hc hf
    refine lv_iconst (v := (-1)) hx hb d_M_window_18 (by decide) ?_
    cases hf
    exact hret _ _ 19 _ hP hD hS rfl d_M_window_19
  · have hf := fn_f hc hf
    refine lv_iload_n hx hb d_M_window_8 rfl (lv_at hl 2 rfl) ?_
    refine lv_if_lt (tgt := 18) hx hb d_M_window_9 (by decide) (fun hc => ?_) (fun hc => ?_)
    · have hf := fn_t hc hf
      refine lv_iconst (v := (-1)) hx hb d_M_window_18 (by decide) ?_
      cases hf
      exact hret _ _ 19 _ hP hD hS rfl d_M_window_19
    · have hf := fn_f hc hf
      refine lv_iload_n hx hb d_M_window_12 rfl (lv_at hl 2 rfl) ?_
      refine lv_bipush (v := 62) hx hb d_M_window_13 (by decide) ?_
      refine lv_icmp_le (tgt := 20) hx hb d_M_window_15 (by decide) (fun hc => ?_) (fun hc => ?_)
      · have hf := fn_t hc hf
        refine lv_aload_n hx hb d_M_window_20 rfl (lv_at hl 0 rfl) ?_
        refine va_get (D := D) (ci := 6) (v := .ref mWi) (C := RK6) (T := TK6) (N := 16) hx hb hts iwK6 hown hK hP 0 rfl rfl 6 (by decide) (hts _ fl_M_20) (fun _ h9 => h9) rfl d_M_window_21 ?_
        refine lv_iload_n hx hb d_M_window_24 rfl (lv_at hl 1 rfl) ?_
        have hg := fn_g hf
        have hf := fn_t hg hf
        refine va_iald hx hb hK hP 1 0 rfl rfl (fn_v hg) d_M_window_25 ?_
        refine lv_istore_n (lv' := [(3, .int (mWif (Int32.toNatClampNeg v1))), (0, .ref md), (1, .int v1), (2, .int v2)]) hx hb d_M_window_26 rfl hl (by decide) rfl (fun ls hl => ?_)
        refine lv_aload_n hx hb d_M_window_27 rfl (lv_at hl 1 rfl) ?_
        refine va_get (D := D) (ci := 6) (v := .ref mWi) (C := RK6) (T := TK6) (N := 16) hx hb hts iwK6 hown hK hP 0 rfl rfl 6 (by decide) (hts _ fl_M_20) (fun _ h9 => h9) rfl d_M_window_28 ?_
        refine lv_iload_n hx hb d_M_window_31 rfl (lv_at hl 2 rfl) ?_
        refine lv_iload_n hx hb d_M_window_32 rfl (lv_at hl 3 rfl) ?_
        have hg := fn_g hf
        have hf := fn_t hg hf
        refine va_iast hx hb hK hP hD hS 1 0 rfl rfl (fn_v hg) d_M_window_33 (fun H locs hP hD hS => ?_)
        have hP : va_P D zz_cl [(md, .inr (6, [.int mdN, .int mdL, .ref mWh, .ref mTr, .ref mCo, .int mdS, .ref mWi, .ref mPc, .ref mIt, .int mdQ, .ref mRo, .ref mKn, .ref mNe, .ref mSe, .ref mVa, .ref mLa])), (mWi, .inl (cK 0, 12, .inl (upd mWif (Int32.toNatClampNeg v1) v2))), (mKn, .inl (cK 1, 744, .inl mKnf))] H := hP
        have hD : va_D A [(md, .inr (6, [.int mdN, .int mdL, .ref mWh, .ref mTr, .ref mCo, .int mdS, .ref mWi, .ref mPc, .ref mIt, .int mdQ, .ref mRo, .ref mKn, .ref mNe, .ref mSe, .ref mVa, .ref mLa])), (mWi, .inl (cK 0, 12, .inl (upd mWif (Int32.toNatClampNeg v1) v2))), (mKn, .inl (cK 1, 744, .inl mKnf))] := hD
        refine lv_aload_n hx hb d_M_window_34 rfl (lv_at hl 1 rfl) ?_
        refine lv_iload_n hx hb d_M_window_35 rfl (lv_at hl 2 rfl) ?_
        refine lv_iconst (v := 0) hx hb d_M_window_36 (by decide) ?_
        obtain ⟨mKnf_37, hcl, hf⟩ := fn_e1 hf
        refine cv_WrV (rest := []) (wr := [(mWi, .inl (cK 0, 12, .inl (upd mWif (Int32.toNatClampNeg v1) v2)))]) (w' := [(md, .inr (6, [.int mdN, .int mdL, .ref mWh, .ref mTr, .ref mCo, .int mdS, .ref mWi, .ref mPc, .ref mIt, .int mdQ, .ref mRo, .ref mKn, .ref mNe, .ref mSe, .ref mVa, .ref mLa])), (mWi, .inl (cK 0, 12, .inl (upd mWif (Int32.toNatClampNeg v1) v2))), (mKn, .inl (cK 1, 744, .inl mKnf_37))]) ⟨hx, hb, hml, hown, hts⟩ (c_M_forget l D cK md mWh mTr mCo mWi mPc mIt mRo mKn mNe mSe mVa mLa mdN mdL mdS mdQ mKnf N v1 0 mKnf_37 hcl) (cwV 2 hts (zz_V ml_M_82 im_M_forget se_M_forget in_M co_M_forget) rfl rfl rfl ⟨rfl, hd_M_forget⟩ ⟨Nat.le_of_ble_eq_true rfl, Nat.le_of_ble_eq_true rfl⟩) hK hP hD hS hA [0, 2] [1] [1, 0, 2] rfl (by decide) rfl (by decide) (by decide) rfl (by decide) 0 rfl rfl rfl rfl hl.1 rfl (Nat.le_of_ble_eq_true rfl) d_M_window_37 ⟨Nat.zero_le _, Nat.zero_le _⟩ (fun H locs hP hD hS => ?_)
        refine lv_iload_n hx hb d_M_window_40 rfl (lv_at hl 0 rfl) ?_
        cases hf
        exact hret _ _ 41 _ hP hD hS rfl d_M_window_41
      · have hf := fn_f hc hf
        refine lv_iconst (v := (-1)) hx hb d_M_window_18 (by decide) ?_
        cases hf
        exact hret _ _ 19 _ hP hD hS rfl d_M_window_19
abbrev rm_M_see : Room := { frames := 0, cells := 0, slots := 0, locals := 0 }
set_option maxHeartbeats 4000000 in
set_option maxRecDepth 100000 in
theorem c_M_see (l : Launch) (D : va_G) (cK : Nat → ClassId) (md mWh mTr mCo mWi mPc mIt mRo mKn mNe mSe mVa mLa : Nat) (mdN : Int32) (mdL : Int32) (mdS : Int32) (mdQ : Int32) (mWhf : Nat → Int32) (mTrf : Nat → Int32) (mCof : Nat → Int32) (mSef : Nat → Int32) (mLaf : Nat → Int32) (N : Nat) (v1 : Int32) (v2 : Int32) (o_mSef : Nat → Int32) (o_mLaf : Nat → Int32) (hf : f_M_see N mdS mWhf mTrf mCof mSef mLaf v1 v2 = some (o_mSef, o_mLaf)) : WrV l y_M_see w_M_see rm_M_see D zz_cl (mt_ty cK RK2) [.ref md, .int v1, .int v2] [(md, .inr (6, [.int mdN, .int mdL, .ref mWh, .ref mTr, .ref mCo, .int mdS, .ref mWi, .ref mPc, .ref mIt, .int mdQ, .ref mRo, .ref mKn, .ref mNe, .ref mSe, .ref mVa, .ref mLa])), (mWh, .inl (cK 0, 400, .inl mWhf)), (mTr, .inl (cK 0, 400, .inl mTrf)), (mCo, .inl (cK 1, 400, .inl mCof)), (mSe, .inl (cK 1, 2048, .inl mSef)), (mLa, .inl (cK 0, 2048, .inl mLaf))] [(md, .inr (6, [.int mdN, .int mdL, .ref mWh, .ref mTr, .ref mCo, .int mdS, .ref mWi, .ref mPc, .ref mIt, .int mdQ, .ref mRo, .ref mKn, .ref mNe, .ref mSe, .ref mVa, .ref mLa])), (mWh, .inl (cK 0, 400, .inl mWhf)), (mTr, .inl (cK 0, 400, .inl mTrf)), (mCo, .inl (cK 1, 400, .inl mCof)), (mSe, .inl (cK 1, 2048, .inl o_mSef)), (mLa, .inl (cK 0, 2048, .inl o_mLaf))] := by
  refine mk_WrV (cc := b_M_see) (maxL := 5) (by decide +kernel) rfl (Nat.le_of_ble_eq_true rfl) ?_
  intro p e s m below meth c args Q A ls hx hb hml hown hts hA hK hP hD hret hl
  have hS : va_S A s.heap s.heap [] := va_S.rf
  have hl : lv_has ls 5 [(0, .ref md), (1, .int v1), (2, .int v2)] := hl
  have J_97 : ∀ (v1 : Int32) (v2 : Int32) (n_97 : Nat) (mSef : Nat → Int32) (mLaf : Nat → Int32) (v3 : Int32) (H : Heap) (locs : List Loc) (ls : Array Slot), f_M_see_97 N mdS mWhf mTrf mCof v1 v2 n_97 mSef mLaf v3 = some (o_mSef, o_mLaf) → va_P D zz_cl [(md, .inr (6, [.int mdN, .int mdL, .ref mWh, .ref mTr, .ref mCo, .int mdS, .ref mWi, .ref mPc, .ref mIt, .int mdQ, .ref mRo, .ref mKn, .ref mNe, .ref mSe, .ref mVa, .ref mLa])), (mWh, .inl (cK 0, 400, .inl mWhf)), (mTr, .inl (cK 0, 400, .inl mTrf)), (mCo, .inl (cK 1, 400, .inl mCof)), (mSe, .inl (cK 1, 2048, .inl mSef)), (mLa, .inl (cK 0, 2048, .inl mLaf))] H → va_D A [(md, .inr (6, [.int mdN, .int mdL, .ref mWh, .ref mTr, .ref mCo, .int mdS, .ref mWi, .ref mPc, .ref mIt, .int mdQ, .ref mRo, .ref mKn, .ref mNe, .ref mSe, .ref mVa, .ref mLa])), (mWh, .inl (cK 0, 400, .inl mWhf)), (mTr, .inl (cK 0, 400, .inl mTrf)), (mCo, .inl (cK 1, 400, .inl mCof)), (mSe, .inl (cK 1, 2048, .inl mSef)), (mLa, .inl (cK 0, 2048, .inl mLaf))] → va_S A s.heap H locs → lv_has ls 5 [(0, .ref md), (1, .int v1), (2, .int v2), (3, .int v3)] → W p l e rm_M_see s m args below meth c H locs 0 0 Q (F0 m 97 ls []) := by
    intro v1 v2 n_97
    induction n_97 with
    | zero =>
      intro mSef mLaf v3 H locs ls hf hP hD hS hl
      exact fn_0 hf
    | succ n_97 ih_97 =>
      intro mSef mLaf v3 H locs ls hf hP hD hS hl
      rw [f_M_see_97.eq_2] at hf
      refine lv_iload_n hx hb d_M_see_97 rfl (lv_at hl 3 rfl) ?_
      refine lv_sipush (v := 2048) hx hb d_M_see_98 (by decide) ?_
      refine lv_icmp_ge (tgt := 161) hx hb d_M_see_101 (by decide) (fun hc => ?_) (fun hc => ?_)
      · have hf := fn_t hc hf
        cases hf
        exact hret _ _ 161 _ hP hD hS d_M_see_161
      · have hf := fn_f hc hf
        refine lv_aload_n hx hb d_M_see_104 rfl (lv_at hl 0 rfl) ?_
        refine va_get (D := D) (ci := 6) (v := .ref mLa) (C := RK6) (T := TK6) (N := 16) hx hb hts iwK6 hown hK hP 0 rfl rfl 15 (by decide) (hts _ fl_M_46) (fun _ h9 => h9) rfl d_M_see_105 ?_
        refine lv_iload_n hx hb d_M_see_108 rfl (lv_at hl 3 rfl) ?_
        have hg := fn_g hf
        have hf := fn_t hg hf
        refine va_iald hx hb hK hP 5 0 rfl rfl (fn_v hg) d_M_see_109 ?_
        refine lv_istore (lv' := [(4, .int (mLaf (Int32.toNatClampNeg v3))), (0, .ref md), (1, .int v1), (2, .int v2), (3, .int v3)]) hx hb d_M_see_110 hl (by decide) rfl (fun ls hl => ?_)
        refine lv_aload_n hx hb d_M_see_112 rfl (lv_at hl 1 rfl) ?_
        refine va_get (D := D) (ci := 6) (v := .ref mSe) (C := RK6) (T := TK6) (N := 16) hx hb hts iwK6 hown hK hP 0 rfl rfl 13 (by decide) (hts _ fl_M_40) (fun _ h9 => h9) rfl d_M_see_113 ?_
        refine lv_iload_n hx hb d_M_see_116 rfl (lv_at hl 4 rfl) ?_
        refine lv_iload hx hb d_M_see_117 (lv_at hl 0 rfl) ?_
        refine lv_if_lt (tgt := 153) hx hb d_M_see_119 (by decide) (fun hc => ?_) (fun hc => ?_)
        · have hf := fn_t hc hf
          refine lv_iconst (v := 0) hx hb d_M_see_153 (by decide) ?_
          have hg := fn_g hf
          have hf := fn_t hg hf
          refine va_zast hx hb hK hP hD hS 4 1 rfl rfl (fn_v hg) d_M_see_154 (fun H locs hP hD hS => ?_)
          have hP : va_P D zz_cl [(md, .inr (6, [.int mdN, .int mdL, .ref mWh, .ref mTr, .ref mCo, .int mdS, .ref mWi, .ref mPc, .ref mIt, .int mdQ, .ref mRo, .ref mKn, .ref mNe, .ref mSe, .ref mVa, .ref mLa])), (mWh, .inl (cK 0, 400, .inl mWhf)), (mTr, .inl (cK 0, 400, .inl mTrf)), (mCo, .inl (cK 1, 400, .inl mCof)), (mSe, .inl (cK 1, 2048, .inl (upd mSef (Int32.toNatClampNeg v3) (vp_nar .boolean 0)))), (mLa, .inl (cK 0, 2048, .inl mLaf))] H := hP
          have hD : va_D A [(md, .inr (6, [.int mdN, .int mdL, .ref mWh, .ref mTr, .ref mCo, .int mdS, .ref mWi, .ref mPc, .ref mIt, .int mdQ, .ref mRo, .ref mKn, .ref mNe, .ref mSe, .ref mVa, .ref mLa])), (mWh, .inl (cK 0, 400, .inl mWhf)), (mTr, .inl (cK 0, 400, .inl mTrf)), (mCo, .inl (cK 1, 400, .inl mCof)), (mSe, .inl (cK 1, 2048, .inl (upd mSef (Int32.toNatClampNeg v3) (vp_nar .boolean 0)))), (mLa, .inl (cK 0, 2048, .inl mLaf))] := hD
          refine lv_iinc (v := (v3 + 1)) (lv' := [(3, .int (v3 + 1)), (4, .int (mLaf (Int32.toNatClampNeg v3))), (0, .ref md), (1, .int v1), (2, .int v2)]) hx hb d_M_see_155 hl (k := 4) rfl rfl (by decide) rfl (fun ls hl => ?_)
          refine lv_goto (tgt := 97) hx hb d_M_see_158 (by decide) ?_
          exact ih_97 _ _ _ _ _ _ hf hP hD hS (lv_sub hl [2, 3, 4, 0] rfl)
        · have hf := fn_f hc hf
          refine lv_aload_n hx hb d_M_see_122 rfl (lv_at hl 1 rfl) ?_
          refine va_get (D := D) (ci := 6) (v := .ref mCo) (C := RK6) (T := TK6) (N := 16) hx hb hts iwK6 hown hK hP 0 rfl rfl 4 (by decide) (hts _ fl_M_16) (fun _ h9 => h9) rfl d_M_see_123 ?_
          refine lv_iload hx hb d_M_see_126 (lv_at hl 0 rfl) ?_
          have hg := fn_g hf
          have hf := fn_t hg hf
          refine va_zald hx hb hK hP 3 1 rfl rfl (fn_v hg) d_M_see_128 ?_
          refine lv_if_eq (tgt := 153) hx hb d_M_see_129 (by decide) (fun hc => ?_) (fun hc => ?_)
          · have hf := fn_t hc hf
            refine lv_iconst (v := 0) hx hb d_M_see_153 (by decide) ?_
            have hg := fn_g hf
            have hf := fn_t hg hf
            refine va_zast hx hb hK hP hD hS 4 1 rfl rfl (fn_v hg) d_M_see_154 (fun H locs hP hD hS => ?_)
            have hP : va_P D zz_cl [(md, .inr (6, [.int mdN, .int mdL, .ref mWh, .ref mTr, .ref mCo, .int mdS, .ref mWi, .ref mPc, .ref mIt, .int mdQ, .ref mRo, .ref mKn, .ref mNe, .ref mSe, .ref mVa, .ref mLa])), (mWh, .inl (cK 0, 400, .inl mWhf)), (mTr, .inl (cK 0, 400, .inl mTrf)), (mCo, .inl (cK 1, 400, .inl mCof)), (mSe, .inl (cK 1, 2048, .inl (upd mSef (Int32.toNatClampNeg v3) (vp_nar .boolean 0)))), (mLa, .inl (cK 0, 2048, .inl mLaf))] H := hP
            have hD : va_D A [(md, .inr (6, [.int mdN, .int mdL, .ref mWh, .ref mTr, .ref mCo, .int mdS, .ref mWi, .ref mPc, .ref mIt, .int mdQ, .ref mRo, .ref mKn, .ref mNe, .ref mSe, .ref mVa, .ref mLa])), (mWh, .inl (cK 0, 400, .inl mWhf)), (mTr, .inl (cK 0, 400, .inl mTrf)), (mCo, .inl (cK 1, 400, .inl mCof)), (mSe, .inl (cK 1, 2048, .inl (upd mSef (Int32.toNatClampNeg v3) (vp_nar .boolean 0)))), (mLa, .inl (cK 0, 2048, .inl mLaf))] := hD
            refine lv_iinc (v := (v3 + 1)) (lv' := [(3, .int (v3 + 1)), (4, .int (mLaf (Int32.toNatClampNeg v3))), (0, .ref md), (1, .int v1), (2, .int v2)]) hx hb d_M_see_155 hl (k := 4) rfl rfl (by decide) rfl (fun ls hl => ?_)
            refine lv_goto (tgt := 97) hx hb d_M_see_158 (by decide) ?_
            exact ih_97 _ _ _ _ _ _ hf hP hD hS (lv_sub hl [2, 3, 4, 0] rfl)
          · have hf := fn_f hc hf
            refine lv_iload_n hx hb d_M_see_132 rfl (lv_at hl 3 rfl) ?_
            refine lv_if_eq (tgt := 149) hx hb d_M_see_133 (by decide) (fun hc => ?_) (fun hc => ?_)
            · have hf := fn_t hc hf
              refine lv_iconst (v := 1) hx hb d_M_see_149 (by decide) ?_
              refine lv_goto (tgt := 154) hx hb d_M_see_150 (by decide) ?_
              have hg := fn_g hf
              have hf := fn_t hg hf
              refine va_zast hx hb hK hP hD hS 4 1 rfl rfl (fn_v hg) d_M_see_154 (fun H locs hP hD hS => ?_)
              have hP : va_P D zz_cl [(md, .inr (6, [.int mdN, .int mdL, .ref mWh, .ref mTr, .ref mCo, .int mdS, .ref mWi, .ref mPc, .ref mIt, .int mdQ, .ref mRo, .ref mKn, .ref mNe, .ref mSe, .ref mVa, .ref mLa])), (mWh, .inl (cK 0, 400, .inl mWhf)), (mTr, .inl (cK 0, 400, .inl mTrf)), (mCo, .inl (cK 1, 400, .inl mCof)), (mSe, .inl (cK 1, 2048, .inl (upd mSef (Int32.toNatClampNeg v3) (vp_nar .boolean 1)))), (mLa, .inl (cK 0, 2048, .inl mLaf))] H := hP
              have hD : va_D A [(md, .inr (6, [.int mdN, .int mdL, .ref mWh, .ref mTr, .ref mCo, .int mdS, .ref mWi, .ref mPc, .ref mIt, .int mdQ, .ref mRo, .ref mKn, .ref mNe, .ref mSe, .ref mVa, .ref mLa])), (mWh, .inl (cK 0, 400, .inl mWhf)), (mTr, .inl (cK 0, 400, .inl mTrf)), (mCo, .inl (cK 1, 400, .inl mCof)), (mSe, .inl (cK 1, 2048, .inl (upd mSef (Int32.toNatClampNeg v3) (vp_nar .boolean 1)))), (mLa, .inl (cK 0, 2048, .inl mLaf))] := hD
              refine lv_iinc (v := (v3 + 1)) (lv' := [(3, .int (v3 + 1)), (4, .int (mLaf (Int32.toNatClampNeg v3))), (0, .ref md), (1, .int v1), (2, .int v2)]) hx hb d_M_see_155 hl (k := 4) rfl rfl (by decide) rfl (fun ls hl => ?_)
              refine lv_goto (tgt := 97) hx hb d_M_see_158 (by decide) ?_
              exact ih_97 _ _ _ _ _ _ hf hP hD hS (lv_sub hl [2, 3, 4, 0] rfl)
            · have hf := fn_f hc hf
              refine lv_iload_n hx hb d_M_see_136 rfl (lv_at hl 2 rfl) ?_
              refine lv_aload_n hx hb d_M_see_137 rfl (lv_at hl 1 rfl) ?_
              refine va_get (D := D) (ci := 6) (v := .ref mWh) (C := RK6) (T := TK6) (N := 16) hx hb hts iwK6 hown hK hP 0 rfl rfl 2 (by decide) (hts _ fl_M_7) (fun _ h9 => h9) rfl d_M_see_138 ?_
              refine lv_iload hx hb d_M_see_141 (lv_at hl 0 rfl) ?_
              have hg := fn_g hf
              have hf := fn_t hg hf
              refine va_iald hx hb hK hP 1 0 rfl rfl (fn_v hg) d_M_see_143 ?_
              refine lv_isub hx hb d_M_see_144 ?_
              refine lv_iload_n hx hb d_M_see_145 rfl (lv_at hl 3 rfl) ?_
              refine lv_icmp_ge (tgt := 153) hx hb d_M_see_146 (by decide) (fun hc => ?_) (fun hc => ?_)
              · have hf := fn_t hc hf
                refine lv_iconst (v := 0) hx hb d_M_see_153 (by decide) ?_
                have hg := fn_g hf
                have hf := fn_t hg hf
                refine va_zast hx hb hK hP hD hS 4 1 rfl rfl (fn_v hg) d_M_see_154 (fun H locs hP hD hS => ?_)
                have hP : va_P D zz_cl [(md, .inr (6, [.int mdN, .int mdL, .ref mWh, .ref mTr, .ref mCo, .int mdS, .ref mWi, .ref mPc, .ref mIt, .int mdQ, .ref mRo, .ref mKn, .ref mNe, .ref mSe, .ref mVa, .ref mLa])), (mWh, .inl (cK 0, 400, .inl mWhf)), (mTr, .inl (cK 0, 400, .inl mTrf)), (mCo, .inl (cK 1, 400, .inl mCof)), (mSe, .inl (cK 1, 2048, .inl (upd mSef (Int32.toNatClampNeg v3) (vp_nar .boolean 0)))), (mLa, .inl (cK 0, 2048, .inl mLaf))] H := hP
                have hD : va_D A [(md, .inr (6, [.int mdN, .int mdL, .ref mWh, .ref mTr, .ref mCo, .int mdS, .ref mWi, .ref mPc, .ref mIt, .int mdQ, .ref mRo, .ref mKn, .ref mNe, .ref mSe, .ref mVa, .ref mLa])), (mWh, .inl (cK 0, 400, .inl mWhf)), (mTr, .inl (cK 0, 400, .inl mTrf)), (mCo, .inl (cK 1, 400, .inl mCof)), (mSe, .inl (cK 1, 2048, .inl (upd mSef (Int32.toNatClampNeg v3) (vp_nar .boolean 0)))), (mLa, .inl (cK 0, 2048, .inl mLaf))] := hD
                refine lv_iinc (v := (v3 + 1)) (lv' := [(3, .int (v3 + 1)), (4, .int (mLaf (Int32.toNatClampNeg v3))), (0, .ref md), (1, .int v1), (2, .int v2)]) hx hb d_M_see_155 hl (k := 4) rfl rfl (by decide) rfl (fun ls hl => ?_)
                refine lv_goto (tgt := 97) hx hb d_M_see_158 (by decide) ?_
                exact ih_97 _ _ _ _ _ _ hf hP hD hS (lv_sub hl [2, 3, 4, 0] rfl)
              · have hf := fn_f hc hf
                refine lv_iconst (v := 1) hx hb d_M_see_149 (by decide) ?_
                refine lv_goto (tgt := 154) hx hb d_M_see_150 (by decide) ?_
                have hg := fn_g hf
                have hf := fn_t hg hf
                refine va_zast hx hb hK hP hD hS 4 1 rfl rfl (fn_v hg) d_M_see_154 (fun H locs hP hD hS => ?_)
                have hP : va_P D zz_cl [(md, .inr (6, [.int mdN, .int mdL, .ref mWh, .ref mTr, .ref mCo, .int mdS, .ref mWi, .ref mPc, .ref mIt, .int mdQ, .ref mRo, .ref mKn, .ref mNe, .ref mSe, .ref mVa, .ref mLa])), (mWh, .inl (cK 0, 400, .inl mWhf)), (mTr, .inl (cK 0, 400, .inl mTrf)), (mCo, .inl (cK 1, 400, .inl mCof)), (mSe, .inl (cK 1, 2048, .inl (upd mSef (Int32.toNatClampNeg v3) (vp_nar .boolean 1)))), (mLa, .inl (cK 0, 2048, .inl mLaf))] H := hP
                have hD : va_D A [(md, .inr (6, [.int mdN, .int mdL, .ref mWh, .ref mTr, .ref mCo, .int mdS, .ref mWi, .ref mPc, .ref mIt, .int mdQ, .ref mRo, .ref mKn, .ref mNe, .ref mSe, .ref mVa, .ref mLa])), (mWh, .inl (cK 0, 400, .inl mWhf)), (mTr, .inl (cK 0, 400, .inl mTrf)), (mCo, .inl (cK 1, 400, .inl mCof)), (mSe, .inl (cK 1, 2048, .inl (upd mSef (Int32.toNatClampNeg v3) (vp_nar .boolean 1)))), (mLa, .inl (cK 0, 2048, .inl mLaf))] := hD
                refine lv_iinc (v := (v3 + 1)) (lv' := [(3, .int (v3 + 1)), (4, .int (mLaf (Int32.toNatClampNeg v3))), (0, .ref md), (1, .int v1), (2, .int v2)]) hx hb d_M_see_155 hl (k := 4) rfl rfl (by decide) rfl (fun ls hl => ?_)
                refine lv_goto (tgt := 97) hx hb d_M_see_158 (by decide) ?_
                exact ih_97 _ _ _ _ _ _ hf hP hD hS (lv_sub hl [2, 3, 4, 0] rfl)
  have J_24 : ∀ (v1 : Int32) (v2 : Int32) (n_24 : Nat) (mSef : Nat → Int32) (mLaf : Nat → Int32) (v3 : Int32) (H : Heap) (locs : List Loc) (ls : Array Slot), f_M_see_24 N mdS mWhf mTrf mCof v1 v2 n_24 mSef mLaf v3 = some (o_mSef, o_mLaf) → va_P D zz_cl [(md, .inr (6, [.int mdN, .int mdL, .ref mWh, .ref mTr, .ref mCo, .int mdS, .ref mWi, .ref mPc, .ref mIt, .int mdQ, .ref mRo, .ref mKn, .ref mNe, .ref mSe, .ref mVa, .ref mLa])), (mWh, .inl (cK 0, 400, .inl mWhf)), (mTr, .inl (cK 0, 400, .inl mTrf)), (mCo, .inl (cK 1, 400, .inl mCof)), (mSe, .inl (cK 1, 2048, .inl mSef)), (mLa, .inl (cK 0, 2048, .inl mLaf))] H → va_D A [(md, .inr (6, [.int mdN, .int mdL, .ref mWh, .ref mTr, .ref mCo, .int mdS, .ref mWi, .ref mPc, .ref mIt, .int mdQ, .ref mRo, .ref mKn, .ref mNe, .ref mSe, .ref mVa, .ref mLa])), (mWh, .inl (cK 0, 400, .inl mWhf)), (mTr, .inl (cK 0, 400, .inl mTrf)), (mCo, .inl (cK 1, 400, .inl mCof)), (mSe, .inl (cK 1, 2048, .inl mSef)), (mLa, .inl (cK 0, 2048, .inl mLaf))] → va_S A s.heap H locs → lv_has ls 5 [(0, .ref md), (1, .int v1), (2, .int v2), (3, .int v3)] → W p l e rm_M_see s m args below meth c H locs 0 0 Q (F0 m 24 ls []) := by
    intro v1 v2 n_24
    induction n_24 with
    | zero =>
      intro mSef mLaf v3 H locs ls hf hP hD hS hl
      exact fn_0 hf
    | succ n_24 ih_24 =>
      intro mSef mLaf v3 H locs ls hf hP hD hS hl
      rw [f_M_see_24.eq_2] at hf
      refine lv_iload_n hx hb d_M_see_24 rfl (lv_at hl 3 rfl) ?_
      refine lv_aload_n hx hb d_M_see_25 rfl (lv_at hl 0 rfl) ?_
      refine va_get (D := D) (ci := 6) (v := .int mdS) (C := RK6) (T := TK6) (N := 16) hx hb hts iwK6 hown hK hP 0 rfl rfl 5 (by decide) (hts _ fl_M_59) (fun _ h9 => h9) rfl d_M_see_26 ?_
      refine lv_icmp_ge (tgt := 95) hx hb d_M_see_29 (by decide) (fun hc => ?_) (fun hc => ?_)
      · have hf := fn_t hc hf
        refine lv_iconst (v := 0) hx hb d_M_see_95 (by decide) ?_
        refine lv_istore_n (lv' := [(3, .int 0), (0, .ref md), (1, .int v1), (2, .int v2)]) hx hb d_M_see_96 rfl hl (by decide) rfl (fun ls hl => ?_)
        exact J_97 _ _ _ _ _ _ _ _ _ hf hP hD hS (lv_sub hl [1, 2, 3, 0] rfl)
      · have hf := fn_f hc hf
        refine lv_aload_n hx hb d_M_see_32 rfl (lv_at hl 0 rfl) ?_
        refine va_get (D := D) (ci := 6) (v := .ref mTr) (C := RK6) (T := TK6) (N := 16) hx hb hts iwK6 hown hK hP 0 rfl rfl 3 (by decide) (hts _ fl_M_13) (fun _ h9 => h9) rfl d_M_see_33 ?_
        refine lv_iload_n hx hb d_M_see_36 rfl (lv_at hl 3 rfl) ?_
        have hg := fn_g hf
        have hf := fn_t hg hf
        refine va_iald hx hb hK hP 2 0 rfl rfl (fn_v hg) d_M_see_37 ?_
        refine lv_istore (lv' := [(4, .int (mTrf (Int32.toNatClampNeg v3))), (0, .ref md), (1, .int v1), (2, .int v2), (3, .int v3)]) hx hb d_M_see_38 hl (by decide) rfl (fun ls hl => ?_)
        refine lv_aload_n hx hb d_M_see_40 rfl (lv_at hl 1 rfl) ?_
        refine va_get (D := D) (ci := 6) (v := .ref mWh) (C := RK6) (T := TK6) (N := 16) hx hb hts iwK6 hown hK hP 0 rfl rfl 2 (by decide) (hts _ fl_M_7) (fun _ h9 => h9) rfl d_M_see_41 ?_
        refine lv_iload_n hx hb d_M_see_44 rfl (lv_at hl 4 rfl) ?_
        have hg := fn_g hf
        have hf := fn_t hg hf
        refine va_iald hx hb hK hP 1 0 rfl rfl (fn_v hg) d_M_see_45 ?_
        refine lv_iload_n hx hb d_M_see_46 rfl (lv_at hl 2 rfl) ?_
        refine lv_icmp_gt (tgt := 89) hx hb d_M_see_47 (by decide) (fun hc => ?_) (fun hc => ?_)
        · have hf := fn_t hc hf
          refine lv_iinc (v := (v3 + 1)) (lv' := [(3, .int (v3 + 1)), (4, .int (mTrf (Int32.toNatClampNeg v3))), (0, .ref md), (1, .int v1), (2, .int v2)]) hx hb d_M_see_89 hl (k := 4) rfl rfl (by decide) rfl (fun ls hl => ?_)
          refine lv_goto (tgt := 24) hx hb d_M_see_92 (by decide) ?_
          exact ih_24 _ _ _ _ _ _ hf hP hD hS (lv_sub hl [2, 3, 4, 0] rfl)
        · have hf := fn_f hc hf
          refine lv_aload_n hx hb d_M_see_50 rfl (lv_at hl 1 rfl) ?_
          refine va_get (D := D) (ci := 6) (v := .ref mLa) (C := RK6) (T := TK6) (N := 16) hx hb hts iwK6 hown hK hP 0 rfl rfl 15 (by decide) (hts _ fl_M_46) (fun _ h9 => h9) rfl d_M_see_51 ?_
          refine lv_iload hx hb d_M_see_54 (lv_at hl 0 rfl) ?_
          have hg := fn_g hf
          have hf := fn_t hg hf
          refine va_iald hx hb hK hP 5 0 rfl rfl (fn_v hg) d_M_see_56 ?_
          refine lv_if_lt (tgt := 81) hx hb d_M_see_57 (by decide) (fun hc => ?_) (fun hc => ?_)
          · have hf := fn_t hc hf
            refine lv_aload_n hx hb d_M_see_81 rfl (lv_at hl 1 rfl) ?_
            refine va_get (D := D) (ci := 6) (v := .ref mLa) (C := RK6) (T := TK6) (N := 16) hx hb hts iwK6 hown hK hP 0 rfl rfl 15 (by decide) (hts _ fl_M_46) (fun _ h9 => h9) rfl d_M_see_82 ?_
            refine lv_iload hx hb d_M_see_85 (lv_at hl 0 rfl) ?_
            refine lv_iload_n hx hb d_M_see_87 rfl (lv_at hl 4 rfl) ?_
            have hg := fn_g hf
            have hf := fn_t hg hf
            refine va_iast hx hb hK hP hD hS 5 0 rfl rfl (fn_v hg) d_M_see_88 (fun H locs hP hD hS => ?_)
            have hP : va_P D zz_cl [(md, .inr (6, [.int mdN, .int mdL, .ref mWh, .ref mTr, .ref mCo, .int mdS, .ref mWi, .ref mPc, .ref mIt, .int mdQ, .ref mRo, .ref mKn, .ref mNe, .ref mSe, .ref mVa, .ref mLa])), (mWh, .inl (cK 0, 400, .inl mWhf)), (mTr, .inl (cK 0, 400, .inl mTrf)), (mCo, .inl (cK 1, 400, .inl mCof)), (mSe, .inl (cK 1, 2048, .inl mSef)), (mLa, .inl (cK 0, 2048, .inl (upd mLaf (Int32.toNatClampNeg (mTrf (Int32.toNatClampNeg v3))) v3)))] H := hP
            have hD : va_D A [(md, .inr (6, [.int mdN, .int mdL, .ref mWh, .ref mTr, .ref mCo, .int mdS, .ref mWi, .ref mPc, .ref mIt, .int mdQ, .ref mRo, .ref mKn, .ref mNe, .ref mSe, .ref mVa, .ref mLa])), (mWh, .inl (cK 0, 400, .inl mWhf)), (mTr, .inl (cK 0, 400, .inl mTrf)), (mCo, .inl (cK 1, 400, .inl mCof)), (mSe, .inl (cK 1, 2048, .inl mSef)), (mLa, .inl (cK 0, 2048, .inl (upd mLaf (Int32.toNatClampNeg (mTrf (Int32.toNatClampNeg v3))) v3)))] := hD
            refine lv_iinc (v := (v3 + 1)) (lv' := [(3, .int (v3 + 1)), (4, .int (mTrf (Int32.toNatClampNeg v3))), (0, .ref md), (1, .int v1), (2, .int v2)]) hx hb d_M_see_89 hl (k := 4) rfl rfl (by decide) rfl (fun ls hl => ?_)
            refine lv_goto (tgt := 24) hx hb d_M_see_92 (by decide) ?_
            exact ih_24 _ _ _ _ _ _ hf hP hD hS (lv_sub hl [2, 3, 4, 0] rfl)
          · have hf := fn_f hc hf
            refine lv_aload_n hx hb d_M_see_60 rfl (lv_at hl 1 rfl) ?_
            refine va_get (D := D) (ci := 6) (v := .ref mWh) (C := RK6) (T := TK6) (N := 16) hx hb hts iwK6 hown hK hP 0 rfl rfl 2 (by decide) (hts _ fl_M_7) (fun _ h9 => h9) rfl d_M_see_61 ?_
            refine lv_iload_n hx hb d_M_see_64 rfl (lv_at hl 4 rfl) ?_
            have hg := fn_g hf
            have hf := fn_t hg hf
            refine va_iald hx hb hK hP 1 0 rfl rfl (fn_v hg) d_M_see_65 ?_
            refine lv_aload_n hx hb d_M_see_66 rfl (lv_at hl 1 rfl) ?_
            refine va_get (D := D) (ci := 6) (v := .ref mWh) (C := RK6) (T := TK6) (N := 16) hx hb hts iwK6 hown hK hP 0 rfl rfl 2 (by decide) (hts _ fl_M_7) (fun _ h9 => h9) rfl d_M_see_67 ?_
            refine lv_aload_n hx hb d_M_see_70 rfl (lv_at hl 1 rfl) ?_
            refine va_get (D := D) (ci := 6) (v := .ref mLa) (C := RK6) (T := TK6) (N := 16) hx hb hts iwK6 hown hK hP 0 rfl rfl 15 (by decide) (hts _ fl_M_46) (fun _ h9 => h9) rfl d_M_see_71 ?_
            refine lv_iload hx hb d_M_see_74 (lv_at hl 0 rfl) ?_
            have hg := fn_g hf
            have hf := fn_t hg hf
            refine va_iald hx hb hK hP 5 0 rfl rfl (fn_v hg) d_M_see_76 ?_
            have hg := fn_g hf
            have hf := fn_t hg hf
            refine va_iald hx hb hK hP 1 0 rfl rfl (fn_v hg) d_M_see_77 ?_
            refine lv_icmp_lt (tgt := 89) hx hb d_M_see_78 (by decide) (fun hc => ?_) (fun hc => ?_)
            · have hf := fn_t hc hf
              refine lv_iinc (v := (v3 + 1)) (lv' := [(3, .int (v3 + 1)), (4, .int (mTrf (Int32.toNatClampNeg v3))), (0, .ref md), (1, .int v1), (2, .int v2)]) hx hb d_M_see_89 hl (k := 4) rfl rfl (by decide) rfl (fun ls hl => ?_)
              refine lv_goto (tgt := 24) hx hb d_M_see_92 (by decide) ?_
              exact ih_24 _ _ _ _ _ _ hf hP hD hS (lv_sub hl [2, 3, 4, 0] rfl)
            · have hf := fn_f hc hf
              refine lv_aload_n hx hb d_M_see_81 rfl (lv_at hl 1 rfl) ?_
              refine va_get (D := D) (ci := 6) (v := .ref mLa) (C := RK6) (T := TK6) (N := 16) hx hb hts iwK6 hown hK hP 0 rfl rfl 15 (by decide) (hts _ fl_M_46) (fun _ h9 => h9) rfl d_M_see_82 ?_
              refine lv_iload hx hb d_M_see_85 (lv_at hl 0 rfl) ?_
              refine lv_iload_n hx hb d_M_see_87 rfl (lv_at hl 4 rfl) ?_
              have hg := fn_g hf
              have hf := fn_t hg hf
              refine va_iast hx hb hK hP hD hS 5 0 rfl rfl (fn_v hg) d_M_see_88 (fun H locs hP hD hS => ?_)
              have hP : va_P D zz_cl [(md, .inr (6, [.int mdN, .int mdL, .ref mWh, .ref mTr, .ref mCo, .int mdS, .ref mWi, .ref mPc, .ref mIt, .int mdQ, .ref mRo, .ref mKn, .ref mNe, .ref mSe, .ref mVa, .ref mLa])), (mWh, .inl (cK 0, 400, .inl mWhf)), (mTr, .inl (cK 0, 400, .inl mTrf)), (mCo, .inl (cK 1, 400, .inl mCof)), (mSe, .inl (cK 1, 2048, .inl mSef)), (mLa, .inl (cK 0, 2048, .inl (upd mLaf (Int32.toNatClampNeg (mTrf (Int32.toNatClampNeg v3))) v3)))] H := hP
              have hD : va_D A [(md, .inr (6, [.int mdN, .int mdL, .ref mWh, .ref mTr, .ref mCo, .int mdS, .ref mWi, .ref mPc, .ref mIt, .int mdQ, .ref mRo, .ref mKn, .ref mNe, .ref mSe, .ref mVa, .ref mLa])), (mWh, .inl (cK 0, 400, .inl mWhf)), (mTr, .inl (cK 0, 400, .inl mTrf)), (mCo, .inl (cK 1, 400, .inl mCof)), (mSe, .inl (cK 1, 2048, .inl mSef)), (mLa, .inl (cK 0, 2048, .inl (upd mLaf (Int32.toNatClampNeg (mTrf (Int32.toNatClampNeg v3))) v3)))] := hD
              refine lv_iinc (v := (v3 + 1)) (lv' := [(3, .int (v3 + 1)), (4, .int (mTrf (Int32.toNatClampNeg v3))), (0, .ref md), (1, .int v1), (2, .int v2)]) hx hb d_M_see_89 hl (k := 4) rfl rfl (by decide) rfl (fun ls hl => ?_)
              refine lv_goto (tgt := 24) hx hb d_M_see_92 (by decide) ?_
              exact ih_24 _ _ _ _ _ _ hf hP hD hS (lv_sub hl [2, 3, 4, 0] rfl)
  have J_2 : ∀ (v1 : Int32) (v2 : Int32) (n_2 : Nat) (mSef : Nat → Int32) (mLaf : Nat → Int32) (v3 : Int32) (H : Heap) (locs : List Loc) (ls : Array Slot), f_M_see_2 N mdS mWhf mTrf mCof v1 v2 n_2 mSef mLaf v3 = some (o_mSef, o_mLaf) → va_P D zz_cl [(md, .inr (6, [.int mdN, .int mdL, .ref mWh, .ref mTr, .ref mCo, .int mdS, .ref mWi, .ref mPc, .ref mIt, .int mdQ, .ref mRo, .ref mKn, .ref mNe, .ref mSe, .ref mVa, .ref mLa])), (mWh, .inl (cK 0, 400, .inl mWhf)), (mTr, .inl (cK 0, 400, .inl mTrf)), (mCo, .inl (cK 1, 400, .inl mCof)), (mSe, .inl (cK 1, 2048, .inl mSef)), (mLa, .inl (cK 0, 2048, .inl mLaf))] H → va_D A [(md, .inr (6, [.int mdN, .int mdL, .ref mWh, .ref mTr, .ref mCo, .int mdS, .ref mWi, .ref mPc, .ref mIt, .int mdQ, .ref mRo, .ref mKn, .ref mNe, .ref mSe, .ref mVa, .ref mLa])), (mWh, .inl (cK 0, 400, .inl mWhf)), (mTr, .inl (cK 0, 400, .inl mTrf)), (mCo, .inl (cK 1, 400, .inl mCof)), (mSe, .inl (cK 1, 2048, .inl mSef)), (mLa, .inl (cK 0, 2048, .inl mLaf))] → va_S A s.heap H locs → lv_has ls 5 [(0, .ref md), (1, .int v1), (2, .int v2), (3, .int v3)] → W p l e rm_M_see s m args below meth c H locs 0 0 Q (F0 m 2 ls []) := by
    intro v1 v2 n_2
    induction n_2 with
    | zero =>
      intro mSef mLaf v3 H locs ls hf hP hD hS hl
      exact fn_0 hf
    | succ n_2 ih_2 =>
      intro mSef mLaf v3 H locs ls hf hP hD hS hl
      rw [f_M_see_2.eq_2] at hf
      refine lv_iload_n hx hb d_M_see_2 rfl (lv_at hl 3 rfl) ?_
      refine lv_sipush (v := 2048) hx hb d_M_see_3 (by decide) ?_
      refine lv_icmp_ge (tgt := 22) hx hb d_M_see_6 (by decide) (fun hc => ?_) (fun hc => ?_)
      · have hf := fn_t hc hf
        refine lv_iconst (v := 0) hx hb d_M_see_22 (by decide) ?_
        refine lv_istore_n (lv' := [(3, .int 0), (0, .ref md), (1, .int v1), (2, .int v2)]) hx hb d_M_see_23 rfl hl (by decide) rfl (fun ls hl => ?_)
        exact J_24 _ _ _ _ _ _ _ _ _ hf hP hD hS (lv_sub hl [1, 2, 3, 0] rfl)
      · have hf := fn_f hc hf
        refine lv_aload_n hx hb d_M_see_9 rfl (lv_at hl 0 rfl) ?_
        refine va_get (D := D) (ci := 6) (v := .ref mLa) (C := RK6) (T := TK6) (N := 16) hx hb hts iwK6 hown hK hP 0 rfl rfl 15 (by decide) (hts _ fl_M_46) (fun _ h9 => h9) rfl d_M_see_10 ?_
        refine lv_iload_n hx hb d_M_see_13 rfl (lv_at hl 3 rfl) ?_
        refine lv_iconst (v := (-1)) hx hb d_M_see_14 (by decide) ?_
        have hg := fn_g hf
        have hf := fn_t hg hf
        refine va_iast hx hb hK hP hD hS 5 0 rfl rfl (fn_v hg) d_M_see_15 (fun H locs hP hD hS => ?_)
        have hP : va_P D zz_cl [(md, .inr (6, [.int mdN, .int mdL, .ref mWh, .ref mTr, .ref mCo, .int mdS, .ref mWi, .ref mPc, .ref mIt, .int mdQ, .ref mRo, .ref mKn, .ref mNe, .ref mSe, .ref mVa, .ref mLa])), (mWh, .inl (cK 0, 400, .inl mWhf)), (mTr, .inl (cK 0, 400, .inl mTrf)), (mCo, .inl (cK 1, 400, .inl mCof)), (mSe, .inl (cK 1, 2048, .inl mSef)), (mLa, .inl (cK 0, 2048, .inl (upd mLaf (Int32.toNatClampNeg v3) (-1))))] H := hP
        have hD : va_D A [(md, .inr (6, [.int mdN, .int mdL, .ref mWh, .ref mTr, .ref mCo, .int mdS, .ref mWi, .ref mPc, .ref mIt, .int mdQ, .ref mRo, .ref mKn, .ref mNe, .ref mSe, .ref mVa, .ref mLa])), (mWh, .inl (cK 0, 400, .inl mWhf)), (mTr, .inl (cK 0, 400, .inl mTrf)), (mCo, .inl (cK 1, 400, .inl mCof)), (mSe, .inl (cK 1, 2048, .inl mSef)), (mLa, .inl (cK 0, 2048, .inl (upd mLaf (Int32.toNatClampNeg v3) (-1))))] := hD
        refine lv_iinc (v := (v3 + 1)) (lv' := [(3, .int (v3 + 1)), (0, .ref md), (1, .int v1), (2, .int v2)]) hx hb d_M_see_16 hl (k := 3) rfl rfl (by decide) rfl (fun ls hl => ?_)
        refine lv_goto (tgt := 2) hx hb d_M_see_19 (by decide) ?_
        exact ih_2 _ _ _ _ _ _ hf hP hD hS (lv_sub hl [1, 2, 3, 0] rfl)
  unfold f_M_see at hf
  refine lv_iconst (v := 0) hx hb d_M_see_0 (by decide) ?_
  refine lv_istore_n (lv' := [(3, .int 0), (0, .ref md), (1, .int v1), (2, .int v2)]) hx hb d_M_see_1 rfl hl (by decide) rfl (fun ls hl => ?_)
  exact J_2 _ _ _ _ _ _ _ _ _ hf hP hD hS (lv_sub hl [1, 2, 3, 0] rfl)
abbrev rm_M_valueOf : Room := { frames := 0, cells := 0, slots := 0, locals := 0 }
set_option maxHeartbeats 4000000 in
set_option maxRecDepth 100000 in
theorem c_M_valueOf (l : Launch) (D : va_G) (cK : Nat → ClassId) (md mWh mTr mCo mWi mPc mIt mRo mKn mNe mSe mVa mLa : Nat) (mdN : Int32) (mdL : Int32) (mdS : Int32) (mdQ : Int32) (mVaf : Nat → Int32) (v1 : Int32) (r : Int32) (hf : f_M_valueOf mVaf v1 = some r) : RdI l y_M_valueOf w_M_valueOf rm_M_valueOf D zz_cl (mt_ty cK RK2) [.ref md, .int v1] [(md, .inr (6, [.int mdN, .int mdL, .ref mWh, .ref mTr, .ref mCo, .int mdS, .ref mWi, .ref mPc, .ref mIt, .int mdQ, .ref mRo, .ref mKn, .ref mNe, .ref mSe, .ref mVa, .ref mLa])), (mVa, .inl (cK 0, 5, .inl mVaf))] r := by
  refine mk_RdI (cc := b_M_valueOf) (maxL := 2) (ty := .int) (by decide +kernel) rfl (Nat.le_of_ble_eq_true rfl) ?_
  intro p e s m below meth c args Q ls hx hb hml hown hts hK hP hret hl
  have hl : lv_has ls 2 [(0, .ref md), (1, .int v1)] := hl
  unfold f_M_valueOf at hf
  refine lv_iload_n hx hb d_M_valueOf_0 rfl (lv_at hl 1 rfl) ?_
  refine lv_if_lt (tgt := 8) hx hb d_M_valueOf_1 (by decide) (fun hc => ?_) (fun hc => ?_)
  · have hf := fn_t hc hf
    refine lv_aload_n hx hb d_M_valueOf_8 rfl (lv_at hl 0 rfl) ?_
    refine va_get (D := D) (ci := 6) (v := .ref mVa) (C := RK6) (T := TK6) (N := 16) hx hb hts iwK6 hown hK hP 0 rfl rfl 14 (by decide) (hts _ fl_M_43) (fun _ h9 => h9) rfl d_M_valueOf_9 ?_
    refine lv_iload_n hx hb d_M_valueOf_12 rfl (lv_at hl 1 rfl) ?_
    refine lv_ineg hx hb d_M_valueOf_13 ?_
    have hg := fn_g hf
    have hf := fn_t hg hf
    refine va_iald hx hb hK hP 1 0 rfl rfl (fn_v hg) d_M_valueOf_14 ?_
    cases hf
    exact hret 15 _ rfl d_M_valueOf_15
  · have hf := fn_f hc hf
    refine lv_iload_n hx hb d_M_valueOf_4 rfl (lv_at hl 1 rfl) ?_
    refine lv_goto (tgt := 15) hx hb d_M_valueOf_5 (by decide) ?_
    cases hf
    exact hret 15 _ rfl d_M_valueOf_15
abbrev rm_M_isRow : Room := { frames := 1, cells := 0, slots := 0, locals := 22 }
set_option maxHeartbeats 4000000 in
set_option maxRecDepth 100000 in
theorem c_M_isRow (l : Launch) (D : va_G) (cK : Nat → ClassId) (md mWh mTr mCo mWi mPc mIt mRo mKn mNe mSe mVa mLa : Nat) (mdN : Int32) (mdL : Int32) (mdS : Int32) (mdQ : Int32) (mPcf : Nat → Int32) (mItf : Nat → Int32) (mSef : Nat → Int32) (mVaf : Nat → Int32) (N : Nat) (v1 : Int32) (r : Int32) (hf : f_M_isRow N mPcf mItf mSef mVaf v1 = some r) : RdI l y_M_isRow w_M_isRow rm_M_isRow D zz_cl (mt_ty cK RK2) [.ref md, .int v1] [(md, .inr (6, [.int mdN, .int mdL, .ref mWh, .ref mTr, .ref mCo, .int mdS, .ref mWi, .ref mPc, .ref mIt, .int mdQ, .ref mRo, .ref mKn, .ref mNe, .ref mSe, .ref mVa, .ref mLa])), (mPc, .inl (cK 0, 12, .inl mPcf)), (mIt, .inl (cK 0, 108, .inl mItf)), (mSe, .inl (cK 1, 2048, .inl mSef)), (mVa, .inl (cK 0, 5, .inl mVaf))] r := by
  refine mk_RdI (cc := b_M_isRow) (maxL := 5) (ty := .boolean) (by decide +kernel) rfl (Nat.le_of_ble_eq_true rfl) ?_
  intro p e s m below meth c args Q ls hx hb hml hown hts hK hP hret hl
  have hl : lv_has ls 5 [(0, .ref md), (1, .int v1)] := hl
  have J_2 : ∀ (v1 : Int32) (n_2 : Nat)  (v2 : Int32) (ls : Array Slot), f_M_isRow_2 N mPcf mItf mSef mVaf v1 n_2 v2 = some r → lv_has ls 5 [(0, .ref md), (1, .int v1), (2, .int v2)] → W p l e rm_M_isRow s m args below meth c s.heap [] 0 0 Q (F0 m 2 ls []) := by
    intro v1 n_2
    induction n_2 with
    | zero =>
      intro v2 ls hf hl
      exact fn_0 hf
    | succ n_2 ih_2 =>
      intro v2 ls hf hl
      rw [f_M_isRow_2.eq_2] at hf
      refine lv_iload_n hx hb d_M_isRow_2 rfl (lv_at hl 2 rfl) ?_
      refine lv_aload_n hx hb d_M_isRow_3 rfl (lv_at hl 0 rfl) ?_
      refine va_get (D := D) (ci := 6) (v := .ref mPc) (C := RK6) (T := TK6) (N := 16) hx hb hts iwK6 hown hK hP 0 rfl rfl 7 (by decide) (hts _ fl_M_23) (fun _ h9 => h9) rfl d_M_isRow_4 ?_
      refine lv_iload_n hx hb d_M_isRow_7 rfl (lv_at hl 1 rfl) ?_
      have hg := fn_g hf
      have hf := fn_t hg hf
      refine va_iald hx hb hK hP 1 0 rfl rfl (fn_v hg) d_M_isRow_8 ?_
      refine lv_icmp_ge (tgt := 85) hx hb d_M_isRow_9 (by decide) (fun hc => ?_) (fun hc => ?_)
      · have hf := fn_t hc hf
        refine lv_iconst (v := 1) hx hb d_M_isRow_85 (by decide) ?_
        cases hf
        exact hret 86 _ rfl d_M_isRow_86
      · have hf := fn_f hc hf
        refine lv_bipush (v := 9) hx hb d_M_isRow_12 (by decide) ?_
        refine lv_iload_n hx hb d_M_isRow_14 rfl (lv_at hl 1 rfl) ?_
        refine lv_imul hx hb d_M_isRow_15 ?_
        refine lv_iconst (v := 3) hx hb d_M_isRow_16 (by decide) ?_
        refine lv_iload_n hx hb d_M_isRow_17 rfl (lv_at hl 2 rfl) ?_
        refine lv_imul hx hb d_M_isRow_18 ?_
        refine lv_iadd hx hb d_M_isRow_19 ?_
        refine lv_istore_n (lv' := [(3, .int ((9 * v1) + (3 * v2))), (0, .ref md), (1, .int v1), (2, .int v2)]) hx hb d_M_isRow_20 rfl hl (by decide) rfl (fun ls hl => ?_)
        refine lv_aload_n hx hb d_M_isRow_21 rfl (lv_at hl 1 rfl) ?_
        refine lv_aload_n hx hb d_M_isRow_22 rfl (lv_at hl 1 rfl) ?_
        refine va_get (D := D) (ci := 6) (v := .ref mIt) (C := RK6) (T := TK6) (N := 16) hx hb hts iwK6 hown hK hP 0 rfl rfl 8 (by decide) (hts _ fl_M_26) (fun _ h9 => h9) rfl d_M_isRow_23 ?_
        refine lv_iload_n hx hb d_M_isRow_26 rfl (lv_at hl 0 rfl) ?_
        refine lv_iconst (v := 1) hx hb d_M_isRow_27 (by decide) ?_
        refine lv_iadd hx hb d_M_isRow_28 ?_
        have hg := fn_g hf
        have hf := fn_t hg hf
        refine va_iald hx hb hK hP 2 0 rfl rfl (fn_v hg) d_M_isRow_29 ?_
        obtain ⟨r_30, hcl, hf⟩ := fn_e1 hf
        refine cv_RdI (rest := []) ⟨hx, hb, hml, hown, hts⟩ (c_M_valueOf l D cK md mWh mTr mCo mWi mPc mIt mRo mKn mNe mSe mVa mLa mdN mdL mdS mdQ mVaf (mItf (Int32.toNatClampNeg (((9 * v1) + (3 * v2)) + 1))) r_30 hcl) (cwV 1 hts (zz_V ml_M_96 im_M_valueOf se_M_valueOf in_M co_M_valueOf) rfl rfl rfl ⟨rfl, hd_M_valueOf⟩ ⟨Nat.le_of_ble_eq_true rfl, Nat.le_of_ble_eq_true rfl⟩) hK hP [0, 4] rfl 0 rfl rfl rfl rfl hl.1 rfl (Nat.le_of_ble_eq_true rfl) d_M_isRow_30 ⟨Nat.zero_le _, Nat.zero_le _⟩ ?_
        refine lv_istore (lv' := [(4, .int r_30), (3, .int ((9 * v1) + (3 * v2))), (0, .ref md), (1, .int v1), (2, .int v2)]) hx hb d_M_isRow_33 hl (by decide) rfl (fun ls hl => ?_)
        refine lv_iload hx hb d_M_isRow_35 (lv_at hl 0 rfl) ?_
        refine lv_bipush (v := 7) hx hb d_M_isRow_37 (by decide) ?_
        refine lv_icmp_gt (tgt := 77) hx hb d_M_isRow_39 (by decide) (fun hc => ?_) (fun hc => ?_)
        · have hf := fn_t hc hf
          refine lv_iconst (v := 0) hx hb d_M_isRow_77 (by decide) ?_
          cases hf
          exact hret 78 _ rfl d_M_isRow_78
        · have hf := fn_f hc hf
          refine lv_aload_n hx hb d_M_isRow_42 rfl (lv_at hl 2 rfl) ?_
          refine va_get (D := D) (ci := 6) (v := .ref mSe) (C := RK6) (T := TK6) (N := 16) hx hb hts iwK6 hown hK hP 0 rfl rfl 13 (by decide) (hts _ fl_M_40) (fun _ h9 => h9) rfl d_M_isRow_43 ?_
          refine lv_aload_n hx hb d_M_isRow_46 rfl (lv_at hl 2 rfl) ?_
          refine lv_aload_n hx hb d_M_isRow_47 rfl (lv_at hl 2 rfl) ?_
          refine va_get (D := D) (ci := 6) (v := .ref mIt) (C := RK6) (T := TK6) (N := 16) hx hb hts iwK6 hown hK hP 0 rfl rfl 8 (by decide) (hts _ fl_M_26) (fun _ h9 => h9) rfl d_M_isRow_48 ?_
          refine lv_iload_n hx hb d_M_isRow_51 rfl (lv_at hl 1 rfl) ?_
          have hg := fn_g hf
          have hf := fn_t hg hf
          refine va_iald hx hb hK hP 2 0 rfl rfl (fn_v hg) d_M_isRow_52 ?_
          obtain ⟨r_53, hcl, hf⟩ := fn_e1 hf
          refine cv_RdI (rest := [.ref mSe]) ⟨hx, hb, hml, hown, hts⟩ (c_M_valueOf l D cK md mWh mTr mCo mWi mPc mIt mRo mKn mNe mSe mVa mLa mdN mdL mdS mdQ mVaf (mItf (Int32.toNatClampNeg ((9 * v1) + (3 * v2)))) r_53 hcl) (cwV 1 hts (zz_V ml_M_96 im_M_valueOf se_M_valueOf in_M co_M_valueOf) rfl rfl rfl ⟨rfl, hd_M_valueOf⟩ ⟨Nat.le_of_ble_eq_true rfl, Nat.le_of_ble_eq_true rfl⟩) hK hP [0, 4] rfl 0 rfl rfl rfl rfl hl.1 rfl (Nat.le_of_ble_eq_true rfl) d_M_isRow_53 ⟨Nat.zero_le _, Nat.zero_le _⟩ ?_
          refine lv_iload hx hb d_M_isRow_56 (lv_at hl 0 rfl) ?_
          refine lv_aload_n hx hb d_M_isRow_58 rfl (lv_at hl 2 rfl) ?_
          refine lv_aload_n hx hb d_M_isRow_59 rfl (lv_at hl 2 rfl) ?_
          refine va_get (D := D) (ci := 6) (v := .ref mIt) (C := RK6) (T := TK6) (N := 16) hx hb hts iwK6 hown hK hP 0 rfl rfl 8 (by decide) (hts _ fl_M_26) (fun _ h9 => h9) rfl d_M_isRow_60 ?_
          refine lv_iload_n hx hb d_M_isRow_63 rfl (lv_at hl 1 rfl) ?_
          refine lv_iconst (v := 2) hx hb d_M_isRow_64 (by decide) ?_
          refine lv_iadd hx hb d_M_isRow_65 ?_
          have hg := fn_g hf
          have hf := fn_t hg hf
          refine va_iald hx hb hK hP 2 0 rfl rfl (fn_v hg) d_M_isRow_66 ?_
          obtain ⟨r_67, hcl, hf⟩ := fn_e1 hf
          refine cv_RdI (rest := [.int r_30, .int r_53, .ref mSe]) ⟨hx, hb, hml, hown, hts⟩ (c_M_valueOf l D cK md mWh mTr mCo mWi mPc mIt mRo mKn mNe mSe mVa mLa mdN mdL mdS mdQ mVaf (mItf (Int32.toNatClampNeg (((9 * v1) + (3 * v2)) + 2))) r_67 hcl) (cwV 1 hts (zz_V ml_M_96 im_M_valueOf se_M_valueOf in_M co_M_valueOf) rfl rfl rfl ⟨rfl, hd_M_valueOf⟩ ⟨Nat.le_of_ble_eq_true rfl, Nat.le_of_ble_eq_true rfl⟩) hK hP [0, 4] rfl 0 rfl rfl rfl rfl hl.1 rfl (Nat.le_of_ble_eq_true rfl) d_M_isRow_67 ⟨Nat.zero_le _, Nat.zero_le _⟩ ?_
          obtain ⟨r_70, hcl, hf⟩ := fn_e1 hf
          refine cs_RdI (rest := [.ref mSe]) ⟨hx, hb, hml, hown, hts⟩ (c_M_triple l D cK r_53 r_30 r_67 r_70 hcl) (va_cwS 3 hts (zz_S ml_M_70 st_M_triple in_M co_M_triple) rfl rfl rfl hd_M_triple ⟨Nat.le_of_ble_eq_true rfl, Nat.le_of_ble_eq_true rfl⟩) hK hP [] rfl rfl hl.1 rfl (Nat.le_of_ble_eq_true rfl) d_M_isRow_70 ⟨Nat.zero_le _, Nat.zero_le _⟩ ?_
          have hg := fn_g hf
          have hf := fn_t hg hf
          refine va_zald hx hb hK hP 3 1 rfl rfl (fn_v hg) d_M_isRow_73 ?_
          refine lv_if_ne (tgt := 79) hx hb d_M_isRow_74 (by decide) (fun hc => ?_) (fun hc => ?_)
          · have hf := fn_f hc hf
            refine lv_iinc (v := (v2 + 1)) (lv' := [(2, .int (v2 + 1)), (4, .int r_30), (3, .int ((9 * v1) + (3 * v2))), (0, .ref md), (1, .int v1)]) hx hb d_M_isRow_79 hl (k := 4) rfl rfl (by decide) rfl (fun ls hl => ?_)
            refine lv_goto (tgt := 2) hx hb d_M_isRow_82 (by decide) ?_
            exact ih_2 _ _ hf (lv_sub hl [3, 4, 0] rfl)
          · have hf := fn_t hc hf
            refine lv_iconst (v := 0) hx hb d_M_isRow_77 (by decide) ?_
            cases hf
            exact hret 78 _ rfl d_M_isRow_78
  unfold f_M_isRow at hf
  refine lv_iconst (v := 0) hx hb d_M_isRow_0 (by decide) ?_
  refine lv_istore_n (lv' := [(2, .int 0), (0, .ref md), (1, .int v1)]) hx hb d_M_isRow_1 rfl hl (by decide) rfl (fun ls hl => ?_)
  exact J_2 _ _ _ _ hf (lv_sub hl [1, 2, 0] rfl)
abbrev rm_M_stands : Room := { frames := 0, cells := 0, slots := 0, locals := 0 }
set_option maxHeartbeats 4000000 in
set_option maxRecDepth 100000 in
theorem c_M_stands (l : Launch) (D : va_G) (cK : Nat → ClassId) (md mWh mTr mCo mWi mPc mIt mRo mKn mNe mSe mVa mLa : Nat) (mdN : Int32) (mdL : Int32) (mdS : Int32) (mdQ : Int32) (mPcf : Nat → Int32) (mItf : Nat → Int32) (N : Nat) (v1 : Int32) (v2 : Int32) (r : Int32) (hf : f_M_stands N mPcf mItf v1 v2 = some r) : RdI l y_M_stands w_M_stands rm_M_stands D zz_cl (mt_ty cK RK2) [.ref md, .int v1, .int v2] [(md, .inr (6, [.int mdN, .int mdL, .ref mWh, .ref mTr, .ref mCo, .int mdS, .ref mWi, .ref mPc, .ref mIt, .int mdQ, .ref mRo, .ref mKn, .ref mNe, .ref mSe, .ref mVa, .ref mLa])), (mPc, .inl (cK 0, 12, .inl mPcf)), (mIt, .inl (cK 0, 108, .inl mItf))] r := by
  refine mk_RdI (cc := b_M_stands) (maxL := 5) (ty := .boolean) (by decide +kernel) rfl (Nat.le_of_ble_eq_true rfl) ?_
  intro p e s m below meth c args Q ls hx hb hml hown hts hK hP hret hl
  have hl : lv_has ls 5 [(0, .ref md), (1, .int v1), (2, .int v2)] := hl
  have J_5 : ∀ (v1 : Int32) (v2 : Int32) (n_5 : Nat)  (v3 : Int32) (v4 : Int32) (ls : Array Slot), f_M_stands_5 N mPcf mItf v1 v2 n_5 v3 v4 = some r → lv_has ls 5 [(0, .ref md), (1, .int v1), (2, .int v2), (3, .int v3), (4, .int v4)] → W p l e rm_M_stands s m args below meth c s.heap [] 0 0 Q (F0 m 5 ls []) := by
    intro v1 v2 n_5
    induction n_5 with
    | zero =>
      intro v3 v4 ls hf hl
      exact fn_0 hf
    | succ n_5 ih_5 =>
      intro v3 v4 ls hf hl
      rw [f_M_stands_5.eq_2] at hf
      refine lv_iload hx hb d_M_stands_5 (lv_at hl 4 rfl) ?_
      refine lv_iconst (v := 3) hx hb d_M_stands_7 (by decide) ?_
      refine lv_aload_n hx hb d_M_stands_8 rfl (lv_at hl 0 rfl) ?_
      refine va_get (D := D) (ci := 6) (v := .ref mPc) (C := RK6) (T := TK6) (N := 16) hx hb hts iwK6 hown hK hP 0 rfl rfl 7 (by decide) (hts _ fl_M_23) (fun _ h9 => h9) rfl d_M_stands_9 ?_
      refine lv_iload_n hx hb d_M_stands_12 rfl (lv_at hl 1 rfl) ?_
      have hg := fn_g hf
      have hf := fn_t hg hf
      refine va_iald hx hb hK hP 1 0 rfl rfl (fn_v hg) d_M_stands_13 ?_
      refine lv_imul hx hb d_M_stands_14 ?_
      refine lv_icmp_ge (tgt := 51) hx hb d_M_stands_15 (by decide) (fun hc => ?_) (fun hc => ?_)
      · have hf := fn_t hc hf
        refine lv_iload_n hx hb d_M_stands_51 rfl (lv_at hl 3 rfl) ?_
        have hg := fn_g hf
        have hf := fn_t hg hf
        cases hf
        exact hret 52 _ (fn_zn hg) d_M_stands_52
      · have hf := fn_f hc hf
        refine lv_iload_n hx hb d_M_stands_18 rfl (lv_at hl 3 rfl) ?_
        refine lv_if_ne (tgt := 39) hx hb d_M_stands_19 (by decide) (fun hc => ?_) (fun hc => ?_)
        · have hf := fn_f hc hf
          refine lv_iconst (v := 1) hx hb d_M_stands_39 (by decide) ?_
          refine lv_goto (tgt := 44) hx hb d_M_stands_40 (by decide) ?_
          refine lv_istore_n (lv' := [(3, .int 1), (0, .ref md), (1, .int v1), (2, .int v2), (4, .int v4)]) hx hb d_M_stands_44 rfl hl (by decide) rfl (fun ls hl => ?_)
          refine lv_iinc (v := (v4 + 1)) (lv' := [(4, .int (v4 + 1)), (3, .int 1), (0, .ref md), (1, .int v1), (2, .int v2)]) hx hb d_M_stands_45 hl (k := 4) rfl rfl (by decide) rfl (fun ls hl => ?_)
          refine lv_goto (tgt := 5) hx hb d_M_stands_48 (by decide) ?_
          exact ih_5 _ _ _ hf (lv_sub hl [2, 3, 4, 1, 0] rfl)
        · have hf := fn_t hc hf
          refine lv_aload_n hx hb d_M_stands_22 rfl (lv_at hl 0 rfl) ?_
          refine va_get (D := D) (ci := 6) (v := .ref mIt) (C := RK6) (T := TK6) (N := 16) hx hb hts iwK6 hown hK hP 0 rfl rfl 8 (by decide) (hts _ fl_M_26) (fun _ h9 => h9) rfl d_M_stands_23 ?_
          refine lv_bipush (v := 9) hx hb d_M_stands_26 (by decide) ?_
          refine lv_iload_n hx hb d_M_stands_28 rfl (lv_at hl 1 rfl) ?_
          refine lv_imul hx hb d_M_stands_29 ?_
          refine lv_iload hx hb d_M_stands_30 (lv_at hl 4 rfl) ?_
          refine lv_iadd hx hb d_M_stands_32 ?_
          have hg := fn_g hf
          have hf := fn_t hg hf
          refine va_iald hx hb hK hP 2 0 rfl rfl (fn_v hg) d_M_stands_33 ?_
          refine lv_iload_n hx hb d_M_stands_34 rfl (lv_at hl 2 rfl) ?_
          refine lv_ineg hx hb d_M_stands_35 ?_
          refine lv_icmp_ne (tgt := 43) hx hb d_M_stands_36 (by decide) (fun hc => ?_) (fun hc => ?_)
          · have hf := fn_f hc hf
            refine lv_iconst (v := 0) hx hb d_M_stands_43 (by decide) ?_
            refine lv_istore_n (lv' := [(3, .int 0), (0, .ref md), (1, .int v1), (2, .int v2), (4, .int v4)]) hx hb d_M_stands_44 rfl hl (by decide) rfl (fun ls hl => ?_)
            refine lv_iinc (v := (v4 + 1)) (lv' := [(4, .int (v4 + 1)), (3, .int 0), (0, .ref md), (1, .int v1), (2, .int v2)]) hx hb d_M_stands_45 hl (k := 4) rfl rfl (by decide) rfl (fun ls hl => ?_)
            refine lv_goto (tgt := 5) hx hb d_M_stands_48 (by decide) ?_
            exact ih_5 _ _ _ hf (lv_sub hl [2, 3, 4, 1, 0] rfl)
          · have hf := fn_t hc hf
            refine lv_iconst (v := 1) hx hb d_M_stands_39 (by decide) ?_
            refine lv_goto (tgt := 44) hx hb d_M_stands_40 (by decide) ?_
            refine lv_istore_n (lv' := [(3, .int 1), (0, .ref md), (1, .int v1), (2, .int v2), (4, .int v4)]) hx hb d_M_stands_44 rfl hl (by decide) rfl (fun ls hl => ?_)
            refine lv_iinc (v := (v4 + 1)) (lv' := [(4, .int (v4 + 1)), (3, .int 1), (0, .ref md), (1, .int v1), (2, .int v2)]) hx hb d_M_stands_45 hl (k := 4) rfl rfl (by decide) rfl (fun ls hl => ?_)
            refine lv_goto (tgt := 5) hx hb d_M_stands_48 (by decide) ?_
            exact ih_5 _ _ _ hf (lv_sub hl [2, 3, 4, 1, 0] rfl)
  unfold f_M_stands at hf
  refine lv_iconst (v := 0) hx hb d_M_stands_0 (by decide) ?_
  refine lv_istore_n (lv' := [(3, .int 0), (0, .ref md), (1, .int v1), (2, .int v2)]) hx hb d_M_stands_1 rfl hl (by decide) rfl (fun ls hl => ?_)
  refine lv_iconst (v := 0) hx hb d_M_stands_2 (by decide) ?_
  refine lv_istore (lv' := [(4, .int 0), (3, .int 0), (0, .ref md), (1, .int v1), (2, .int v2)]) hx hb d_M_stands_3 hl (by decide) rfl (fun ls hl => ?_)
  exact J_5 _ _ _ _ _ _ hf (lv_sub hl [2, 3, 4, 1, 0] rfl)
abbrev rm_M_askLast : Room := { frames := 2, cells := 0, slots := 0, locals := 46 }
set_option maxHeartbeats 4000000 in
set_option maxRecDepth 100000 in
theorem c_M_askLast (l : Launch) (D : va_G) (cK : Nat → ClassId) (md mWh mTr mCo mWi mPc mIt mRo mKn mNe mSe mVa mLa : Nat) (mdN : Int32) (mdL : Int32) (mdS : Int32) (mdQ : Int32) (mPcf : Nat → Int32) (mItf : Nat → Int32) (mNef : Nat → Int64) (mSef : Nat → Int32) (mVaf : Nat → Int32) (N : Nat) (v1 : Int32) (v2 : Int32) (v3 : Int32) (v4 : Int32) (v5 : Int32) (o_mNef : Nat → Int64) (o_mVaf : Nat → Int32) (hf : f_M_askLast N mPcf mItf mNef mSef mVaf v1 v2 v3 v4 v5 = some (o_mNef, o_mVaf)) : WrV l y_M_askLast w_M_askLast rm_M_askLast D zz_cl (mt_ty cK RK2) [.ref md, .int v1, .int v2, .int v3, .int v4, .int v5] [(md, .inr (6, [.int mdN, .int mdL, .ref mWh, .ref mTr, .ref mCo, .int mdS, .ref mWi, .ref mPc, .ref mIt, .int mdQ, .ref mRo, .ref mKn, .ref mNe, .ref mSe, .ref mVa, .ref mLa])), (mPc, .inl (cK 0, 12, .inl mPcf)), (mIt, .inl (cK 0, 108, .inl mItf)), (mNe, .inl (cK 2, 1024, .inr (.inl mNef))), (mSe, .inl (cK 1, 2048, .inl mSef)), (mVa, .inl (cK 0, 5, .inl mVaf))] [(md, .inr (6, [.int mdN, .int mdL, .ref mWh, .ref mTr, .ref mCo, .int mdS, .ref mWi, .ref mPc, .ref mIt, .int mdQ, .ref mRo, .ref mKn, .ref mNe, .ref mSe, .ref mVa, .ref mLa])), (mPc, .inl (cK 0, 12, .inl mPcf)), (mIt, .inl (cK 0, 108, .inl mItf)), (mNe, .inl (cK 2, 1024, .inr (.inl o_mNef))), (mSe, .inl (cK 1, 2048, .inl mSef)), (mVa, .inl (cK 0, 5, .inl o_mVaf))] := by
  refine mk_WrV (cc := b_M_askLast) (maxL := 8) (by decide +kernel) rfl (Nat.le_of_ble_eq_true rfl) ?_
  intro p e s m below meth c args Q A ls hx hb hml hown hts hA hK hP hD hret hl
  have hS : va_S A s.heap s.heap [] := va_S.rf
  have hl : lv_has ls 8 [(0, .ref md), (1, .int v1), (2, .int v2), (3, .int v3), (4, .int v4), (5, .int v5)] := hl
  have J_25 : ∀ (v1 : Int32) (v2 : Int32) (v3 : Int32) (v4 : Int32) (v5 : Int32) (n_25 : Nat) (mNef : Nat → Int64) (mVaf : Nat → Int32) (v6 : Int32) (H : Heap) (locs : List Loc) (ls : Array Slot), f_M_askLast_25 N mPcf mItf mSef v1 v2 v3 v4 v5 n_25 mNef mVaf v6 = some (o_mNef, o_mVaf) → va_P D zz_cl [(md, .inr (6, [.int mdN, .int mdL, .ref mWh, .ref mTr, .ref mCo, .int mdS, .ref mWi, .ref mPc, .ref mIt, .int mdQ, .ref mRo, .ref mKn, .ref mNe, .ref mSe, .ref mVa, .ref mLa])), (mPc, .inl (cK 0, 12, .inl mPcf)), (mIt, .inl (cK 0, 108, .inl mItf)), (mNe, .inl (cK 2, 1024, .inr (.inl mNef))), (mSe, .inl (cK 1, 2048, .inl mSef)), (mVa, .inl (cK 0, 5, .inl mVaf))] H → va_D A [(md, .inr (6, [.int mdN, .int mdL, .ref mWh, .ref mTr, .ref mCo, .int mdS, .ref mWi, .ref mPc, .ref mIt, .int mdQ, .ref mRo, .ref mKn, .ref mNe, .ref mSe, .ref mVa, .ref mLa])), (mPc, .inl (cK 0, 12, .inl mPcf)), (mIt, .inl (cK 0, 108, .inl mItf)), (mNe, .inl (cK 2, 1024, .inr (.inl mNef))), (mSe, .inl (cK 1, 2048, .inl mSef)), (mVa, .inl (cK 0, 5, .inl mVaf))] → va_S A s.heap H locs → lv_has ls 8 [(0, .ref md), (1, .int v1), (2, .int v2), (3, .int v3), (4, .int v4), (5, .int v5), (6, .int v6)] → W p l e rm_M_askLast s m args below meth c H locs 0 0 Q (F0 m 25 ls []) := by
    intro v1 v2 v3 v4 v5 n_25
    induction n_25 with
    | zero =>
      intro mNef mVaf v6 H locs ls hf hP hD hS hl
      exact fn_0 hf
    | succ n_25 ih_25 =>
      intro mNef mVaf v6 H locs ls hf hP hD hS hl
      rw [f_M_askLast_25.eq_2] at hf
      refine lv_iload hx hb d_M_askLast_25 (lv_at hl 6 rfl) ?_
      refine lv_iload hx hb d_M_askLast_27 (lv_at hl 5 rfl) ?_
      refine lv_icmp_gt (tgt := 96) hx hb d_M_askLast_29 (by decide) (fun hc => ?_) (fun hc => ?_)
      · have hf := fn_t hc hf
        cases hf
        exact hret _ _ 96 _ hP hD hS d_M_askLast_96
      · have hf := fn_f hc hf
        refine lv_aload_n hx hb d_M_askLast_32 rfl (lv_at hl 0 rfl) ?_
        refine va_get (D := D) (ci := 6) (v := .ref mVa) (C := RK6) (T := TK6) (N := 16) hx hb hts iwK6 hown hK hP 0 rfl rfl 14 (by decide) (hts _ fl_M_43) (fun _ h9 => h9) rfl d_M_askLast_33 ?_
        refine lv_iconst (v := 4) hx hb d_M_askLast_36 (by decide) ?_
        refine lv_iload hx hb d_M_askLast_37 (lv_at hl 6 rfl) ?_
        have hg := fn_g hf
        have hf := fn_t hg hf
        refine va_iast hx hb hK hP hD hS 5 0 rfl rfl (fn_v hg) d_M_askLast_39 (fun H locs hP hD hS => ?_)
        have hP : va_P D zz_cl [(md, .inr (6, [.int mdN, .int mdL, .ref mWh, .ref mTr, .ref mCo, .int mdS, .ref mWi, .ref mPc, .ref mIt, .int mdQ, .ref mRo, .ref mKn, .ref mNe, .ref mSe, .ref mVa, .ref mLa])), (mPc, .inl (cK 0, 12, .inl mPcf)), (mIt, .inl (cK 0, 108, .inl mItf)), (mNe, .inl (cK 2, 1024, .inr (.inl mNef))), (mSe, .inl (cK 1, 2048, .inl mSef)), (mVa, .inl (cK 0, 5, .inl (upd mVaf (Int32.toNatClampNeg 4) v6)))] H := hP
        have hD : va_D A [(md, .inr (6, [.int mdN, .int mdL, .ref mWh, .ref mTr, .ref mCo, .int mdS, .ref mWi, .ref mPc, .ref mIt, .int mdQ, .ref mRo, .ref mKn, .ref mNe, .ref mSe, .ref mVa, .ref mLa])), (mPc, .inl (cK 0, 12, .inl mPcf)), (mIt, .inl (cK 0, 108, .inl mItf)), (mNe, .inl (cK 2, 1024, .inr (.inl mNef))), (mSe, .inl (cK 1, 2048, .inl mSef)), (mVa, .inl (cK 0, 5, .inl (upd mVaf (Int32.toNatClampNeg 4) v6)))] := hD
        refine lv_sipush (v := 4096) hx hb d_M_askLast_40 (by decide) ?_
        refine lv_iload_n hx hb d_M_askLast_43 rfl (lv_at hl 2 rfl) ?_
        refine lv_imul hx hb d_M_askLast_44 ?_
        refine lv_sipush (v := 256) hx hb d_M_askLast_45 (by decide) ?_
        refine lv_iload_n hx hb d_M_askLast_48 rfl (lv_at hl 3 rfl) ?_
        refine lv_imul hx hb d_M_askLast_49 ?_
        refine lv_iadd hx hb d_M_askLast_50 ?_
        refine lv_bipush (v := 16) hx hb d_M_askLast_51 (by decide) ?_
        refine lv_iload hx hb d_M_askLast_53 (lv_at hl 4 rfl) ?_
        refine lv_imul hx hb d_M_askLast_55 ?_
        refine lv_iadd hx hb d_M_askLast_56 ?_
        refine lv_iload hx hb d_M_askLast_57 (lv_at hl 6 rfl) ?_
        refine lv_iadd hx hb d_M_askLast_59 ?_
        refine lv_istore (lv' := [(7, .int ((((4096 * v2) + (256 * v3)) + (16 * v4)) + v6)), (0, .ref md), (1, .int v1), (2, .int v2), (3, .int v3), (4, .int v4), (5, .int v5), (6, .int v6)]) hx hb d_M_askLast_60 hl (by decide) rfl (fun ls hl => ?_)
        refine lv_aload_n hx hb d_M_askLast_62 rfl (lv_at hl 1 rfl) ?_
        refine lv_iload_n hx hb d_M_askLast_63 rfl (lv_at hl 2 rfl) ?_
        obtain ⟨r_64, hcl, hf⟩ := fn_e1 hf
        refine cv_RdI (rest := []) ⟨hx, hb, hml, hown, hts⟩ (c_M_isRow l D cK md mWh mTr mCo mWi mPc mIt mRo mKn mNe mSe mVa mLa mdN mdL mdS mdQ mPcf mItf mSef (upd mVaf (Int32.toNatClampNeg 4) v6) N v1 r_64 hcl) (cwV 1 hts (zz_V ml_M_110 im_M_isRow se_M_isRow in_M co_M_isRow) rfl rfl rfl ⟨rfl, hd_M_isRow⟩ ⟨Nat.le_of_ble_eq_true rfl, Nat.le_of_ble_eq_true rfl⟩) hK hP [0, 1, 2, 4, 5] rfl 0 rfl rfl rfl rfl hl.1 rfl (Nat.le_of_ble_eq_true rfl) d_M_askLast_64 ⟨Nat.zero_le _, Nat.zero_le _⟩ ?_
        refine lv_if_eq (tgt := 90) hx hb d_M_askLast_67 (by decide) (fun hc => ?_) (fun hc => ?_)
        · have hf := fn_t hc hf
          refine lv_iinc (v := (v6 + 1)) (lv' := [(6, .int (v6 + 1)), (7, .int ((((4096 * v2) + (256 * v3)) + (16 * v4)) + v6)), (0, .ref md), (1, .int v1), (2, .int v2), (3, .int v3), (4, .int v4), (5, .int v5)]) hx hb d_M_askLast_90 hl (k := 7) rfl rfl (by decide) rfl (fun ls hl => ?_)
          refine lv_goto (tgt := 25) hx hb d_M_askLast_93 (by decide) ?_
          exact ih_25 _ _ _ _ _ _ hf hP hD hS (lv_sub hl [2, 3, 4, 5, 6, 7, 0] rfl)
        · have hf := fn_f hc hf
          refine lv_aload_n hx hb d_M_askLast_70 rfl (lv_at hl 1 rfl) ?_
          refine va_get (D := D) (ci := 6) (v := .ref mNe) (C := RK6) (T := TK6) (N := 16) hx hb hts iwK6 hown hK hP 0 rfl rfl 12 (by decide) (hts _ fl_M_37) (fun _ h9 => h9) rfl d_M_askLast_71 ?_
          refine lv_iload hx hb d_M_askLast_74 (lv_at hl 0 rfl) ?_
          refine lv_bipush (v := 64) hx hb d_M_askLast_76 (by decide) ?_
          refine lv_idiv hx hb d_M_askLast_78 (by decide) ?_
          refine lv_dup2_11 hx hb d_M_askLast_79 rfl rfl ?_
          have hg := fn_g hf
          have hf := fn_t hg hf
          refine va_lald hx hb hK hP 3 2 rfl rfl (fn_v hg) d_M_askLast_80 ?_
          refine lv_lconst (v := 1) hx hb d_M_askLast_81 (by decide) ?_
          refine lv_iload hx hb d_M_askLast_82 (lv_at hl 0 rfl) ?_
          refine lv_bipush (v := 64) hx hb d_M_askLast_84 (by decide) ?_
          refine lv_irem hx hb d_M_askLast_86 (by decide) ?_
          refine lv_lshl hx hb d_M_askLast_87 rfl ?_
          refine lv_lor hx hb d_M_askLast_88 ?_
          have hg := fn_g hf
          have hf := fn_t hg hf
          refine va_last hx hb hK hP hD hS 3 2 rfl rfl (fn_v hg) d_M_askLast_89 (fun H locs hP hD hS => ?_)
          have hP : va_P D zz_cl [(md, .inr (6, [.int mdN, .int mdL, .ref mWh, .ref mTr, .ref mCo, .int mdS, .ref mWi, .ref mPc, .ref mIt, .int mdQ, .ref mRo, .ref mKn, .ref mNe, .ref mSe, .ref mVa, .ref mLa])), (mPc, .inl (cK 0, 12, .inl mPcf)), (mIt, .inl (cK 0, 108, .inl mItf)), (mNe, .inl (cK 2, 1024, .inr (.inl (vp_updL mNef (Int32.toNatClampNeg (((((4096 * v2) + (256 * v3)) + (16 * v4)) + v6) / 64)) ((mNef (Int32.toNatClampNeg (((((4096 * v2) + (256 * v3)) + (16 * v4)) + v6) / 64))) ||| ((1 : Int64) <<< (Int32.toInt64 (((((4096 * v2) + (256 * v3)) + (16 * v4)) + v6) - ((((4096 * v2) + (256 * v3)) + (16 * v4)) + v6) / 64 * 64) &&& 63))))))), (mSe, .inl (cK 1, 2048, .inl mSef)), (mVa, .inl (cK 0, 5, .inl (upd mVaf (Int32.toNatClampNeg 4) v6)))] H := hP
          have hD : va_D A [(md, .inr (6, [.int mdN, .int mdL, .ref mWh, .ref mTr, .ref mCo, .int mdS, .ref mWi, .ref mPc, .ref mIt, .int mdQ, .ref mRo, .ref mKn, .ref mNe, .ref mSe, .ref mVa, .ref mLa])), (mPc, .inl (cK 0, 12, .inl mPcf)), (mIt, .inl (cK 0, 108, .inl mItf)), (mNe, .inl (cK 2, 1024, .inr (.inl (vp_updL mNef (Int32.toNatClampNeg (((((4096 * v2) + (256 * v3)) + (16 * v4)) + v6) / 64)) ((mNef (Int32.toNatClampNeg (((((4096 * v2) + (256 * v3)) + (16 * v4)) + v6) / 64))) ||| ((1 : Int64) <<< (Int32.toInt64 (((((4096 * v2) + (256 * v3)) + (16 * v4)) + v6) - ((((4096 * v2) + (256 * v3)) + (16 * v4)) + v6) / 64 * 64) &&& 63))))))), (mSe, .inl (cK 1, 2048, .inl mSef)), (mVa, .inl (cK 0, 5, .inl (upd mVaf (Int32.toNatClampNeg 4) v6)))] := hD
          refine lv_iinc (v := (v6 + 1)) (lv' := [(6, .int (v6 + 1)), (7, .int ((((4096 * v2) + (256 * v3)) + (16 * v4)) + v6)), (0, .ref md), (1, .int v1), (2, .int v2), (3, .int v3), (4, .int v4), (5, .int v5)]) hx hb d_M_askLast_90 hl (k := 7) rfl rfl (by decide) rfl (fun ls hl => ?_)
          refine lv_goto (tgt := 25) hx hb d_M_askLast_93 (by decide) ?_
          exact ih_25 _ _ _ _ _ _ hf hP hD hS (lv_sub hl [2, 3, 4, 5, 6, 7, 0] rfl)
  unfold f_M_askLast at hf
  refine lv_aload_n hx hb d_M_askLast_0 rfl (lv_at hl 0 rfl) ?_
  refine va_get (D := D) (ci := 6) (v := .ref mVa) (C := RK6) (T := TK6) (N := 16) hx hb hts iwK6 hown hK hP 0 rfl rfl 14 (by decide) (hts _ fl_M_43) (fun _ h9 => h9) rfl d_M_askLast_1 ?_
  refine lv_iconst (v := 1) hx hb d_M_askLast_4 (by decide) ?_
  refine lv_iload_n hx hb d_M_askLast_5 rfl (lv_at hl 2 rfl) ?_
  have hg := fn_g hf
  have hf := fn_t hg hf
  refine va_iast hx hb hK hP hD hS 5 0 rfl rfl (fn_v hg) d_M_askLast_6 (fun H locs hP hD hS => ?_)
  have hP : va_P D zz_cl [(md, .inr (6, [.int mdN, .int mdL, .ref mWh, .ref mTr, .ref mCo, .int mdS, .ref mWi, .ref mPc, .ref mIt, .int mdQ, .ref mRo, .ref mKn, .ref mNe, .ref mSe, .ref mVa, .ref mLa])), (mPc, .inl (cK 0, 12, .inl mPcf)), (mIt, .inl (cK 0, 108, .inl mItf)), (mNe, .inl (cK 2, 1024, .inr (.inl mNef))), (mSe, .inl (cK 1, 2048, .inl mSef)), (mVa, .inl (cK 0, 5, .inl (upd mVaf (Int32.toNatClampNeg 1) v2)))] H := hP
  have hD : va_D A [(md, .inr (6, [.int mdN, .int mdL, .ref mWh, .ref mTr, .ref mCo, .int mdS, .ref mWi, .ref mPc, .ref mIt, .int mdQ, .ref mRo, .ref mKn, .ref mNe, .ref mSe, .ref mVa, .ref mLa])), (mPc, .inl (cK 0, 12, .inl mPcf)), (mIt, .inl (cK 0, 108, .inl mItf)), (mNe, .inl (cK 2, 1024, .inr (.inl mNef))), (mSe, .inl (cK 1, 2048, .inl mSef)), (mVa, .inl (cK 0, 5, .inl (upd mVaf (Int32.toNatClampNeg 1) v2)))] := hD
  refine lv_aload_n hx hb d_M_askLast_7 rfl (lv_at hl 0 rfl) ?_
  refine va_get (D := D) (ci := 6) (v := .ref mVa) (C := RK6) (T := TK6) (N := 16) hx hb hts iwK6 hown hK hP 0 rfl rfl 14 (by decide) (hts _ fl_M_43) (fun _ h9 => h9) rfl d_M_askLast_8 ?_
  refine lv_iconst (v := 2) hx hb d_M_askLast_11 (by decide) ?_
  refine lv_iload_n hx hb d_M_askLast_12 rfl (lv_at hl 3 rfl) ?_
  have hg := fn_g hf
  have hf := fn_t hg hf
  refine va_iast hx hb hK hP hD hS 5 0 rfl rfl (fn_v hg) d_M_askLast_13 (fun H locs hP hD hS => ?_)
  have hP : va_P D zz_cl [(md, .inr (6, [.int mdN, .int mdL, .ref mWh, .ref mTr, .ref mCo, .int mdS, .ref mWi, .ref mPc, .ref mIt, .int mdQ, .ref mRo, .ref mKn, .ref mNe, .ref mSe, .ref mVa, .ref mLa])), (mPc, .inl (cK 0, 12, .inl mPcf)), (mIt, .inl (cK 0, 108, .inl mItf)), (mNe, .inl (cK 2, 1024, .inr (.inl mNef))), (mSe, .inl (cK 1, 2048, .inl mSef)), (mVa, .inl (cK 0, 5, .inl (upd (upd mVaf (Int32.toNatClampNeg 1) v2) (Int32.toNatClampNeg 2) v3)))] H := hP
  have hD : va_D A [(md, .inr (6, [.int mdN, .int mdL, .ref mWh, .ref mTr, .ref mCo, .int mdS, .ref mWi, .ref mPc, .ref mIt, .int mdQ, .ref mRo, .ref mKn, .ref mNe, .ref mSe, .ref mVa, .ref mLa])), (mPc, .inl (cK 0, 12, .inl mPcf)), (mIt, .inl (cK 0, 108, .inl mItf)), (mNe, .inl (cK 2, 1024, .inr (.inl mNef))), (mSe, .inl (cK 1, 2048, .inl mSef)), (mVa, .inl (cK 0, 5, .inl (upd (upd mVaf (Int32.toNatClampNeg 1) v2) (Int32.toNatClampNeg 2) v3)))] := hD
  refine lv_aload_n hx hb d_M_askLast_14 rfl (lv_at hl 0 rfl) ?_
  refine va_get (D := D) (ci := 6) (v := .ref mVa) (C := RK6) (T := TK6) (N := 16) hx hb hts iwK6 hown hK hP 0 rfl rfl 14 (by decide) (hts _ fl_M_43) (fun _ h9 => h9) rfl d_M_askLast_15 ?_
  refine lv_iconst (v := 3) hx hb d_M_askLast_18 (by decide) ?_
  refine lv_iload hx hb d_M_askLast_19 (lv_at hl 4 rfl) ?_
  have hg := fn_g hf
  have hf := fn_t hg hf
  refine va_iast hx hb hK hP hD hS 5 0 rfl rfl (fn_v hg) d_M_askLast_21 (fun H locs hP hD hS => ?_)
  have hP : va_P D zz_cl [(md, .inr (6, [.int mdN, .int mdL, .ref mWh, .ref mTr, .ref mCo, .int mdS, .ref mWi, .ref mPc, .ref mIt, .int mdQ, .ref mRo, .ref mKn, .ref mNe, .ref mSe, .ref mVa, .ref mLa])), (mPc, .inl (cK 0, 12, .inl mPcf)), (mIt, .inl (cK 0, 108, .inl mItf)), (mNe, .inl (cK 2, 1024, .inr (.inl mNef))), (mSe, .inl (cK 1, 2048, .inl mSef)), (mVa, .inl (cK 0, 5, .inl (upd (upd (upd mVaf (Int32.toNatClampNeg 1) v2) (Int32.toNatClampNeg 2) v3) (Int32.toNatClampNeg 3) v4)))] H := hP
  have hD : va_D A [(md, .inr (6, [.int mdN, .int mdL, .ref mWh, .ref mTr, .ref mCo, .int mdS, .ref mWi, .ref mPc, .ref mIt, .int mdQ, .ref mRo, .ref mKn, .ref mNe, .ref mSe, .ref mVa, .ref mLa])), (mPc, .inl (cK 0, 12, .inl mPcf)), (mIt, .inl (cK 0, 108, .inl mItf)), (mNe, .inl (cK 2, 1024, .inr (.inl mNef))), (mSe, .inl (cK 1, 2048, .inl mSef)), (mVa, .inl (cK 0, 5, .inl (upd (upd (upd mVaf (Int32.toNatClampNeg 1) v2) (Int32.toNatClampNeg 2) v3) (Int32.toNatClampNeg 3) v4)))] := hD
  refine lv_iconst (v := 0) hx hb d_M_askLast_22 (by decide) ?_
  refine lv_istore (lv' := [(6, .int 0), (0, .ref md), (1, .int v1), (2, .int v2), (3, .int v3), (4, .int v4), (5, .int v5)]) hx hb d_M_askLast_23 hl (by decide) rfl (fun ls hl => ?_)
  exact J_25 _ _ _ _ _ _ _ _ _ _ _ _ hf hP hD hS (lv_sub hl [1, 2, 3, 4, 5, 6, 0] rfl)
abbrev rm_M_at : Room := { frames := 0, cells := 0, slots := 0, locals := 0 }
set_option maxHeartbeats 4000000 in
set_option maxRecDepth 100000 in
theorem c_M_at (l : Launch) (D : va_G) (cK : Nat → ClassId) (md : Nat)  (v1 : Int32) (v2 : Int32) (r : Int32) (hf : f_M_at v1 v2 = some r) : RdI l y_M_at w_M_at rm_M_at D zz_cl (mt_ty cK RK2) [.ref md, .int v1, .int v2] [] r := by
  refine mk_RdI (cc := b_M_at) (maxL := 3) (ty := .int) (by decide +kernel) rfl (Nat.le_of_ble_eq_true rfl) ?_
  intro p e s m below meth c args Q ls hx hb hml hown hts hK hP hret hl
  have hl : lv_has ls 3 [(0, .ref md), (1, .int v1), (2, .int v2)] := hl
  unfold f_M_at at hf
  refine lv_bipush (v := 62) hx hb d_M_at_0 (by decide) ?_
  refine lv_iload_n hx hb d_M_at_2 rfl (lv_at hl 1 rfl) ?_
  refine lv_imul hx hb d_M_at_3 ?_
  refine lv_iload_n hx hb d_M_at_4 rfl (lv_at hl 2 rfl) ?_
  refine lv_iadd hx hb d_M_at_5 ?_
  cases hf
  exact hret 6 _ rfl d_M_at_6
abbrev rm_M_ask : Room := { frames := 3, cells := 0, slots := 0, locals := 73 }
set_option maxHeartbeats 4000000 in
set_option maxRecDepth 100000 in
theorem c_M_ask (l : Launch) (D : va_G) (cK : Nat → ClassId) (md mWh mTr mCo mWi mPc mIt mRo mKn mNe mSe mVa mLa : Nat) (mdN : Int32) (mdL : Int32) (mdS : Int32) (mdQ : Int32) (mWhf : Nat → Int32) (mTrf : Nat → Int32) (mCof : Nat → Int32) (mWif : Nat → Int32) (mPcf : Nat → Int32) (mItf : Nat → Int32) (mNef : Nat → Int64) (mSef : Nat → Int32) (mVaf : Nat → Int32) (mLaf : Nat → Int32) (N : Nat) (v1 : Int32) (v2 : Int32) (o_mNef : Nat → Int64) (o_mSef : Nat → Int32) (o_mVaf : Nat → Int32) (o_mLaf : Nat → Int32) (hf : f_M_ask N mdS mWhf mTrf mCof mWif mPcf mItf mNef mSef mVaf mLaf v1 v2 = some (o_mNef, o_mSef, o_mVaf, o_mLaf)) : WrV l y_M_ask w_M_ask rm_M_ask D zz_cl (mt_ty cK RK2) [.ref md, .int v1, .int v2] [(md, .inr (6, [.int mdN, .int mdL, .ref mWh, .ref mTr, .ref mCo, .int mdS, .ref mWi, .ref mPc, .ref mIt, .int mdQ, .ref mRo, .ref mKn, .ref mNe, .ref mSe, .ref mVa, .ref mLa])), (mWh, .inl (cK 0, 400, .inl mWhf)), (mTr, .inl (cK 0, 400, .inl mTrf)), (mCo, .inl (cK 1, 400, .inl mCof)), (mWi, .inl (cK 0, 12, .inl mWif)), (mPc, .inl (cK 0, 12, .inl mPcf)), (mIt, .inl (cK 0, 108, .inl mItf)), (mNe, .inl (cK 2, 1024, .inr (.inl mNef))), (mSe, .inl (cK 1, 2048, .inl mSef)), (mVa, .inl (cK 0, 5, .inl mVaf)), (mLa, .inl (cK 0, 2048, .inl mLaf))] [(md, .inr (6, [.int mdN, .int mdL, .ref mWh, .ref mTr, .ref mCo, .int mdS, .ref mWi, .ref mPc, .ref mIt, .int mdQ, .ref mRo, .ref mKn, .ref mNe, .ref mSe, .ref mVa, .ref mLa])), (mWh, .inl (cK 0, 400, .inl mWhf)), (mTr, .inl (cK 0, 400, .inl mTrf)), (mCo, .inl (cK 1, 400, .inl mCof)), (mWi, .inl (cK 0, 12, .inl mWif)), (mPc, .inl (cK 0, 12, .inl mPcf)), (mIt, .inl (cK 0, 108, .inl mItf)), (mNe, .inl (cK 2, 1024, .inr (.inl o_mNef))), (mSe, .inl (cK 1, 2048, .inl o_mSef)), (mVa, .inl (cK 0, 5, .inl o_mVaf)), (mLa, .inl (cK 0, 2048, .inl o_mLaf))] := by
  refine mk_WrV (cc := b_M_ask) (maxL := 10) (by decide +kernel) rfl (Nat.le_of_ble_eq_true rfl) ?_
  intro p e s m below meth c args Q A ls hx hb hml hown hts hA hK hP hD hret hl
  have hS : va_S A s.heap s.heap [] := va_S.rf
  have hl : lv_has ls 10 [(0, .ref md), (1, .int v1), (2, .int v2)] := hl
  have J_103 : ∀ (v1 : Int32) (v3 : Int32) (v4 : Int32) (v5 : Int32) (v6 : Int32) (n_103 : Nat) (mNef : Nat → Int64) (mSef : Nat → Int32) (mVaf : Nat → Int32) (mLaf : Nat → Int32) (v7 : Int32) (H : Heap) (locs : List Loc) (ls : Array Slot), f_M_ask_103 N mdS mWhf mTrf mCof mWif mPcf mItf v1 v3 v4 v5 v6 n_103 mNef mSef mVaf mLaf v7 = some (o_mNef, o_mSef, o_mVaf, o_mLaf) → va_P D zz_cl [(md, .inr (6, [.int mdN, .int mdL, .ref mWh, .ref mTr, .ref mCo, .int mdS, .ref mWi, .ref mPc, .ref mIt, .int mdQ, .ref mRo, .ref mKn, .ref mNe, .ref mSe, .ref mVa, .ref mLa])), (mWh, .inl (cK 0, 400, .inl mWhf)), (mTr, .inl (cK 0, 400, .inl mTrf)), (mCo, .inl (cK 1, 400, .inl mCof)), (mWi, .inl (cK 0, 12, .inl mWif)), (mPc, .inl (cK 0, 12, .inl mPcf)), (mIt, .inl (cK 0, 108, .inl mItf)), (mNe, .inl (cK 2, 1024, .inr (.inl mNef))), (mSe, .inl (cK 1, 2048, .inl mSef)), (mVa, .inl (cK 0, 5, .inl mVaf)), (mLa, .inl (cK 0, 2048, .inl mLaf))] H → va_D A [(md, .inr (6, [.int mdN, .int mdL, .ref mWh, .ref mTr, .ref mCo, .int mdS, .ref mWi, .ref mPc, .ref mIt, .int mdQ, .ref mRo, .ref mKn, .ref mNe, .ref mSe, .ref mVa, .ref mLa])), (mWh, .inl (cK 0, 400, .inl mWhf)), (mTr, .inl (cK 0, 400, .inl mTrf)), (mCo, .inl (cK 1, 400, .inl mCof)), (mWi, .inl (cK 0, 12, .inl mWif)), (mPc, .inl (cK 0, 12, .inl mPcf)), (mIt, .inl (cK 0, 108, .inl mItf)), (mNe, .inl (cK 2, 1024, .inr (.inl mNef))), (mSe, .inl (cK 1, 2048, .inl mSef)), (mVa, .inl (cK 0, 5, .inl mVaf)), (mLa, .inl (cK 0, 2048, .inl mLaf))] → va_S A s.heap H locs → lv_has ls 10 [(0, .ref md), (1, .int v1), (3, .int v3), (4, .int v4), (5, .int v5), (6, .int v6), (7, .int v7)] → W p l e rm_M_ask s m args below meth c H locs 0 0 Q (F0 m 103 ls []) := by
    intro v1 v3 v4 v5 v6 n_103
    induction n_103 with
    | zero =>
      intro mNef mSef mVaf mLaf v7 H locs ls hf hP hD hS hl
      exact fn_0 hf
    | succ n_103 ih_103 =>
      have J_112 : ∀ (v7 : Int32) (n_112 : Nat) (mNef : Nat → Int64) (mSef : Nat → Int32) (mVaf : Nat → Int32) (mLaf : Nat → Int32) (v8 : Int32) (H : Heap) (locs : List Loc) (ls : Array Slot), f_M_ask_112 N mdS mWhf mTrf mCof mWif mPcf mItf (f_M_ask_103 N mdS mWhf mTrf mCof mWif mPcf mItf v1 v3 v4 v5 v6 n_103) v1 v3 v4 v5 v6 v7 n_112 mNef mSef mVaf mLaf v8 = some (o_mNef, o_mSef, o_mVaf, o_mLaf) → va_P D zz_cl [(md, .inr (6, [.int mdN, .int mdL, .ref mWh, .ref mTr, .ref mCo, .int mdS, .ref mWi, .ref mPc, .ref mIt, .int mdQ, .ref mRo, .ref mKn, .ref mNe, .ref mSe, .ref mVa, .ref mLa])), (mWh, .inl (cK 0, 400, .inl mWhf)), (mTr, .inl (cK 0, 400, .inl mTrf)), (mCo, .inl (cK 1, 400, .inl mCof)), (mWi, .inl (cK 0, 12, .inl mWif)), (mPc, .inl (cK 0, 12, .inl mPcf)), (mIt, .inl (cK 0, 108, .inl mItf)), (mNe, .inl (cK 2, 1024, .inr (.inl mNef))), (mSe, .inl (cK 1, 2048, .inl mSef)), (mVa, .inl (cK 0, 5, .inl mVaf)), (mLa, .inl (cK 0, 2048, .inl mLaf))] H → va_D A [(md, .inr (6, [.int mdN, .int mdL, .ref mWh, .ref mTr, .ref mCo, .int mdS, .ref mWi, .ref mPc, .ref mIt, .int mdQ, .ref mRo, .ref mKn, .ref mNe, .ref mSe, .ref mVa, .ref mLa])), (mWh, .inl (cK 0, 400, .inl mWhf)), (mTr, .inl (cK 0, 400, .inl mTrf)), (mCo, .inl (cK 1, 400, .inl mCof)), (mWi, .inl (cK 0, 12, .inl mWif)), (mPc, .inl (cK 0, 12, .inl mPcf)), (mIt, .inl (cK 0, 108, .inl mItf)), (mNe, .inl (cK 2, 1024, .inr (.inl mNef))), (mSe, .inl (cK 1, 2048, .inl mSef)), (mVa, .inl (cK 0, 5, .inl mVaf)), (mLa, .inl (cK 0, 2048, .inl mLaf))] → va_S A s.heap H locs → lv_has ls 10 [(0, .ref md), (1, .int v1), (3, .int v3), (4, .int v4), (5, .int v5), (6, .int v6), (7, .int v7), (8, .int v8)] → W p l e rm_M_ask s m args below meth c H locs 0 0 Q (F0 m 112 ls []) := by
        intro v7 n_112
        induction n_112 with
        | zero =>
          intro mNef mSef mVaf mLaf v8 H locs ls hf hP hD hS hl
          exact fn_0 hf
        | succ n_112 ih_112 =>
          have J_122 : ∀ (v8 : Int32) (n_122 : Nat) (mNef : Nat → Int64) (mSef : Nat → Int32) (mVaf : Nat → Int32) (mLaf : Nat → Int32) (v9 : Int32) (H : Heap) (locs : List Loc) (ls : Array Slot), f_M_ask_122 N mdS mWhf mTrf mCof mWif mPcf mItf (f_M_ask_103 N mdS mWhf mTrf mCof mWif mPcf mItf v1 v3 v4 v5 v6 n_103) (f_M_ask_112 N mdS mWhf mTrf mCof mWif mPcf mItf (f_M_ask_103 N mdS mWhf mTrf mCof mWif mPcf mItf v1 v3 v4 v5 v6 n_103) v1 v3 v4 v5 v6 v7 n_112) v1 v3 v4 v5 v6 v7 v8 n_122 mNef mSef mVaf mLaf v9 = some (o_mNef, o_mSef, o_mVaf, o_mLaf) → va_P D zz_cl [(md, .inr (6, [.int mdN, .int mdL, .ref mWh, .ref mTr, .ref mCo, .int mdS, .ref mWi, .ref mPc, .ref mIt, .int mdQ, .ref mRo, .ref mKn, .ref mNe, .ref mSe, .ref mVa, .ref mLa])), (mWh, .inl (cK 0, 400, .inl mWhf)), (mTr, .inl (cK 0, 400, .inl mTrf)), (mCo, .inl (cK 1, 400, .inl mCof)), (mWi, .inl (cK 0, 12, .inl mWif)), (mPc, .inl (cK 0, 12, .inl mPcf)), (mIt, .inl (cK 0, 108, .inl mItf)), (mNe, .inl (cK 2, 1024, .inr (.inl mNef))), (mSe, .inl (cK 1, 2048, .inl mSef)), (mVa, .inl (cK 0, 5, .inl mVaf)), (mLa, .inl (cK 0, 2048, .inl mLaf))] H → va_D A [(md, .inr (6, [.int mdN, .int mdL, .ref mWh, .ref mTr, .ref mCo, .int mdS, .ref mWi, .ref mPc, .ref mIt, .int mdQ, .ref mRo, .ref mKn, .ref mNe, .ref mSe, .ref mVa, .ref mLa])), (mWh, .inl (cK 0, 400, .inl mWhf)), (mTr, .inl (cK 0, 400, .inl mTrf)), (mCo, .inl (cK 1, 400, .inl mCof)), (mWi, .inl (cK 0, 12, .inl mWif)), (mPc, .inl (cK 0, 12, .inl mPcf)), (mIt, .inl (cK 0, 108, .inl mItf)), (mNe, .inl (cK 2, 1024, .inr (.inl mNef))), (mSe, .inl (cK 1, 2048, .inl mSef)), (mVa, .inl (cK 0, 5, .inl mVaf)), (mLa, .inl (cK 0, 2048, .inl mLaf))] → va_S A s.heap H locs → lv_has ls 10 [(0, .ref md), (1, .int v1), (3, .int v3), (4, .int v4), (5, .int v5), (6, .int v6), (7, .int v7), (8, .int v8), (9, .int v9)] → W p l e rm_M_ask s m args below meth c H locs 0 0 Q (F0 m 122 ls []) := by
            intro v8 n_122
            induction n_122 with
            | zero =>
              intro mNef mSef mVaf mLaf v9 H locs ls hf hP hD hS hl
              exact fn_0 hf
            | succ n_122 ih_122 =>
              intro mNef mSef mVaf mLaf v9 H locs ls hf hP hD hS hl
              rw [f_M_ask_122.eq_2] at hf
              refine lv_iload hx hb d_M_ask_122 (lv_at hl 8 rfl) ?_
              refine lv_iload hx hb d_M_ask_124 (lv_at hl 4 rfl) ?_
              refine lv_icmp_gt (tgt := 148) hx hb d_M_ask_126 (by decide) (fun hc => ?_) (fun hc => ?_)
              · have hf := fn_t hc hf
                refine lv_iinc (v := (v8 + 1)) (lv' := [(8, .int (v8 + 1)), (0, .ref md), (1, .int v1), (3, .int v3), (4, .int v4), (5, .int v5), (6, .int v6), (7, .int v7), (9, .int v9)]) hx hb d_M_ask_148 hl (k := 7) rfl rfl (by decide) rfl (fun ls hl => ?_)
                refine lv_goto (tgt := 112) hx hb d_M_ask_151 (by decide) ?_
                exact ih_112 _ _ _ _ _ _ _ _ hf hP hD hS (lv_sub hl [1, 2, 3, 4, 5, 6, 7, 0] rfl)
              · have hf := fn_f hc hf
                refine lv_aload_n hx hb d_M_ask_129 rfl (lv_at hl 0 rfl) ?_
                refine lv_iload_n hx hb d_M_ask_130 rfl (lv_at hl 1 rfl) ?_
                refine lv_iload hx hb d_M_ask_131 (lv_at hl 6 rfl) ?_
                refine lv_iload hx hb d_M_ask_133 (lv_at hl 7 rfl) ?_
                refine lv_iload hx hb d_M_ask_135 (lv_at hl 8 rfl) ?_
                refine lv_iload hx hb d_M_ask_137 (lv_at hl 5 rfl) ?_
                obtain ⟨mNef_139, mVaf_139, hcl, hf⟩ := fn_e2 hf
                refine cv_WrV (rest := []) (wr := [(mWh, .inl (cK 0, 400, .inl mWhf)), (mTr, .inl (cK 0, 400, .inl mTrf)), (mCo, .inl (cK 1, 400, .inl mCof)), (mWi, .inl (cK 0, 12, .inl mWif)), (mLa, .inl (cK 0, 2048, .inl mLaf))]) (w' := [(md, .inr (6, [.int mdN, .int mdL, .ref mWh, .ref mTr, .ref mCo, .int mdS, .ref mWi, .ref mPc, .ref mIt, .int mdQ, .ref mRo, .ref mKn, .ref mNe, .ref mSe, .ref mVa, .ref mLa])), (mWh, .inl (cK 0, 400, .inl mWhf)), (mTr, .inl (cK 0, 400, .inl mTrf)), (mCo, .inl (cK 1, 400, .inl mCof)), (mWi, .inl (cK 0, 12, .inl mWif)), (mPc, .inl (cK 0, 12, .inl mPcf)), (mIt, .inl (cK 0, 108, .inl mItf)), (mNe, .inl (cK 2, 1024, .inr (.inl mNef_139))), (mSe, .inl (cK 1, 2048, .inl mSef)), (mVa, .inl (cK 0, 5, .inl mVaf_139)), (mLa, .inl (cK 0, 2048, .inl mLaf))]) ⟨hx, hb, hml, hown, hts⟩ (c_M_askLast l D cK md mWh mTr mCo mWi mPc mIt mRo mKn mNe mSe mVa mLa mdN mdL mdS mdQ mPcf mItf mNef mSef mVaf N v1 v7 v8 v9 v6 mNef_139 mVaf_139 hcl) (cwV 5 hts (zz_V ml_M_106 im_M_askLast se_M_askLast in_M co_M_askLast) rfl rfl rfl ⟨rfl, hd_M_askLast⟩ ⟨Nat.le_of_ble_eq_true rfl, Nat.le_of_ble_eq_true rfl⟩) hK hP hD hS hA [0, 5, 6, 7, 8, 9] [1, 2, 3, 4, 10] [5, 0, 1, 2, 3, 6, 7, 8, 9, 10, 4] rfl (by decide) rfl (by decide) (by decide) rfl (by decide) 0 rfl rfl rfl rfl hl.1 rfl (Nat.le_of_ble_eq_true rfl) d_M_ask_139 ⟨Nat.zero_le _, Nat.zero_le _⟩ (fun H locs hP hD hS => ?_)
                refine lv_iinc (v := (v9 + 1)) (lv' := [(9, .int (v9 + 1)), (0, .ref md), (1, .int v1), (3, .int v3), (4, .int v4), (5, .int v5), (6, .int v6), (7, .int v7), (8, .int v8)]) hx hb d_M_ask_142 hl (k := 8) rfl rfl (by decide) rfl (fun ls hl => ?_)
                refine lv_goto (tgt := 122) hx hb d_M_ask_145 (by decide) ?_
                exact ih_122 _ _ _ _ _ _ _ _ hf hP hD hS (lv_sub hl [1, 2, 3, 4, 5, 6, 7, 8, 0] rfl)
          intro mNef mSef mVaf mLaf v8 H locs ls hf hP hD hS hl
          rw [f_M_ask_112.eq_2] at hf
          refine lv_iload hx hb d_M_ask_112 (lv_at hl 7 rfl) ?_
          refine lv_iload hx hb d_M_ask_114 (lv_at hl 3 rfl) ?_
          refine lv_icmp_gt (tgt := 154) hx hb d_M_ask_116 (by decide) (fun hc => ?_) (fun hc => ?_)
          · have hf := fn_t hc hf
            refine lv_iinc (v := (v7 + 1)) (lv' := [(7, .int (v7 + 1)), (0, .ref md), (1, .int v1), (3, .int v3), (4, .int v4), (5, .int v5), (6, .int v6), (8, .int v8)]) hx hb d_M_ask_154 hl (k := 6) rfl rfl (by decide) rfl (fun ls hl => ?_)
            refine lv_goto (tgt := 103) hx hb d_M_ask_157 (by decide) ?_
            exact ih_103 _ _ _ _ _ _ _ _ hf hP hD hS (lv_sub hl [1, 2, 3, 4, 5, 6, 0] rfl)
          · have hf := fn_f hc hf
            refine lv_iconst (v := 0) hx hb d_M_ask_119 (by decide) ?_
            refine lv_istore (lv' := [(9, .int 0), (0, .ref md), (1, .int v1), (3, .int v3), (4, .int v4), (5, .int v5), (6, .int v6), (7, .int v7), (8, .int v8)]) hx hb d_M_ask_120 hl (by decide) rfl (fun ls hl => ?_)
            exact J_122 _ _ _ _ _ _ _ _ _ _ hf hP hD hS (lv_sub hl [1, 2, 3, 4, 5, 6, 7, 8, 0] rfl)
      intro mNef mSef mVaf mLaf v7 H locs ls hf hP hD hS hl
      rw [f_M_ask_103.eq_2] at hf
      refine lv_iload hx hb d_M_ask_103 (lv_at hl 6 rfl) ?_
      refine lv_iload_n hx hb d_M_ask_105 rfl (lv_at hl 2 rfl) ?_
      refine lv_icmp_gt (tgt := 160) hx hb d_M_ask_106 (by decide) (fun hc => ?_) (fun hc => ?_)
      · have hf := fn_t hc hf
        cases hf
        exact hret _ _ 160 _ hP hD hS d_M_ask_160
      · have hf := fn_f hc hf
        refine lv_iconst (v := 0) hx hb d_M_ask_109 (by decide) ?_
        refine lv_istore (lv' := [(8, .int 0), (0, .ref md), (1, .int v1), (3, .int v3), (4, .int v4), (5, .int v5), (6, .int v6), (7, .int v7)]) hx hb d_M_ask_110 hl (by decide) rfl (fun ls hl => ?_)
        exact J_112 _ _ _ _ _ _ _ _ _ _ hf hP hD hS (lv_sub hl [1, 2, 3, 4, 5, 6, 7, 0] rfl)
  have J_81 : ∀ (mNef : Nat → Int64) (mSef : Nat → Int32) (mVaf : Nat → Int32) (mLaf : Nat → Int32) (v1 : Int32) (v3 : Int32) (v4 : Int32) (s0 : Int32) (H : Heap) (locs : List Loc) (ls : Array Slot), f_M_ask_81 N mdS mWhf mTrf mCof mWif mPcf mItf mNef mSef mVaf mLaf v1 v3 v4 s0 = some (o_mNef, o_mSef, o_mVaf, o_mLaf) → va_P D zz_cl [(md, .inr (6, [.int mdN, .int mdL, .ref mWh, .ref mTr, .ref mCo, .int mdS, .ref mWi, .ref mPc, .ref mIt, .int mdQ, .ref mRo, .ref mKn, .ref mNe, .ref mSe, .ref mVa, .ref mLa])), (mWh, .inl (cK 0, 400, .inl mWhf)), (mTr, .inl (cK 0, 400, .inl mTrf)), (mCo, .inl (cK 1, 400, .inl mCof)), (mWi, .inl (cK 0, 12, .inl mWif)), (mPc, .inl (cK 0, 12, .inl mPcf)), (mIt, .inl (cK 0, 108, .inl mItf)), (mNe, .inl (cK 2, 1024, .inr (.inl mNef))), (mSe, .inl (cK 1, 2048, .inl mSef)), (mVa, .inl (cK 0, 5, .inl mVaf)), (mLa, .inl (cK 0, 2048, .inl mLaf))] H → va_D A [(md, .inr (6, [.int mdN, .int mdL, .ref mWh, .ref mTr, .ref mCo, .int mdS, .ref mWi, .ref mPc, .ref mIt, .int mdQ, .ref mRo, .ref mKn, .ref mNe, .ref mSe, .ref mVa, .ref mLa])), (mWh, .inl (cK 0, 400, .inl mWhf)), (mTr, .inl (cK 0, 400, .inl mTrf)), (mCo, .inl (cK 1, 400, .inl mCof)), (mWi, .inl (cK 0, 12, .inl mWif)), (mPc, .inl (cK 0, 12, .inl mPcf)), (mIt, .inl (cK 0, 108, .inl mItf)), (mNe, .inl (cK 2, 1024, .inr (.inl mNef))), (mSe, .inl (cK 1, 2048, .inl mSef)), (mVa, .inl (cK 0, 5, .inl mVaf)), (mLa, .inl (cK 0, 2048, .inl mLaf))] → va_S A s.heap H locs → lv_has ls 10 [(0, .ref md), (1, .int v1), (3, .int v3), (4, .int v4)] → W p l e rm_M_ask s m args below meth c H locs 0 0 Q (F0 m 81 ls [.int s0]) := by
    intro mNef mSef mVaf mLaf v1 v3 v4 s0 H locs ls hf hP hD hS hl
    unfold f_M_ask_81 at hf
    refine lv_istore (lv' := [(5, .int s0), (0, .ref md), (1, .int v1), (3, .int v3), (4, .int v4)]) hx hb d_M_ask_81 hl (by decide) rfl (fun ls hl => ?_)
    refine lv_aload_n hx hb d_M_ask_83 rfl (lv_at hl 1 rfl) ?_
    refine lv_iload_n hx hb d_M_ask_84 rfl (lv_at hl 2 rfl) ?_
    refine lv_iconst (v := 4) hx hb d_M_ask_85 (by decide) ?_
    obtain ⟨r_86, hcl, hf⟩ := fn_e1 hf
    refine cv_RdI (rest := []) ⟨hx, hb, hml, hown, hts⟩ (c_M_stands l D cK md mWh mTr mCo mWi mPc mIt mRo mKn mNe mSe mVa mLa mdN mdL mdS mdQ mPcf mItf N v1 4 r_86 hcl) (cwV 2 hts (zz_V ml_M_103 im_M_stands se_M_stands in_M co_M_stands) rfl rfl rfl ⟨rfl, hd_M_stands⟩ ⟨Nat.le_of_ble_eq_true rfl, Nat.le_of_ble_eq_true rfl⟩) hK hP [0, 5, 6] rfl 0 rfl rfl rfl rfl hl.1 rfl (Nat.le_of_ble_eq_true rfl) d_M_ask_86 ⟨Nat.zero_le _, Nat.zero_le _⟩ ?_
    refine lv_if_eq (tgt := 97) hx hb d_M_ask_89 (by decide) (fun hc => ?_) (fun hc => ?_)
    · have hf := fn_t hc hf
      refine lv_iconst (v := 0) hx hb d_M_ask_97 (by decide) ?_
      refine lv_istore (lv' := [(6, .int 0), (5, .int s0), (0, .ref md), (1, .int v1), (3, .int v3), (4, .int v4)]) hx hb d_M_ask_98 hl (by decide) rfl (fun ls hl => ?_)
      refine lv_iconst (v := 0) hx hb d_M_ask_100 (by decide) ?_
      refine lv_istore (lv' := [(7, .int 0), (6, .int 0), (5, .int s0), (0, .ref md), (1, .int v1), (3, .int v3), (4, .int v4)]) hx hb d_M_ask_101 hl (by decide) rfl (fun ls hl => ?_)
      exact J_103 _ _ _ _ _ _ _ _ _ _ _ _ _ _ hf hP hD hS (lv_sub hl [3, 4, 5, 6, 2, 1, 0] rfl)
    · have hf := fn_f hc hf
      refine lv_bipush (v := 15) hx hb d_M_ask_92 (by decide) ?_
      refine lv_goto (tgt := 98) hx hb d_M_ask_94 (by decide) ?_
      refine lv_istore (lv' := [(6, .int 15), (5, .int s0), (0, .ref md), (1, .int v1), (3, .int v3), (4, .int v4)]) hx hb d_M_ask_98 hl (by decide) rfl (fun ls hl => ?_)
      refine lv_iconst (v := 0) hx hb d_M_ask_100 (by decide) ?_
      refine lv_istore (lv' := [(7, .int 0), (6, .int 15), (5, .int s0), (0, .ref md), (1, .int v1), (3, .int v3), (4, .int v4)]) hx hb d_M_ask_101 hl (by decide) rfl (fun ls hl => ?_)
      exact J_103 _ _ _ _ _ _ _ _ _ _ _ _ _ _ hf hP hD hS (lv_sub hl [3, 4, 5, 6, 2, 1, 0] rfl)
  have J_64 : ∀ (mNef : Nat → Int64) (mSef : Nat → Int32) (mVaf : Nat → Int32) (mLaf : Nat → Int32) (v1 : Int32) (v3 : Int32) (s0 : Int32) (H : Heap) (locs : List Loc) (ls : Array Slot), f_M_ask_64 N mdS mWhf mTrf mCof mWif mPcf mItf mNef mSef mVaf mLaf v1 v3 s0 = some (o_mNef, o_mSef, o_mVaf, o_mLaf) → va_P D zz_cl [(md, .inr (6, [.int mdN, .int mdL, .ref mWh, .ref mTr, .ref mCo, .int mdS, .ref mWi, .ref mPc, .ref mIt, .int mdQ, .ref mRo, .ref mKn, .ref mNe, .ref mSe, .ref mVa, .ref mLa])), (mWh, .inl (cK 0, 400, .inl mWhf)), (mTr, .inl (cK 0, 400, .inl mTrf)), (mCo, .inl (cK 1, 400, .inl mCof)), (mWi, .inl (cK 0, 12, .inl mWif)), (mPc, .inl (cK 0, 12, .inl mPcf)), (mIt, .inl (cK 0, 108, .inl mItf)), (mNe, .inl (cK 2, 1024, .inr (.inl mNef))), (mSe, .inl (cK 1, 2048, .inl mSef)), (mVa, .inl (cK 0, 5, .inl mVaf)), (mLa, .inl (cK 0, 2048, .inl mLaf))] H → va_D A [(md, .inr (6, [.int mdN, .int mdL, .ref mWh, .ref mTr, .ref mCo, .int mdS, .ref mWi, .ref mPc, .ref mIt, .int mdQ, .ref mRo, .ref mKn, .ref mNe, .ref mSe, .ref mVa, .ref mLa])), (mWh, .inl (cK 0, 400, .inl mWhf)), (mTr, .inl (cK 0, 400, .inl mTrf)), (mCo, .inl (cK 1, 400, .inl mCof)), (mWi, .inl (cK 0, 12, .inl mWif)), (mPc, .inl (cK 0, 12, .inl mPcf)), (mIt, .inl (cK 0, 108, .inl mItf)), (mNe, .inl (cK 2, 1024, .inr (.inl mNef))), (mSe, .inl (cK 1, 2048, .inl mSef)), (mVa, .inl (cK 0, 5, .inl mVaf)), (mLa, .inl (cK 0, 2048, .inl mLaf))] → va_S A s.heap H locs → lv_has ls 10 [(0, .ref md), (1, .int v1), (3, .int v3)] → W p l e rm_M_ask s m args below meth c H locs 0 0 Q (F0 m 64 ls [.int s0]) := by
    intro mNef mSef mVaf mLaf v1 v3 s0 H locs ls hf hP hD hS hl
    unfold f_M_ask_64 at hf
    refine lv_istore (lv' := [(4, .int s0), (0, .ref md), (1, .int v1), (3, .int v3)]) hx hb d_M_ask_64 hl (by decide) rfl (fun ls hl => ?_)
    refine lv_aload_n hx hb d_M_ask_66 rfl (lv_at hl 1 rfl) ?_
    refine lv_iload_n hx hb d_M_ask_67 rfl (lv_at hl 2 rfl) ?_
    refine lv_iconst (v := 3) hx hb d_M_ask_68 (by decide) ?_
    obtain ⟨r_69, hcl, hf⟩ := fn_e1 hf
    refine cv_RdI (rest := []) ⟨hx, hb, hml, hown, hts⟩ (c_M_stands l D cK md mWh mTr mCo mWi mPc mIt mRo mKn mNe mSe mVa mLa mdN mdL mdS mdQ mPcf mItf N v1 3 r_69 hcl) (cwV 2 hts (zz_V ml_M_103 im_M_stands se_M_stands in_M co_M_stands) rfl rfl rfl ⟨rfl, hd_M_stands⟩ ⟨Nat.le_of_ble_eq_true rfl, Nat.le_of_ble_eq_true rfl⟩) hK hP [0, 5, 6] rfl 0 rfl rfl rfl rfl hl.1 rfl (Nat.le_of_ble_eq_true rfl) d_M_ask_69 ⟨Nat.zero_le _, Nat.zero_le _⟩ ?_
    refine lv_if_eq (tgt := 80) hx hb d_M_ask_72 (by decide) (fun hc => ?_) (fun hc => ?_)
    · have hf := fn_t hc hf
      refine lv_iconst (v := 0) hx hb d_M_ask_80 (by decide) ?_
      exact J_81 _ _ _ _ _ _ _ _ _ _ _ hf hP hD hS (lv_sub hl [1, 2, 3, 0] rfl)
    · have hf := fn_f hc hf
      refine lv_bipush (v := 15) hx hb d_M_ask_75 (by decide) ?_
      refine lv_goto (tgt := 81) hx hb d_M_ask_77 (by decide) ?_
      exact J_81 _ _ _ _ _ _ _ _ _ _ _ hf hP hD hS (lv_sub hl [1, 2, 3, 0] rfl)
  have J_48 : ∀ (mNef : Nat → Int64) (mSef : Nat → Int32) (mVaf : Nat → Int32) (mLaf : Nat → Int32) (v1 : Int32) (s0 : Int32) (H : Heap) (locs : List Loc) (ls : Array Slot), f_M_ask_48 N mdS mWhf mTrf mCof mWif mPcf mItf mNef mSef mVaf mLaf v1 s0 = some (o_mNef, o_mSef, o_mVaf, o_mLaf) → va_P D zz_cl [(md, .inr (6, [.int mdN, .int mdL, .ref mWh, .ref mTr, .ref mCo, .int mdS, .ref mWi, .ref mPc, .ref mIt, .int mdQ, .ref mRo, .ref mKn, .ref mNe, .ref mSe, .ref mVa, .ref mLa])), (mWh, .inl (cK 0, 400, .inl mWhf)), (mTr, .inl (cK 0, 400, .inl mTrf)), (mCo, .inl (cK 1, 400, .inl mCof)), (mWi, .inl (cK 0, 12, .inl mWif)), (mPc, .inl (cK 0, 12, .inl mPcf)), (mIt, .inl (cK 0, 108, .inl mItf)), (mNe, .inl (cK 2, 1024, .inr (.inl mNef))), (mSe, .inl (cK 1, 2048, .inl mSef)), (mVa, .inl (cK 0, 5, .inl mVaf)), (mLa, .inl (cK 0, 2048, .inl mLaf))] H → va_D A [(md, .inr (6, [.int mdN, .int mdL, .ref mWh, .ref mTr, .ref mCo, .int mdS, .ref mWi, .ref mPc, .ref mIt, .int mdQ, .ref mRo, .ref mKn, .ref mNe, .ref mSe, .ref mVa, .ref mLa])), (mWh, .inl (cK 0, 400, .inl mWhf)), (mTr, .inl (cK 0, 400, .inl mTrf)), (mCo, .inl (cK 1, 400, .inl mCof)), (mWi, .inl (cK 0, 12, .inl mWif)), (mPc, .inl (cK 0, 12, .inl mPcf)), (mIt, .inl (cK 0, 108, .inl mItf)), (mNe, .inl (cK 2, 1024, .inr (.inl mNef))), (mSe, .inl (cK 1, 2048, .inl mSef)), (mVa, .inl (cK 0, 5, .inl mVaf)), (mLa, .inl (cK 0, 2048, .inl mLaf))] → va_S A s.heap H locs → lv_has ls 10 [(0, .ref md), (1, .int v1)] → W p l e rm_M_ask s m args below meth c H locs 0 0 Q (F0 m 48 ls [.int s0]) := by
    intro mNef mSef mVaf mLaf v1 s0 H locs ls hf hP hD hS hl
    unfold f_M_ask_48 at hf
    refine lv_istore_n (lv' := [(3, .int s0), (0, .ref md), (1, .int v1)]) hx hb d_M_ask_48 rfl hl (by decide) rfl (fun ls hl => ?_)
    refine lv_aload_n hx hb d_M_ask_49 rfl (lv_at hl 1 rfl) ?_
    refine lv_iload_n hx hb d_M_ask_50 rfl (lv_at hl 2 rfl) ?_
    refine lv_iconst (v := 2) hx hb d_M_ask_51 (by decide) ?_
    obtain ⟨r_52, hcl, hf⟩ := fn_e1 hf
    refine cv_RdI (rest := []) ⟨hx, hb, hml, hown, hts⟩ (c_M_stands l D cK md mWh mTr mCo mWi mPc mIt mRo mKn mNe mSe mVa mLa mdN mdL mdS mdQ mPcf mItf N v1 2 r_52 hcl) (cwV 2 hts (zz_V ml_M_103 im_M_stands se_M_stands in_M co_M_stands) rfl rfl rfl ⟨rfl, hd_M_stands⟩ ⟨Nat.le_of_ble_eq_true rfl, Nat.le_of_ble_eq_true rfl⟩) hK hP [0, 5, 6] rfl 0 rfl rfl rfl rfl hl.1 rfl (Nat.le_of_ble_eq_true rfl) d_M_ask_52 ⟨Nat.zero_le _, Nat.zero_le _⟩ ?_
    refine lv_if_eq (tgt := 63) hx hb d_M_ask_55 (by decide) (fun hc => ?_) (fun hc => ?_)
    · have hf := fn_t hc hf
      refine lv_iconst (v := 0) hx hb d_M_ask_63 (by decide) ?_
      exact J_64 _ _ _ _ _ _ _ _ _ _ hf hP hD hS (lv_sub hl [1, 2, 0] rfl)
    · have hf := fn_f hc hf
      refine lv_bipush (v := 15) hx hb d_M_ask_58 (by decide) ?_
      refine lv_goto (tgt := 64) hx hb d_M_ask_60 (by decide) ?_
      exact J_64 _ _ _ _ _ _ _ _ _ _ hf hP hD hS (lv_sub hl [1, 2, 0] rfl)
  have J_33 : ∀ (mNef : Nat → Int64) (mSef : Nat → Int32) (mVaf : Nat → Int32) (mLaf : Nat → Int32) (v1 : Int32) (H : Heap) (locs : List Loc) (ls : Array Slot), f_M_ask_33 N mdS mWhf mTrf mCof mWif mPcf mItf mNef mSef mVaf mLaf v1 = some (o_mNef, o_mSef, o_mVaf, o_mLaf) → va_P D zz_cl [(md, .inr (6, [.int mdN, .int mdL, .ref mWh, .ref mTr, .ref mCo, .int mdS, .ref mWi, .ref mPc, .ref mIt, .int mdQ, .ref mRo, .ref mKn, .ref mNe, .ref mSe, .ref mVa, .ref mLa])), (mWh, .inl (cK 0, 400, .inl mWhf)), (mTr, .inl (cK 0, 400, .inl mTrf)), (mCo, .inl (cK 1, 400, .inl mCof)), (mWi, .inl (cK 0, 12, .inl mWif)), (mPc, .inl (cK 0, 12, .inl mPcf)), (mIt, .inl (cK 0, 108, .inl mItf)), (mNe, .inl (cK 2, 1024, .inr (.inl mNef))), (mSe, .inl (cK 1, 2048, .inl mSef)), (mVa, .inl (cK 0, 5, .inl mVaf)), (mLa, .inl (cK 0, 2048, .inl mLaf))] H → va_D A [(md, .inr (6, [.int mdN, .int mdL, .ref mWh, .ref mTr, .ref mCo, .int mdS, .ref mWi, .ref mPc, .ref mIt, .int mdQ, .ref mRo, .ref mKn, .ref mNe, .ref mSe, .ref mVa, .ref mLa])), (mWh, .inl (cK 0, 400, .inl mWhf)), (mTr, .inl (cK 0, 400, .inl mTrf)), (mCo, .inl (cK 1, 400, .inl mCof)), (mWi, .inl (cK 0, 12, .inl mWif)), (mPc, .inl (cK 0, 12, .inl mPcf)), (mIt, .inl (cK 0, 108, .inl mItf)), (mNe, .inl (cK 2, 1024, .inr (.inl mNef))), (mSe, .inl (cK 1, 2048, .inl mSef)), (mVa, .inl (cK 0, 5, .inl mVaf)), (mLa, .inl (cK 0, 2048, .inl mLaf))] → va_S A s.heap H locs → lv_has ls 10 [(0, .ref md), (1, .int v1)] → W p l e rm_M_ask s m args below meth c H locs 0 0 Q (F0 m 33 ls []) := by
    intro mNef mSef mVaf mLaf v1 H locs ls hf hP hD hS hl
    unfold f_M_ask_33 at hf
    refine lv_aload_n hx hb d_M_ask_33 rfl (lv_at hl 0 rfl) ?_
    refine lv_iload_n hx hb d_M_ask_34 rfl (lv_at hl 1 rfl) ?_
    refine lv_iconst (v := 1) hx hb d_M_ask_35 (by decide) ?_
    obtain ⟨r_36, hcl, hf⟩ := fn_e1 hf
    refine cv_RdI (rest := []) ⟨hx, hb, hml, hown, hts⟩ (c_M_stands l D cK md mWh mTr mCo mWi mPc mIt mRo mKn mNe mSe mVa mLa mdN mdL mdS mdQ mPcf mItf N v1 1 r_36 hcl) (cwV 2 hts (zz_V ml_M_103 im_M_stands se_M_stands in_M co_M_stands) rfl rfl rfl ⟨rfl, hd_M_stands⟩ ⟨Nat.le_of_ble_eq_true rfl, Nat.le_of_ble_eq_true rfl⟩) hK hP [0, 5, 6] rfl 0 rfl rfl rfl rfl hl.1 rfl (Nat.le_of_ble_eq_true rfl) d_M_ask_36 ⟨Nat.zero_le _, Nat.zero_le _⟩ ?_
    refine lv_if_eq (tgt := 47) hx hb d_M_ask_39 (by decide) (fun hc => ?_) (fun hc => ?_)
    · have hf := fn_t hc hf
      refine lv_iconst (v := 0) hx hb d_M_ask_47 (by decide) ?_
      exact J_48 _ _ _ _ _ _ _ _ _ hf hP hD hS (lv_sub hl [0, 1] rfl)
    · have hf := fn_f hc hf
      refine lv_bipush (v := 15) hx hb d_M_ask_42 (by decide) ?_
      refine lv_goto (tgt := 48) hx hb d_M_ask_44 (by decide) ?_
      exact J_48 _ _ _ _ _ _ _ _ _ hf hP hD hS (lv_sub hl [0, 1] rfl)
  have J_13 : ∀ (v1 : Int32) (n_13 : Nat) (mNef : Nat → Int64) (mSef : Nat → Int32) (mVaf : Nat → Int32) (mLaf : Nat → Int32) (v3 : Int32) (H : Heap) (locs : List Loc) (ls : Array Slot), f_M_ask_13 N mdS mWhf mTrf mCof mWif mPcf mItf v1 n_13 mNef mSef mVaf mLaf v3 = some (o_mNef, o_mSef, o_mVaf, o_mLaf) → va_P D zz_cl [(md, .inr (6, [.int mdN, .int mdL, .ref mWh, .ref mTr, .ref mCo, .int mdS, .ref mWi, .ref mPc, .ref mIt, .int mdQ, .ref mRo, .ref mKn, .ref mNe, .ref mSe, .ref mVa, .ref mLa])), (mWh, .inl (cK 0, 400, .inl mWhf)), (mTr, .inl (cK 0, 400, .inl mTrf)), (mCo, .inl (cK 1, 400, .inl mCof)), (mWi, .inl (cK 0, 12, .inl mWif)), (mPc, .inl (cK 0, 12, .inl mPcf)), (mIt, .inl (cK 0, 108, .inl mItf)), (mNe, .inl (cK 2, 1024, .inr (.inl mNef))), (mSe, .inl (cK 1, 2048, .inl mSef)), (mVa, .inl (cK 0, 5, .inl mVaf)), (mLa, .inl (cK 0, 2048, .inl mLaf))] H → va_D A [(md, .inr (6, [.int mdN, .int mdL, .ref mWh, .ref mTr, .ref mCo, .int mdS, .ref mWi, .ref mPc, .ref mIt, .int mdQ, .ref mRo, .ref mKn, .ref mNe, .ref mSe, .ref mVa, .ref mLa])), (mWh, .inl (cK 0, 400, .inl mWhf)), (mTr, .inl (cK 0, 400, .inl mTrf)), (mCo, .inl (cK 1, 400, .inl mCof)), (mWi, .inl (cK 0, 12, .inl mWif)), (mPc, .inl (cK 0, 12, .inl mPcf)), (mIt, .inl (cK 0, 108, .inl mItf)), (mNe, .inl (cK 2, 1024, .inr (.inl mNef))), (mSe, .inl (cK 1, 2048, .inl mSef)), (mVa, .inl (cK 0, 5, .inl mVaf)), (mLa, .inl (cK 0, 2048, .inl mLaf))] → va_S A s.heap H locs → lv_has ls 10 [(0, .ref md), (1, .int v1), (3, .int v3)] → W p l e rm_M_ask s m args below meth c H locs 0 0 Q (F0 m 13 ls []) := by
    intro v1 n_13
    induction n_13 with
    | zero =>
      intro mNef mSef mVaf mLaf v3 H locs ls hf hP hD hS hl
      exact fn_0 hf
    | succ n_13 ih_13 =>
      intro mNef mSef mVaf mLaf v3 H locs ls hf hP hD hS hl
      rw [f_M_ask_13.eq_2] at hf
      refine lv_iload_n hx hb d_M_ask_13 rfl (lv_at hl 2 rfl) ?_
      refine lv_sipush (v := 1024) hx hb d_M_ask_14 (by decide) ?_
      refine lv_icmp_ge (tgt := 33) hx hb d_M_ask_17 (by decide) (fun hc => ?_) (fun hc => ?_)
      · have hf := fn_t hc hf
        exact J_33 _ _ _ _ _ _ _ _ hf hP hD hS (lv_sub hl [0, 1] rfl)
      · have hf := fn_f hc hf
        refine lv_aload_n hx hb d_M_ask_20 rfl (lv_at hl 0 rfl) ?_
        refine va_get (D := D) (ci := 6) (v := .ref mNe) (C := RK6) (T := TK6) (N := 16) hx hb hts iwK6 hown hK hP 0 rfl rfl 12 (by decide) (hts _ fl_M_37) (fun _ h9 => h9) rfl d_M_ask_21 ?_
        refine lv_iload_n hx hb d_M_ask_24 rfl (lv_at hl 2 rfl) ?_
        refine lv_lconst (v := 0) hx hb d_M_ask_25 (by decide) ?_
        have hg := fn_g hf
        have hf := fn_t hg hf
        refine va_last hx hb hK hP hD hS 7 2 rfl rfl (fn_v hg) d_M_ask_26 (fun H locs hP hD hS => ?_)
        have hP : va_P D zz_cl [(md, .inr (6, [.int mdN, .int mdL, .ref mWh, .ref mTr, .ref mCo, .int mdS, .ref mWi, .ref mPc, .ref mIt, .int mdQ, .ref mRo, .ref mKn, .ref mNe, .ref mSe, .ref mVa, .ref mLa])), (mWh, .inl (cK 0, 400, .inl mWhf)), (mTr, .inl (cK 0, 400, .inl mTrf)), (mCo, .inl (cK 1, 400, .inl mCof)), (mWi, .inl (cK 0, 12, .inl mWif)), (mPc, .inl (cK 0, 12, .inl mPcf)), (mIt, .inl (cK 0, 108, .inl mItf)), (mNe, .inl (cK 2, 1024, .inr (.inl (vp_updL mNef (Int32.toNatClampNeg v3) 0)))), (mSe, .inl (cK 1, 2048, .inl mSef)), (mVa, .inl (cK 0, 5, .inl mVaf)), (mLa, .inl (cK 0, 2048, .inl mLaf))] H := hP
        have hD : va_D A [(md, .inr (6, [.int mdN, .int mdL, .ref mWh, .ref mTr, .ref mCo, .int mdS, .ref mWi, .ref mPc, .ref mIt, .int mdQ, .ref mRo, .ref mKn, .ref mNe, .ref mSe, .ref mVa, .ref mLa])), (mWh, .inl (cK 0, 400, .inl mWhf)), (mTr, .inl (cK 0, 400, .inl mTrf)), (mCo, .inl (cK 1, 400, .inl mCof)), (mWi, .inl (cK 0, 12, .inl mWif)), (mPc, .inl (cK 0, 12, .inl mPcf)), (mIt, .inl (cK 0, 108, .inl mItf)), (mNe, .inl (cK 2, 1024, .inr (.inl (vp_updL mNef (Int32.toNatClampNeg v3) 0)))), (mSe, .inl (cK 1, 2048, .inl mSef)), (mVa, .inl (cK 0, 5, .inl mVaf)), (mLa, .inl (cK 0, 2048, .inl mLaf))] := hD
        refine lv_iinc (v := (v3 + 1)) (lv' := [(3, .int (v3 + 1)), (0, .ref md), (1, .int v1)]) hx hb d_M_ask_27 hl (k := 2) rfl rfl (by decide) rfl (fun ls hl => ?_)
        refine lv_goto (tgt := 13) hx hb d_M_ask_30 (by decide) ?_
        exact ih_13 _ _ _ _ _ _ _ _ hf hP hD hS (lv_sub hl [1, 2, 0] rfl)
  unfold f_M_ask at hf
  refine lv_aload_n hx hb d_M_ask_0 rfl (lv_at hl 0 rfl) ?_
  refine lv_iload_n hx hb d_M_ask_1 rfl (lv_at hl 2 rfl) ?_
  refine lv_aload_n hx hb d_M_ask_2 rfl (lv_at hl 0 rfl) ?_
  refine va_get (D := D) (ci := 6) (v := .ref mWi) (C := RK6) (T := TK6) (N := 16) hx hb hts iwK6 hown hK hP 0 rfl rfl 6 (by decide) (hts _ fl_M_20) (fun _ h9 => h9) rfl d_M_ask_3 ?_
  refine lv_iload_n hx hb d_M_ask_6 rfl (lv_at hl 1 rfl) ?_
  have hg := fn_g hf
  have hf := fn_t hg hf
  refine va_iald hx hb hK hP 4 0 rfl rfl (fn_v hg) d_M_ask_7 ?_
  obtain ⟨mSef_8, mLaf_8, hcl, hf⟩ := fn_e2 hf
  refine cv_WrV (rest := []) (wr := [(mWi, .inl (cK 0, 12, .inl mWif)), (mPc, .inl (cK 0, 12, .inl mPcf)), (mIt, .inl (cK 0, 108, .inl mItf)), (mNe, .inl (cK 2, 1024, .inr (.inl mNef))), (mVa, .inl (cK 0, 5, .inl mVaf))]) (w' := [(md, .inr (6, [.int mdN, .int mdL, .ref mWh, .ref mTr, .ref mCo, .int mdS, .ref mWi, .ref mPc, .ref mIt, .int mdQ, .ref mRo, .ref mKn, .ref mNe, .ref mSe, .ref mVa, .ref mLa])), (mWh, .inl (cK 0, 400, .inl mWhf)), (mTr, .inl (cK 0, 400, .inl mTrf)), (mCo, .inl (cK 1, 400, .inl mCof)), (mWi, .inl (cK 0, 12, .inl mWif)), (mPc, .inl (cK 0, 12, .inl mPcf)), (mIt, .inl (cK 0, 108, .inl mItf)), (mNe, .inl (cK 2, 1024, .inr (.inl mNef))), (mSe, .inl (cK 1, 2048, .inl mSef_8)), (mVa, .inl (cK 0, 5, .inl mVaf)), (mLa, .inl (cK 0, 2048, .inl mLaf_8))]) ⟨hx, hb, hml, hown, hts⟩ (c_M_see l D cK md mWh mTr mCo mWi mPc mIt mRo mKn mNe mSe mVa mLa mdN mdL mdS mdQ mWhf mTrf mCof mSef mLaf N v2 (mWif (Int32.toNatClampNeg v1)) mSef_8 mLaf_8 hcl) (cwV 2 hts (zz_V ml_M_100 im_M_see se_M_see in_M co_M_see) rfl rfl rfl ⟨rfl, hd_M_see⟩ ⟨Nat.le_of_ble_eq_true rfl, Nat.le_of_ble_eq_true rfl⟩) hK hP hD hS hA [0, 1, 2, 3, 8, 10] [4, 5, 6, 7, 9] [5, 6, 7, 8, 0, 1, 2, 3, 9, 4, 10] rfl (by decide) rfl (by decide) (by decide) rfl (by decide) 0 rfl rfl rfl rfl hl.1 rfl (Nat.le_of_ble_eq_true rfl) d_M_ask_8 ⟨Nat.zero_le _, Nat.zero_le _⟩ (fun H locs hP hD hS => ?_)
  refine lv_iconst (v := 0) hx hb d_M_ask_11 (by decide) ?_
  refine lv_istore_n (lv' := [(3, .int 0), (0, .ref md), (1, .int v1), (2, .int v2)]) hx hb d_M_ask_12 rfl hl (by decide) rfl (fun ls hl => ?_)
  exact J_13 _ _ _ _ _ _ _ _ _ _ hf hP hD hS (lv_sub hl [1, 2, 0] rfl)
abbrev rm_M_rowsOf : Room := { frames := 4, cells := 0, slots := 0, locals := 102 }
set_option maxHeartbeats 4000000 in
set_option maxRecDepth 100000 in
theorem c_M_rowsOf (l : Launch) (D : va_G) (cK : Nat → ClassId) (md mWh mTr mCo mWi mPc mIt mRo mKn mNe mSe mVa mLa : Nat) (mdN : Int32) (mdL : Int32) (mdS : Int32) (mdQ : Int32) (mWhf : Nat → Int32) (mTrf : Nat → Int32) (mCof : Nat → Int32) (mWif : Nat → Int32) (mPcf : Nat → Int32) (mItf : Nat → Int32) (mRof : Nat → Int64) (mKnf : Nat → Int32) (mNef : Nat → Int64) (mSef : Nat → Int32) (mVaf : Nat → Int32) (mLaf : Nat → Int32) (N : Nat) (v1 : Int32) (v2 : Int32) (r : Int32) (o_mRof : Nat → Int64) (o_mKnf : Nat → Int32) (o_mNef : Nat → Int64) (o_mSef : Nat → Int32) (o_mVaf : Nat → Int32) (o_mLaf : Nat → Int32) (hf : f_M_rowsOf N mdS mWhf mTrf mCof mWif mPcf mItf mRof mKnf mNef mSef mVaf mLaf v1 v2 = some (r, o_mRof, o_mKnf, o_mNef, o_mSef, o_mVaf, o_mLaf)) : WrI l y_M_rowsOf w_M_rowsOf rm_M_rowsOf D zz_cl (mt_ty cK RK2) [.ref md, .int v1, .int v2] [(md, .inr (6, [.int mdN, .int mdL, .ref mWh, .ref mTr, .ref mCo, .int mdS, .ref mWi, .ref mPc, .ref mIt, .int mdQ, .ref mRo, .ref mKn, .ref mNe, .ref mSe, .ref mVa, .ref mLa])), (mWh, .inl (cK 0, 400, .inl mWhf)), (mTr, .inl (cK 0, 400, .inl mTrf)), (mCo, .inl (cK 1, 400, .inl mCof)), (mWi, .inl (cK 0, 12, .inl mWif)), (mPc, .inl (cK 0, 12, .inl mPcf)), (mIt, .inl (cK 0, 108, .inl mItf)), (mRo, .inl (cK 2, 761856, .inr (.inl mRof))), (mKn, .inl (cK 1, 744, .inl mKnf)), (mNe, .inl (cK 2, 1024, .inr (.inl mNef))), (mSe, .inl (cK 1, 2048, .inl mSef)), (mVa, .inl (cK 0, 5, .inl mVaf)), (mLa, .inl (cK 0, 2048, .inl mLaf))] [(md, .inr (6, [.int mdN, .int mdL, .ref mWh, .ref mTr, .ref mCo, .int mdS, .ref mWi, .ref mPc, .ref mIt, .int mdQ, .ref mRo, .ref mKn, .ref mNe, .ref mSe, .ref mVa, .ref mLa])), (mWh, .inl (cK 0, 400, .inl mWhf)), (mTr, .inl (cK 0, 400, .inl mTrf)), (mCo, .inl (cK 1, 400, .inl mCof)), (mWi, .inl (cK 0, 12, .inl mWif)), (mPc, .inl (cK 0, 12, .inl mPcf)), (mIt, .inl (cK 0, 108, .inl mItf)), (mRo, .inl (cK 2, 761856, .inr (.inl o_mRof))), (mKn, .inl (cK 1, 744, .inl o_mKnf)), (mNe, .inl (cK 2, 1024, .inr (.inl o_mNef))), (mSe, .inl (cK 1, 2048, .inl o_mSef)), (mVa, .inl (cK 0, 5, .inl o_mVaf)), (mLa, .inl (cK 0, 2048, .inl o_mLaf))] r := by
  refine mk_WrI (cc := b_M_rowsOf) (maxL := 5) (ty := .int) (by decide +kernel) rfl (Nat.le_of_ble_eq_true rfl) ?_
  intro p e s m below meth c args Q A ls hx hb hml hown hts hA hK hP hD hret hl
  have hS : va_S A s.heap s.heap [] := va_S.rf
  have hl : lv_has ls 5 [(0, .ref md), (1, .int v1), (2, .int v2)] := hl
  have J_25 : ∀ (v3 : Int32) (n_25 : Nat) (mRof : Nat → Int64) (mKnf : Nat → Int32) (mNef : Nat → Int64) (mSef : Nat → Int32) (mVaf : Nat → Int32) (mLaf : Nat → Int32) (v4 : Int32) (H : Heap) (locs : List Loc) (ls : Array Slot), f_M_rowsOf_25 N mdS mWhf mTrf mCof mWif mPcf mItf v3 n_25 mRof mKnf mNef mSef mVaf mLaf v4 = some (r, o_mRof, o_mKnf, o_mNef, o_mSef, o_mVaf, o_mLaf) → va_P D zz_cl [(md, .inr (6, [.int mdN, .int mdL, .ref mWh, .ref mTr, .ref mCo, .int mdS, .ref mWi, .ref mPc, .ref mIt, .int mdQ, .ref mRo, .ref mKn, .ref mNe, .ref mSe, .ref mVa, .ref mLa])), (mWh, .inl (cK 0, 400, .inl mWhf)), (mTr, .inl (cK 0, 400, .inl mTrf)), (mCo, .inl (cK 1, 400, .inl mCof)), (mWi, .inl (cK 0, 12, .inl mWif)), (mPc, .inl (cK 0, 12, .inl mPcf)), (mIt, .inl (cK 0, 108, .inl mItf)), (mRo, .inl (cK 2, 761856, .inr (.inl mRof))), (mKn, .inl (cK 1, 744, .inl mKnf)), (mNe, .inl (cK 2, 1024, .inr (.inl mNef))), (mSe, .inl (cK 1, 2048, .inl mSef)), (mVa, .inl (cK 0, 5, .inl mVaf)), (mLa, .inl (cK 0, 2048, .inl mLaf))] H → va_D A [(md, .inr (6, [.int mdN, .int mdL, .ref mWh, .ref mTr, .ref mCo, .int mdS, .ref mWi, .ref mPc, .ref mIt, .int mdQ, .ref mRo, .ref mKn, .ref mNe, .ref mSe, .ref mVa, .ref mLa])), (mWh, .inl (cK 0, 400, .inl mWhf)), (mTr, .inl (cK 0, 400, .inl mTrf)), (mCo, .inl (cK 1, 400, .inl mCof)), (mWi, .inl (cK 0, 12, .inl mWif)), (mPc, .inl (cK 0, 12, .inl mPcf)), (mIt, .inl (cK 0, 108, .inl mItf)), (mRo, .inl (cK 2, 761856, .inr (.inl mRof))), (mKn, .inl (cK 1, 744, .inl mKnf)), (mNe, .inl (cK 2, 1024, .inr (.inl mNef))), (mSe, .inl (cK 1, 2048, .inl mSef)), (mVa, .inl (cK 0, 5, .inl mVaf)), (mLa, .inl (cK 0, 2048, .inl mLaf))] → va_S A s.heap H locs → lv_has ls 5 [(0, .ref md), (3, .int v3), (4, .int v4)] → W p l e rm_M_rowsOf s m args below meth c H locs 0 0 Q (F0 m 25 ls []) := by
    intro v3 n_25
    induction n_25 with
    | zero =>
      intro mRof mKnf mNef mSef mVaf mLaf v4 H locs ls hf hP hD hS hl
      exact fn_0 hf
    | succ n_25 ih_25 =>
      intro mRof mKnf mNef mSef mVaf mLaf v4 H locs ls hf hP hD hS hl
      rw [f_M_rowsOf_25.eq_2] at hf
      refine lv_iload hx hb d_M_rowsOf_25 (lv_at hl 2 rfl) ?_
      refine lv_sipush (v := 1024) hx hb d_M_rowsOf_27 (by decide) ?_
      refine lv_icmp_ge (tgt := 59) hx hb d_M_rowsOf_30 (by decide) (fun hc => ?_) (fun hc => ?_)
      · have hf := fn_t hc hf
        refine lv_aload_n hx hb d_M_rowsOf_59 rfl (lv_at hl 0 rfl) ?_
        refine va_get (D := D) (ci := 6) (v := .ref mKn) (C := RK6) (T := TK6) (N := 16) hx hb hts iwK6 hown hK hP 0 rfl rfl 11 (by decide) (hts _ fl_M_34) (fun _ h9 => h9) rfl d_M_rowsOf_60 ?_
        refine lv_iload_n hx hb d_M_rowsOf_63 rfl (lv_at hl 1 rfl) ?_
        refine lv_iconst (v := 1) hx hb d_M_rowsOf_64 (by decide) ?_
        have hg := fn_g hf
        have hf := fn_t hg hf
        refine va_zast hx hb hK hP hD hS 8 1 rfl rfl (fn_v hg) d_M_rowsOf_65 (fun H locs hP hD hS => ?_)
        have hP : va_P D zz_cl [(md, .inr (6, [.int mdN, .int mdL, .ref mWh, .ref mTr, .ref mCo, .int mdS, .ref mWi, .ref mPc, .ref mIt, .int mdQ, .ref mRo, .ref mKn, .ref mNe, .ref mSe, .ref mVa, .ref mLa])), (mWh, .inl (cK 0, 400, .inl mWhf)), (mTr, .inl (cK 0, 400, .inl mTrf)), (mCo, .inl (cK 1, 400, .inl mCof)), (mWi, .inl (cK 0, 12, .inl mWif)), (mPc, .inl (cK 0, 12, .inl mPcf)), (mIt, .inl (cK 0, 108, .inl mItf)), (mRo, .inl (cK 2, 761856, .inr (.inl mRof))), (mKn, .inl (cK 1, 744, .inl (upd mKnf (Int32.toNatClampNeg v3) (vp_nar .boolean 1)))), (mNe, .inl (cK 2, 1024, .inr (.inl mNef))), (mSe, .inl (cK 1, 2048, .inl mSef)), (mVa, .inl (cK 0, 5, .inl mVaf)), (mLa, .inl (cK 0, 2048, .inl mLaf))] H := hP
        have hD : va_D A [(md, .inr (6, [.int mdN, .int mdL, .ref mWh, .ref mTr, .ref mCo, .int mdS, .ref mWi, .ref mPc, .ref mIt, .int mdQ, .ref mRo, .ref mKn, .ref mNe, .ref mSe, .ref mVa, .ref mLa])), (mWh, .inl (cK 0, 400, .inl mWhf)), (mTr, .inl (cK 0, 400, .inl mTrf)), (mCo, .inl (cK 1, 400, .inl mCof)), (mWi, .inl (cK 0, 12, .inl mWif)), (mPc, .inl (cK 0, 12, .inl mPcf)), (mIt, .inl (cK 0, 108, .inl mItf)), (mRo, .inl (cK 2, 761856, .inr (.inl mRof))), (mKn, .inl (cK 1, 744, .inl (upd mKnf (Int32.toNatClampNeg v3) (vp_nar .boolean 1)))), (mNe, .inl (cK 2, 1024, .inr (.inl mNef))), (mSe, .inl (cK 1, 2048, .inl mSef)), (mVa, .inl (cK 0, 5, .inl mVaf)), (mLa, .inl (cK 0, 2048, .inl mLaf))] := hD
        refine lv_sipush (v := 1024) hx hb d_M_rowsOf_66 (by decide) ?_
        refine lv_iload_n hx hb d_M_rowsOf_69 rfl (lv_at hl 1 rfl) ?_
        refine lv_imul hx hb d_M_rowsOf_70 ?_
        cases hf
        exact hret _ _ 71 _ hP hD hS rfl d_M_rowsOf_71
      · have hf := fn_f hc hf
        refine lv_aload_n hx hb d_M_rowsOf_33 rfl (lv_at hl 0 rfl) ?_
        refine va_get (D := D) (ci := 6) (v := .ref mRo) (C := RK6) (T := TK6) (N := 16) hx hb hts iwK6 hown hK hP 0 rfl rfl 10 (by decide) (hts _ fl_M_30) (fun _ h9 => h9) rfl d_M_rowsOf_34 ?_
        refine lv_sipush (v := 1024) hx hb d_M_rowsOf_37 (by decide) ?_
        refine lv_iload_n hx hb d_M_rowsOf_40 rfl (lv_at hl 1 rfl) ?_
        refine lv_imul hx hb d_M_rowsOf_41 ?_
        refine lv_iload hx hb d_M_rowsOf_42 (lv_at hl 2 rfl) ?_
        refine lv_iadd hx hb d_M_rowsOf_44 ?_
        refine lv_aload_n hx hb d_M_rowsOf_45 rfl (lv_at hl 0 rfl) ?_
        refine va_get (D := D) (ci := 6) (v := .ref mNe) (C := RK6) (T := TK6) (N := 16) hx hb hts iwK6 hown hK hP 0 rfl rfl 12 (by decide) (hts _ fl_M_37) (fun _ h9 => h9) rfl d_M_rowsOf_46 ?_
        refine lv_iload hx hb d_M_rowsOf_49 (lv_at hl 2 rfl) ?_
        have hg := fn_g hf
        have hf := fn_t hg hf
        refine va_lald hx hb hK hP 9 2 rfl rfl (fn_v hg) d_M_rowsOf_51 ?_
        have hg := fn_g hf
        have hf := fn_t hg hf
        refine va_last hx hb hK hP hD hS 7 2 rfl rfl (fn_v hg) d_M_rowsOf_52 (fun H locs hP hD hS => ?_)
        have hP : va_P D zz_cl [(md, .inr (6, [.int mdN, .int mdL, .ref mWh, .ref mTr, .ref mCo, .int mdS, .ref mWi, .ref mPc, .ref mIt, .int mdQ, .ref mRo, .ref mKn, .ref mNe, .ref mSe, .ref mVa, .ref mLa])), (mWh, .inl (cK 0, 400, .inl mWhf)), (mTr, .inl (cK 0, 400, .inl mTrf)), (mCo, .inl (cK 1, 400, .inl mCof)), (mWi, .inl (cK 0, 12, .inl mWif)), (mPc, .inl (cK 0, 12, .inl mPcf)), (mIt, .inl (cK 0, 108, .inl mItf)), (mRo, .inl (cK 2, 761856, .inr (.inl (vp_updL mRof (Int32.toNatClampNeg ((1024 * v3) + v4)) (mNef (Int32.toNatClampNeg v4)))))), (mKn, .inl (cK 1, 744, .inl mKnf)), (mNe, .inl (cK 2, 1024, .inr (.inl mNef))), (mSe, .inl (cK 1, 2048, .inl mSef)), (mVa, .inl (cK 0, 5, .inl mVaf)), (mLa, .inl (cK 0, 2048, .inl mLaf))] H := hP
        have hD : va_D A [(md, .inr (6, [.int mdN, .int mdL, .ref mWh, .ref mTr, .ref mCo, .int mdS, .ref mWi, .ref mPc, .ref mIt, .int mdQ, .ref mRo, .ref mKn, .ref mNe, .ref mSe, .ref mVa, .ref mLa])), (mWh, .inl (cK 0, 400, .inl mWhf)), (mTr, .inl (cK 0, 400, .inl mTrf)), (mCo, .inl (cK 1, 400, .inl mCof)), (mWi, .inl (cK 0, 12, .inl mWif)), (mPc, .inl (cK 0, 12, .inl mPcf)), (mIt, .inl (cK 0, 108, .inl mItf)), (mRo, .inl (cK 2, 761856, .inr (.inl (vp_updL mRof (Int32.toNatClampNeg ((1024 * v3) + v4)) (mNef (Int32.toNatClampNeg v4)))))), (mKn, .inl (cK 1, 744, .inl mKnf)), (mNe, .inl (cK 2, 1024, .inr (.inl mNef))), (mSe, .inl (cK 1, 2048, .inl mSef)), (mVa, .inl (cK 0, 5, .inl mVaf)), (mLa, .inl (cK 0, 2048, .inl mLaf))] := hD
        refine lv_iinc (v := (v4 + 1)) (lv' := [(4, .int (v4 + 1)), (0, .ref md), (3, .int v3)]) hx hb d_M_rowsOf_53 hl (k := 2) rfl rfl (by decide) rfl (fun ls hl => ?_)
        refine lv_goto (tgt := 25) hx hb d_M_rowsOf_56 (by decide) ?_
        exact ih_25 _ _ _ _ _ _ _ _ _ _ hf hP hD hS (lv_sub hl [1, 2, 0] rfl)
  unfold f_M_rowsOf at hf
  refine lv_aload_n hx hb d_M_rowsOf_0 rfl (lv_at hl 0 rfl) ?_
  refine lv_iload_n hx hb d_M_rowsOf_1 rfl (lv_at hl 1 rfl) ?_
  refine lv_iload_n hx hb d_M_rowsOf_2 rfl (lv_at hl 2 rfl) ?_
  obtain ⟨r_3, hcl, hf⟩ := fn_e1 hf
  refine cv_RdI (rest := []) ⟨hx, hb, hml, hown, hts⟩ (c_M_at l D cK md v1 v2 r_3 hcl) (cwV 2 hts (zz_V ml_M_113 im_M_at se_M_at in_M co_M_at) rfl rfl rfl ⟨rfl, hd_M_at⟩ ⟨Nat.le_of_ble_eq_true rfl, Nat.le_of_ble_eq_true rfl⟩) hK hP [] rfl 0 rfl rfl rfl rfl hl.1 rfl (Nat.le_of_ble_eq_true rfl) d_M_rowsOf_3 ⟨Nat.zero_le _, Nat.zero_le _⟩ ?_
  refine lv_istore_n (lv' := [(3, .int r_3), (0, .ref md), (1, .int v1), (2, .int v2)]) hx hb d_M_rowsOf_6 rfl hl (by decide) rfl (fun ls hl => ?_)
  refine lv_aload_n hx hb d_M_rowsOf_7 rfl (lv_at hl 1 rfl) ?_
  refine va_get (D := D) (ci := 6) (v := .ref mKn) (C := RK6) (T := TK6) (N := 16) hx hb hts iwK6 hown hK hP 0 rfl rfl 11 (by decide) (hts _ fl_M_34) (fun _ h9 => h9) rfl d_M_rowsOf_8 ?_
  refine lv_iload_n hx hb d_M_rowsOf_11 rfl (lv_at hl 0 rfl) ?_
  have hg := fn_g hf
  have hf := fn_t hg hf
  refine va_zald hx hb hK hP 8 1 rfl rfl (fn_v hg) d_M_rowsOf_12 ?_
  refine lv_if_ne (tgt := 66) hx hb d_M_rowsOf_13 (by decide) (fun hc => ?_) (fun hc => ?_)
  · have hf := fn_f hc hf
    refine lv_sipush (v := 1024) hx hb d_M_rowsOf_66 (by decide) ?_
    refine lv_iload_n hx hb d_M_rowsOf_69 rfl (lv_at hl 0 rfl) ?_
    refine lv_imul hx hb d_M_rowsOf_70 ?_
    cases hf
    exact hret _ _ 71 _ hP hD hS rfl d_M_rowsOf_71
  · have hf := fn_t hc hf
    refine lv_aload_n hx hb d_M_rowsOf_16 rfl (lv_at hl 1 rfl) ?_
    refine lv_iload_n hx hb d_M_rowsOf_17 rfl (lv_at hl 2 rfl) ?_
    refine lv_iload_n hx hb d_M_rowsOf_18 rfl (lv_at hl 3 rfl) ?_
    obtain ⟨mNef_19, mSef_19, mVaf_19, mLaf_19, hcl, hf⟩ := fn_e4 hf
    refine cv_WrV (rest := []) (wr := [(mRo, .inl (cK 2, 761856, .inr (.inl mRof))), (mKn, .inl (cK 1, 744, .inl mKnf))]) (w' := [(md, .inr (6, [.int mdN, .int mdL, .ref mWh, .ref mTr, .ref mCo, .int mdS, .ref mWi, .ref mPc, .ref mIt, .int mdQ, .ref mRo, .ref mKn, .ref mNe, .ref mSe, .ref mVa, .ref mLa])), (mWh, .inl (cK 0, 400, .inl mWhf)), (mTr, .inl (cK 0, 400, .inl mTrf)), (mCo, .inl (cK 1, 400, .inl mCof)), (mWi, .inl (cK 0, 12, .inl mWif)), (mPc, .inl (cK 0, 12, .inl mPcf)), (mIt, .inl (cK 0, 108, .inl mItf)), (mRo, .inl (cK 2, 761856, .inr (.inl mRof))), (mKn, .inl (cK 1, 744, .inl mKnf)), (mNe, .inl (cK 2, 1024, .inr (.inl mNef_19))), (mSe, .inl (cK 1, 2048, .inl mSef_19)), (mVa, .inl (cK 0, 5, .inl mVaf_19)), (mLa, .inl (cK 0, 2048, .inl mLaf_19))]) ⟨hx, hb, hml, hown, hts⟩ (c_M_ask l D cK md mWh mTr mCo mWi mPc mIt mRo mKn mNe mSe mVa mLa mdN mdL mdS mdQ mWhf mTrf mCof mWif mPcf mItf mNef mSef mVaf mLaf N v1 v2 mNef_19 mSef_19 mVaf_19 mLaf_19 hcl) (cwV 2 hts (zz_V ml_M_116 im_M_ask se_M_ask in_M co_M_ask) rfl rfl rfl ⟨rfl, hd_M_ask⟩ ⟨Nat.le_of_ble_eq_true rfl, Nat.le_of_ble_eq_true rfl⟩) hK hP hD hS hA [0, 1, 2, 3, 4, 5, 6, 9, 10, 11, 12] [7, 8] [2, 3, 4, 5, 6, 7, 8, 0, 1, 9, 10, 11, 12] rfl (by decide) rfl (by decide) (by decide) rfl (by decide) 0 rfl rfl rfl rfl hl.1 rfl (Nat.le_of_ble_eq_true rfl) d_M_rowsOf_19 ⟨Nat.zero_le _, Nat.zero_le _⟩ (fun H locs hP hD hS => ?_)
    refine lv_iconst (v := 0) hx hb d_M_rowsOf_22 (by decide) ?_
    refine lv_istore (lv' := [(4, .int 0), (3, .int r_3), (0, .ref md), (1, .int v1), (2, .int v2)]) hx hb d_M_rowsOf_23 hl (by decide) rfl (fun ls hl => ?_)
    exact J_25 _ _ _ _ _ _ _ _ _ _ _ _ hf hP hD hS (lv_sub hl [2, 1, 0] rfl)
abbrev rm_M_bits : Room := { frames := 5, cells := 0, slots := 0, locals := 126 }
set_option maxHeartbeats 4000000 in
set_option maxRecDepth 100000 in
theorem c_M_bits (l : Launch) (D : va_G) (cK : Nat → ClassId) (md mWh mTr mCo mWi mPc mIt mRo mKn mNe mSe mVa mLa : Nat) (mdN : Int32) (mdL : Int32) (mdS : Int32) (mdQ : Int32) (mWhf : Nat → Int32) (mTrf : Nat → Int32) (mCof : Nat → Int32) (mWif : Nat → Int32) (mPcf : Nat → Int32) (mItf : Nat → Int32) (mRof : Nat → Int64) (mKnf : Nat → Int32) (mNef : Nat → Int64) (mSef : Nat → Int32) (mVaf : Nat → Int32) (mLaf : Nat → Int32) (N : Nat) (v1 : Int32) (v2 : Int32) (v3 : Int32) (v4 : Int32) (r : Int64) (o_mRof : Nat → Int64) (o_mKnf : Nat → Int32) (o_mNef : Nat → Int64) (o_mSef : Nat → Int32) (o_mVaf : Nat → Int32) (o_mLaf : Nat → Int32) (hf : f_M_bits N mdS mWhf mTrf mCof mWif mPcf mItf mRof mKnf mNef mSef mVaf mLaf v1 v2 v3 v4 = some (r, o_mRof, o_mKnf, o_mNef, o_mSef, o_mVaf, o_mLaf)) : WrL l y_M_bits w_M_bits rm_M_bits D zz_cl (mt_ty cK RK2) [.ref md, .int v1, .int v2, .int v3, .int v4] [(md, .inr (6, [.int mdN, .int mdL, .ref mWh, .ref mTr, .ref mCo, .int mdS, .ref mWi, .ref mPc, .ref mIt, .int mdQ, .ref mRo, .ref mKn, .ref mNe, .ref mSe, .ref mVa, .ref mLa])), (mWh, .inl (cK 0, 400, .inl mWhf)), (mTr, .inl (cK 0, 400, .inl mTrf)), (mCo, .inl (cK 1, 400, .inl mCof)), (mWi, .inl (cK 0, 12, .inl mWif)), (mPc, .inl (cK 0, 12, .inl mPcf)), (mIt, .inl (cK 0, 108, .inl mItf)), (mRo, .inl (cK 2, 761856, .inr (.inl mRof))), (mKn, .inl (cK 1, 744, .inl mKnf)), (mNe, .inl (cK 2, 1024, .inr (.inl mNef))), (mSe, .inl (cK 1, 2048, .inl mSef)), (mVa, .inl (cK 0, 5, .inl mVaf)), (mLa, .inl (cK 0, 2048, .inl mLaf))] [(md, .inr (6, [.int mdN, .int mdL, .ref mWh, .ref mTr, .ref mCo, .int mdS, .ref mWi, .ref mPc, .ref mIt, .int mdQ, .ref mRo, .ref mKn, .ref mNe, .ref mSe, .ref mVa, .ref mLa])), (mWh, .inl (cK 0, 400, .inl mWhf)), (mTr, .inl (cK 0, 400, .inl mTrf)), (mCo, .inl (cK 1, 400, .inl mCof)), (mWi, .inl (cK 0, 12, .inl mWif)), (mPc, .inl (cK 0, 12, .inl mPcf)), (mIt, .inl (cK 0, 108, .inl mItf)), (mRo, .inl (cK 2, 761856, .inr (.inl o_mRof))), (mKn, .inl (cK 1, 744, .inl o_mKnf)), (mNe, .inl (cK 2, 1024, .inr (.inl o_mNef))), (mSe, .inl (cK 1, 2048, .inl o_mSef)), (mVa, .inl (cK 0, 5, .inl o_mVaf)), (mLa, .inl (cK 0, 2048, .inl o_mLaf))] r := by
  refine mk_WrL (cc := b_M_bits) (maxL := 9) (by decide +kernel) rfl (Nat.le_of_ble_eq_true rfl) ?_
  intro p e s m below meth c args Q A ls hx hb hml hown hts hA hK hP hD hret hl
  have hS : va_S A s.heap s.heap [] := va_S.rf
  have hl : lv_has ls 9 [(0, .ref md), (1, .int v1), (2, .int v2), (3, .int v3), (4, .int v4)] := hl
  have J_47 : ∀ (mRof : Nat → Int64) (mKnf : Nat → Int32) (mNef : Nat → Int64) (mSef : Nat → Int32) (mVaf : Nat → Int32) (mLaf : Nat → Int32) (v3 : Int32) (v5 : Int64) (s0 : Int64) (H : Heap) (locs : List Loc) (ls : Array Slot), f_M_bits_47 N mdS mWhf mTrf mCof mWif mPcf mItf mRof mKnf mNef mSef mVaf mLaf v3 v5 s0 = some (r, o_mRof, o_mKnf, o_mNef, o_mSef, o_mVaf, o_mLaf) → va_P D zz_cl [(md, .inr (6, [.int mdN, .int mdL, .ref mWh, .ref mTr, .ref mCo, .int mdS, .ref mWi, .ref mPc, .ref mIt, .int mdQ, .ref mRo, .ref mKn, .ref mNe, .ref mSe, .ref mVa, .ref mLa])), (mWh, .inl (cK 0, 400, .inl mWhf)), (mTr, .inl (cK 0, 400, .inl mTrf)), (mCo, .inl (cK 1, 400, .inl mCof)), (mWi, .inl (cK 0, 12, .inl mWif)), (mPc, .inl (cK 0, 12, .inl mPcf)), (mIt, .inl (cK 0, 108, .inl mItf)), (mRo, .inl (cK 2, 761856, .inr (.inl mRof))), (mKn, .inl (cK 1, 744, .inl mKnf)), (mNe, .inl (cK 2, 1024, .inr (.inl mNef))), (mSe, .inl (cK 1, 2048, .inl mSef)), (mVa, .inl (cK 0, 5, .inl mVaf)), (mLa, .inl (cK 0, 2048, .inl mLaf))] H → va_D A [(md, .inr (6, [.int mdN, .int mdL, .ref mWh, .ref mTr, .ref mCo, .int mdS, .ref mWi, .ref mPc, .ref mIt, .int mdQ, .ref mRo, .ref mKn, .ref mNe, .ref mSe, .ref mVa, .ref mLa])), (mWh, .inl (cK 0, 400, .inl mWhf)), (mTr, .inl (cK 0, 400, .inl mTrf)), (mCo, .inl (cK 1, 400, .inl mCof)), (mWi, .inl (cK 0, 12, .inl mWif)), (mPc, .inl (cK 0, 12, .inl mPcf)), (mIt, .inl (cK 0, 108, .inl mItf)), (mRo, .inl (cK 2, 761856, .inr (.inl mRof))), (mKn, .inl (cK 1, 744, .inl mKnf)), (mNe, .inl (cK 2, 1024, .inr (.inl mNef))), (mSe, .inl (cK 1, 2048, .inl mSef)), (mVa, .inl (cK 0, 5, .inl mVaf)), (mLa, .inl (cK 0, 2048, .inl mLaf))] → va_S A s.heap H locs → lv_has ls 9 [(3, .int v3), (5, .long v5)] → W p l e rm_M_bits s m args below meth c H locs 0 0 Q (F0 m 47 ls [.long s0]) := by
    intro mRof mKnf mNef mSef mVaf mLaf v3 v5 s0 H locs ls hf hP hD hS hl
    unfold f_M_bits_47 at hf
    refine lv_lstore (lv' := [(7, .long s0), (3, .int v3), (5, .long v5)]) hx hb d_M_bits_47 hl (by decide) rfl (fun ls hl => ?_)
    refine lv_iload_n hx hb d_M_bits_49 rfl (lv_at hl 1 rfl) ?_
    refine lv_iconst (v := 1) hx hb d_M_bits_50 (by decide) ?_
    refine lv_icmp_ne (tgt := 66) hx hb d_M_bits_51 (by decide) (fun hc => ?_) (fun hc => ?_)
    · have hf := fn_f hc hf
      refine lv_lload hx hb d_M_bits_66 (lv_at hl 0 rfl) ?_
      refine lv_lload hx hb d_M_bits_68 (lv_at hl 2 rfl) ?_
      refine lv_ldc2 (v := (-1)) hx hb hown (hts _ kl_M_122) d_M_bits_70 ?_
      refine lv_lxor hx hb d_M_bits_73 ?_
      refine lv_land hx hb d_M_bits_74 ?_
      cases hf
      exact hret _ _ 75 _ hP hD hS d_M_bits_75
    · have hf := fn_t hc hf
      refine lv_lload hx hb d_M_bits_54 (lv_at hl 2 rfl) ?_
      refine lv_lload hx hb d_M_bits_56 (lv_at hl 0 rfl) ?_
      refine lv_ldc2 (v := (-1)) hx hb hown (hts _ kl_M_122) d_M_bits_58 ?_
      refine lv_lxor hx hb d_M_bits_61 ?_
      refine lv_land hx hb d_M_bits_62 ?_
      refine lv_goto (tgt := 75) hx hb d_M_bits_63 (by decide) ?_
      cases hf
      exact hret _ _ 75 _ hP hD hS d_M_bits_75
  unfold f_M_bits at hf
  refine lv_aload_n hx hb d_M_bits_0 rfl (lv_at hl 0 rfl) ?_
  refine va_get (D := D) (ci := 6) (v := .ref mRo) (C := RK6) (T := TK6) (N := 16) hx hb hts iwK6 hown hK hP 0 rfl rfl 10 (by decide) (hts _ fl_M_30) (fun _ h9 => h9) rfl d_M_bits_1 ?_
  refine lv_aload_n hx hb d_M_bits_4 rfl (lv_at hl 0 rfl) ?_
  refine lv_iload_n hx hb d_M_bits_5 rfl (lv_at hl 1 rfl) ?_
  refine lv_iload_n hx hb d_M_bits_6 rfl (lv_at hl 2 rfl) ?_
  obtain ⟨r_7, mRof_7, mKnf_7, mNef_7, mSef_7, mVaf_7, mLaf_7, hcl, hf⟩ := fn_e7 hf
  refine cv_WrI (rest := [.ref mRo]) (wr := []) (w' := [(md, .inr (6, [.int mdN, .int mdL, .ref mWh, .ref mTr, .ref mCo, .int mdS, .ref mWi, .ref mPc, .ref mIt, .int mdQ, .ref mRo, .ref mKn, .ref mNe, .ref mSe, .ref mVa, .ref mLa])), (mWh, .inl (cK 0, 400, .inl mWhf)), (mTr, .inl (cK 0, 400, .inl mTrf)), (mCo, .inl (cK 1, 400, .inl mCof)), (mWi, .inl (cK 0, 12, .inl mWif)), (mPc, .inl (cK 0, 12, .inl mPcf)), (mIt, .inl (cK 0, 108, .inl mItf)), (mRo, .inl (cK 2, 761856, .inr (.inl mRof_7))), (mKn, .inl (cK 1, 744, .inl mKnf_7)), (mNe, .inl (cK 2, 1024, .inr (.inl mNef_7))), (mSe, .inl (cK 1, 2048, .inl mSef_7)), (mVa, .inl (cK 0, 5, .inl mVaf_7)), (mLa, .inl (cK 0, 2048, .inl mLaf_7))]) ⟨hx, hb, hml, hown, hts⟩ (c_M_rowsOf l D cK md mWh mTr mCo mWi mPc mIt mRo mKn mNe mSe mVa mLa mdN mdL mdS mdQ mWhf mTrf mCof mWif mPcf mItf mRof mKnf mNef mSef mVaf mLaf N v1 v2 r_7 mRof_7 mKnf_7 mNef_7 mSef_7 mVaf_7 mLaf_7 hcl) (cwV 2 hts (zz_V ml_M_119 im_M_rowsOf se_M_rowsOf in_M co_M_rowsOf) rfl rfl rfl ⟨rfl, hd_M_rowsOf⟩ ⟨Nat.le_of_ble_eq_true rfl, Nat.le_of_ble_eq_true rfl⟩) hK hP hD hS hA [0, 1, 2, 3, 4, 5, 6, 7, 8, 9, 10, 11, 12] [] [0, 1, 2, 3, 4, 5, 6, 7, 8, 9, 10, 11, 12] rfl (by decide) rfl (by decide) (by decide) rfl (by decide) 0 rfl rfl rfl rfl hl.1 rfl (Nat.le_of_ble_eq_true rfl) d_M_bits_7 ⟨Nat.zero_le _, Nat.zero_le _⟩ (fun H locs hP hD hS => ?_)
  refine lv_iload hx hb d_M_bits_10 (lv_at hl 4 rfl) ?_
  refine lv_iadd hx hb d_M_bits_12 ?_
  have hg := fn_g hf
  have hf := fn_t hg hf
  refine va_lald hx hb hK hP 7 2 rfl rfl (fn_v hg) d_M_bits_13 ?_
  refine lv_lstore (lv' := [(5, .long (mRof_7 (Int32.toNatClampNeg (r_7 + v4)))), (0, .ref md), (1, .int v1), (2, .int v2), (3, .int v3), (4, .int v4)]) hx hb d_M_bits_14 hl (by decide) rfl (fun ls hl => ?_)
  refine lv_iload_n hx hb d_M_bits_16 rfl (lv_at hl 4 rfl) ?_
  refine lv_if_ne (tgt := 23) hx hb d_M_bits_17 (by decide) (fun hc => ?_) (fun hc => ?_)
  · have hf := fn_f hc hf
    refine lv_iload_n hx hb d_M_bits_23 rfl (lv_at hl 3 rfl) ?_
    refine lv_if_le (tgt := 46) hx hb d_M_bits_24 (by decide) (fun hc => ?_) (fun hc => ?_)
    · have hf := fn_t hc hf
      refine lv_lconst (v := 0) hx hb d_M_bits_46 (by decide) ?_
      exact J_47 _ _ _ _ _ _ _ _ _ _ _ _ hf hP hD hS (lv_sub hl [4, 0] rfl)
    · have hf := fn_f hc hf
      refine lv_aload_n hx hb d_M_bits_27 rfl (lv_at hl 1 rfl) ?_
      refine va_get (D := D) (ci := 6) (v := .ref mRo) (C := RK6) (T := TK6) (N := 16) hx hb hts iwK6 hown hK hP 0 rfl rfl 10 (by decide) (hts _ fl_M_30) (fun _ h9 => h9) rfl d_M_bits_28 ?_
      refine lv_aload_n hx hb d_M_bits_31 rfl (lv_at hl 1 rfl) ?_
      refine lv_iload_n hx hb d_M_bits_32 rfl (lv_at hl 2 rfl) ?_
      refine lv_iload_n hx hb d_M_bits_33 rfl (lv_at hl 3 rfl) ?_
      refine lv_iconst (v := 1) hx hb d_M_bits_34 (by decide) ?_
      refine lv_isub hx hb d_M_bits_35 ?_
      obtain ⟨r_36, mRof_36, mKnf_36, mNef_36, mSef_36, mVaf_36, mLaf_36, hcl, hf⟩ := fn_e7 hf
      refine cv_WrI (rest := [.ref mRo]) (wr := []) (w' := [(md, .inr (6, [.int mdN, .int mdL, .ref mWh, .ref mTr, .ref mCo, .int mdS, .ref mWi, .ref mPc, .ref mIt, .int mdQ, .ref mRo, .ref mKn, .ref mNe, .ref mSe, .ref mVa, .ref mLa])), (mWh, .inl (cK 0, 400, .inl mWhf)), (mTr, .inl (cK 0, 400, .inl mTrf)), (mCo, .inl (cK 1, 400, .inl mCof)), (mWi, .inl (cK 0, 12, .inl mWif)), (mPc, .inl (cK 0, 12, .inl mPcf)), (mIt, .inl (cK 0, 108, .inl mItf)), (mRo, .inl (cK 2, 761856, .inr (.inl mRof_36))), (mKn, .inl (cK 1, 744, .inl mKnf_36)), (mNe, .inl (cK 2, 1024, .inr (.inl mNef_36))), (mSe, .inl (cK 1, 2048, .inl mSef_36)), (mVa, .inl (cK 0, 5, .inl mVaf_36)), (mLa, .inl (cK 0, 2048, .inl mLaf_36))]) ⟨hx, hb, hml, hown, hts⟩ (c_M_rowsOf l D cK md mWh mTr mCo mWi mPc mIt mRo mKn mNe mSe mVa mLa mdN mdL mdS mdQ mWhf mTrf mCof mWif mPcf mItf mRof_7 mKnf_7 mNef_7 mSef_7 mVaf_7 mLaf_7 N v1 (v2 - 1) r_36 mRof_36 mKnf_36 mNef_36 mSef_36 mVaf_36 mLaf_36 hcl) (cwV 2 hts (zz_V ml_M_119 im_M_rowsOf se_M_rowsOf in_M co_M_rowsOf) rfl rfl rfl ⟨rfl, hd_M_rowsOf⟩ ⟨Nat.le_of_ble_eq_true rfl, Nat.le_of_ble_eq_true rfl⟩) hK hP hD hS hA [0, 1, 2, 3, 4, 5, 6, 7, 8, 9, 10, 11, 12] [] [0, 1, 2, 3, 4, 5, 6, 7, 8, 9, 10, 11, 12] rfl (by decide) rfl (by decide) (by decide) rfl (by decide) 0 rfl rfl rfl rfl hl.1 rfl (Nat.le_of_ble_eq_true rfl) d_M_bits_36 ⟨Nat.zero_le _, Nat.zero_le _⟩ (fun H locs hP hD hS => ?_)
      refine lv_iload hx hb d_M_bits_39 (lv_at hl 5 rfl) ?_
      refine lv_iadd hx hb d_M_bits_41 ?_
      have hg := fn_g hf
      have hf := fn_t hg hf
      refine va_lald hx hb hK hP 7 2 rfl rfl (fn_v hg) d_M_bits_42 ?_
      refine lv_goto (tgt := 47) hx hb d_M_bits_43 (by decide) ?_
      exact J_47 _ _ _ _ _ _ _ _ _ _ _ _ hf hP hD hS (lv_sub hl [4, 0] rfl)
  · have hf := fn_t hc hf
    refine lv_lload hx hb d_M_bits_20 (lv_at hl 0 rfl) ?_
    cases hf
    exact hret _ _ 22 _ hP hD hS d_M_bits_22
abbrev rm_M_count : Room := { frames := 6, cells := 0, slots := 0, locals := 154 }
set_option maxHeartbeats 4000000 in
set_option maxRecDepth 100000 in
theorem c_M_count (l : Launch) (D : va_G) (cK : Nat → ClassId) (md mWh mTr mCo mWi mPc mIt mRo mKn mNe mSe mVa mLa : Nat) (mdN : Int32) (mdL : Int32) (mdS : Int32) (mdQ : Int32) (mWhf : Nat → Int32) (mTrf : Nat → Int32) (mCof : Nat → Int32) (mWif : Nat → Int32) (mPcf : Nat → Int32) (mItf : Nat → Int32) (mRof : Nat → Int64) (mKnf : Nat → Int32) (mNef : Nat → Int64) (mSef : Nat → Int32) (mVaf : Nat → Int32) (mLaf : Nat → Int32) (N : Nat) (v1 : Int32) (v2 : Int32) (v3 : Int32) (r : Int32) (o_mRof : Nat → Int64) (o_mKnf : Nat → Int32) (o_mNef : Nat → Int64) (o_mSef : Nat → Int32) (o_mVaf : Nat → Int32) (o_mLaf : Nat → Int32) (hf : f_M_count N mdS mWhf mTrf mCof mWif mPcf mItf mRof mKnf mNef mSef mVaf mLaf v1 v2 v3 = some (r, o_mRof, o_mKnf, o_mNef, o_mSef, o_mVaf, o_mLaf)) : WrI l y_M_count w_M_count rm_M_count D zz_cl (mt_ty cK RK2) [.ref md, .int v1, .int v2, .int v3] [(md, .inr (6, [.int mdN, .int mdL, .ref mWh, .ref mTr, .ref mCo, .int mdS, .ref mWi, .ref mPc, .ref mIt, .int mdQ, .ref mRo, .ref mKn, .ref mNe, .ref mSe, .ref mVa, .ref mLa])), (mWh, .inl (cK 0, 400, .inl mWhf)), (mTr, .inl (cK 0, 400, .inl mTrf)), (mCo, .inl (cK 1, 400, .inl mCof)), (mWi, .inl (cK 0, 12, .inl mWif)), (mPc, .inl (cK 0, 12, .inl mPcf)), (mIt, .inl (cK 0, 108, .inl mItf)), (mRo, .inl (cK 2, 761856, .inr (.inl mRof))), (mKn, .inl (cK 1, 744, .inl mKnf)), (mNe, .inl (cK 2, 1024, .inr (.inl mNef))), (mSe, .inl (cK 1, 2048, .inl mSef)), (mVa, .inl (cK 0, 5, .inl mVaf)), (mLa, .inl (cK 0, 2048, .inl mLaf))] [(md, .inr (6, [.int mdN, .int mdL, .ref mWh, .ref mTr, .ref mCo, .int mdS, .ref mWi, .ref mPc, .ref mIt, .int mdQ, .ref mRo, .ref mKn, .ref mNe, .ref mSe, .ref mVa, .ref mLa])), (mWh, .inl (cK 0, 400, .inl mWhf)), (mTr, .inl (cK 0, 400, .inl mTrf)), (mCo, .inl (cK 1, 400, .inl mCof)), (mWi, .inl (cK 0, 12, .inl mWif)), (mPc, .inl (cK 0, 12, .inl mPcf)), (mIt, .inl (cK 0, 108, .inl mItf)), (mRo, .inl (cK 2, 761856, .inr (.inl o_mRof))), (mKn, .inl (cK 1, 744, .inl o_mKnf)), (mNe, .inl (cK 2, 1024, .inr (.inl o_mNef))), (mSe, .inl (cK 1, 2048, .inl o_mSef)), (mVa, .inl (cK 0, 5, .inl o_mVaf)), (mLa, .inl (cK 0, 2048, .inl o_mLaf))] r := by
  refine mk_WrI (cc := b_M_count) (maxL := 8) (ty := .int) (by decide +kernel) rfl (Nat.le_of_ble_eq_true rfl) ?_
  intro p e s m below meth c args Q A ls hx hb hml hown hts hA hK hP hD hret hl
  have hS : va_S A s.heap s.heap [] := va_S.rf
  have hl : lv_has ls 8 [(0, .ref md), (1, .int v1), (2, .int v2), (3, .int v3)] := hl
  have J_6 : ∀ (v1 : Int32) (v2 : Int32) (v3 : Int32) (n_6 : Nat) (mRof : Nat → Int64) (mKnf : Nat → Int32) (mNef : Nat → Int64) (mSef : Nat → Int32) (mVaf : Nat → Int32) (mLaf : Nat → Int32) (v4 : Int32) (v5 : Int32) (H : Heap) (locs : List Loc) (ls : Array Slot), f_M_count_6 N mdS mWhf mTrf mCof mWif mPcf mItf v1 v2 v3 n_6 mRof mKnf mNef mSef mVaf mLaf v4 v5 = some (r, o_mRof, o_mKnf, o_mNef, o_mSef, o_mVaf, o_mLaf) → va_P D zz_cl [(md, .inr (6, [.int mdN, .int mdL, .ref mWh, .ref mTr, .ref mCo, .int mdS, .ref mWi, .ref mPc, .ref mIt, .int mdQ, .ref mRo, .ref mKn, .ref mNe, .ref mSe, .ref mVa, .ref mLa])), (mWh, .inl (cK 0, 400, .inl mWhf)), (mTr, .inl (cK 0, 400, .inl mTrf)), (mCo, .inl (cK 1, 400, .inl mCof)), (mWi, .inl (cK 0, 12, .inl mWif)), (mPc, .inl (cK 0, 12, .inl mPcf)), (mIt, .inl (cK 0, 108, .inl mItf)), (mRo, .inl (cK 2, 761856, .inr (.inl mRof))), (mKn, .inl (cK 1, 744, .inl mKnf)), (mNe, .inl (cK 2, 1024, .inr (.inl mNef))), (mSe, .inl (cK 1, 2048, .inl mSef)), (mVa, .inl (cK 0, 5, .inl mVaf)), (mLa, .inl (cK 0, 2048, .inl mLaf))] H → va_D A [(md, .inr (6, [.int mdN, .int mdL, .ref mWh, .ref mTr, .ref mCo, .int mdS, .ref mWi, .ref mPc, .ref mIt, .int mdQ, .ref mRo, .ref mKn, .ref mNe, .ref mSe, .ref mVa, .ref mLa])), (mWh, .inl (cK 0, 400, .inl mWhf)), (mTr, .inl (cK 0, 400, .inl mTrf)), (mCo, .inl (cK 1, 400, .inl mCof)), (mWi, .inl (cK 0, 12, .inl mWif)), (mPc, .inl (cK 0, 12, .inl mPcf)), (mIt, .inl (cK 0, 108, .inl mItf)), (mRo, .inl (cK 2, 761856, .inr (.inl mRof))), (mKn, .inl (cK 1, 744, .inl mKnf)), (mNe, .inl (cK 2, 1024, .inr (.inl mNef))), (mSe, .inl (cK 1, 2048, .inl mSef)), (mVa, .inl (cK 0, 5, .inl mVaf)), (mLa, .inl (cK 0, 2048, .inl mLaf))] → va_S A s.heap H locs → lv_has ls 8 [(0, .ref md), (1, .int v1), (2, .int v2), (3, .int v3), (4, .int v4), (5, .int v5)] → W p l e rm_M_count s m args below meth c H locs 0 0 Q (F0 m 6 ls []) := by
    intro v1 v2 v3 n_6
    induction n_6 with
    | zero =>
      intro mRof mKnf mNef mSef mVaf mLaf v4 v5 H locs ls hf hP hD hS hl
      exact fn_0 hf
    | succ n_6 ih_6 =>
      have J_25 : ∀ (v5 : Int32) (n_25 : Nat) (mRof : Nat → Int64) (mKnf : Nat → Int32) (mNef : Nat → Int64) (mSef : Nat → Int32) (mVaf : Nat → Int32) (mLaf : Nat → Int32) (v4 : Int32) (v6 : Int64) (H : Heap) (locs : List Loc) (ls : Array Slot), f_M_count_25 N mdS mWhf mTrf mCof mWif mPcf mItf (f_M_count_6 N mdS mWhf mTrf mCof mWif mPcf mItf v1 v2 v3 n_6) v1 v2 v3 v5 n_25 mRof mKnf mNef mSef mVaf mLaf v4 v6 = some (r, o_mRof, o_mKnf, o_mNef, o_mSef, o_mVaf, o_mLaf) → va_P D zz_cl [(md, .inr (6, [.int mdN, .int mdL, .ref mWh, .ref mTr, .ref mCo, .int mdS, .ref mWi, .ref mPc, .ref mIt, .int mdQ, .ref mRo, .ref mKn, .ref mNe, .ref mSe, .ref mVa, .ref mLa])), (mWh, .inl (cK 0, 400, .inl mWhf)), (mTr, .inl (cK 0, 400, .inl mTrf)), (mCo, .inl (cK 1, 400, .inl mCof)), (mWi, .inl (cK 0, 12, .inl mWif)), (mPc, .inl (cK 0, 12, .inl mPcf)), (mIt, .inl (cK 0, 108, .inl mItf)), (mRo, .inl (cK 2, 761856, .inr (.inl mRof))), (mKn, .inl (cK 1, 744, .inl mKnf)), (mNe, .inl (cK 2, 1024, .inr (.inl mNef))), (mSe, .inl (cK 1, 2048, .inl mSef)), (mVa, .inl (cK 0, 5, .inl mVaf)), (mLa, .inl (cK 0, 2048, .inl mLaf))] H → va_D A [(md, .inr (6, [.int mdN, .int mdL, .ref mWh, .ref mTr, .ref mCo, .int mdS, .ref mWi, .ref mPc, .ref mIt, .int mdQ, .ref mRo, .ref mKn, .ref mNe, .ref mSe, .ref mVa, .ref mLa])), (mWh, .inl (cK 0, 400, .inl mWhf)), (mTr, .inl (cK 0, 400, .inl mTrf)), (mCo, .inl (cK 1, 400, .inl mCof)), (mWi, .inl (cK 0, 12, .inl mWif)), (mPc, .inl (cK 0, 12, .inl mPcf)), (mIt, .inl (cK 0, 108, .inl mItf)), (mRo, .inl (cK 2, 761856, .inr (.inl mRof))), (mKn, .inl (cK 1, 744, .inl mKnf)), (mNe, .inl (cK 2, 1024, .inr (.inl mNef))), (mSe, .inl (cK 1, 2048, .inl mSef)), (mVa, .inl (cK 0, 5, .inl mVaf)), (mLa, .inl (cK 0, 2048, .inl mLaf))] → va_S A s.heap H locs → lv_has ls 8 [(0, .ref md), (1, .int v1), (2, .int v2), (3, .int v3), (4, .int v4), (5, .int v5), (6, .long v6)] → W p l e rm_M_count s m args below meth c H locs 0 0 Q (F0 m 25 ls []) := by
        intro v5 n_25
        induction n_25 with
        | zero =>
          intro mRof mKnf mNef mSef mVaf mLaf v4 v6 H locs ls hf hP hD hS hl
          exact fn_0 hf
        | succ n_25 ih_25 =>
          intro mRof mKnf mNef mSef mVaf mLaf v4 v6 H locs ls hf hP hD hS hl
          rw [f_M_count_25.eq_2] at hf
          refine lv_lload hx hb d_M_count_25 (lv_at hl 6 rfl) ?_
          refine lv_lconst (v := 0) hx hb d_M_count_27 (by decide) ?_
          refine W.lcmp hx hb d_M_count_28 ?_
          refine lv_if_eq (tgt := 47) hx hb d_M_count_29 (by decide) (fun hc => ?_) (fun hc => ?_)
          · have hf := fn_t hc hf
            refine lv_iinc (v := (v5 + 1)) (lv' := [(5, .int (v5 + 1)), (0, .ref md), (1, .int v1), (2, .int v2), (3, .int v3), (4, .int v4), (6, .long v6)]) hx hb d_M_count_47 hl (k := 5) rfl rfl (by decide) rfl (fun ls hl => ?_)
            refine lv_goto (tgt := 6) hx hb d_M_count_50 (by decide) ?_
            exact ih_6 _ _ _ _ _ _ _ _ _ _ _ hf hP hD hS (lv_sub hl [1, 2, 3, 4, 5, 0] rfl)
          · have hf := fn_f hc hf
            refine lv_iinc (v := (v4 + 1)) (lv' := [(4, .int (v4 + 1)), (0, .ref md), (1, .int v1), (2, .int v2), (3, .int v3), (5, .int v5), (6, .long v6)]) hx hb d_M_count_32 hl (k := 4) rfl rfl (by decide) rfl (fun ls hl => ?_)
            refine lv_lload hx hb d_M_count_35 (lv_at hl 6 rfl) ?_
            refine lv_lload hx hb d_M_count_37 (lv_at hl 6 rfl) ?_
            refine lv_lconst (v := 1) hx hb d_M_count_39 (by decide) ?_
            refine lv_lsub hx hb d_M_count_40 ?_
            refine lv_land hx hb d_M_count_41 ?_
            refine lv_lstore (lv' := [(6, .long (v6 &&& (v6 - 1))), (4, .int (v4 + 1)), (0, .ref md), (1, .int v1), (2, .int v2), (3, .int v3), (5, .int v5)]) hx hb d_M_count_42 hl (by decide) rfl (fun ls hl => ?_)
            refine lv_goto (tgt := 25) hx hb d_M_count_44 (by decide) ?_
            exact ih_25 _ _ _ _ _ _ _ _ _ _ _ hf hP hD hS (lv_sub hl [2, 3, 4, 5, 1, 6, 0] rfl)
      intro mRof mKnf mNef mSef mVaf mLaf v4 v5 H locs ls hf hP hD hS hl
      rw [f_M_count_6.eq_2] at hf
      refine lv_iload hx hb d_M_count_6 (lv_at hl 5 rfl) ?_
      refine lv_sipush (v := 1024) hx hb d_M_count_8 (by decide) ?_
      refine lv_icmp_ge (tgt := 53) hx hb d_M_count_11 (by decide) (fun hc => ?_) (fun hc => ?_)
      · have hf := fn_t hc hf
        refine lv_iload hx hb d_M_count_53 (lv_at hl 4 rfl) ?_
        cases hf
        exact hret _ _ 55 _ hP hD hS rfl d_M_count_55
      · have hf := fn_f hc hf
        refine lv_aload_n hx hb d_M_count_14 rfl (lv_at hl 0 rfl) ?_
        refine lv_iload_n hx hb d_M_count_15 rfl (lv_at hl 1 rfl) ?_
        refine lv_iload_n hx hb d_M_count_16 rfl (lv_at hl 2 rfl) ?_
        refine lv_iload_n hx hb d_M_count_17 rfl (lv_at hl 3 rfl) ?_
        refine lv_iload hx hb d_M_count_18 (lv_at hl 5 rfl) ?_
        obtain ⟨r_20, mRof_20, mKnf_20, mNef_20, mSef_20, mVaf_20, mLaf_20, hcl, hf⟩ := fn_e7 hf
        refine cv_WrL (rest := []) (wr := []) (w' := [(md, .inr (6, [.int mdN, .int mdL, .ref mWh, .ref mTr, .ref mCo, .int mdS, .ref mWi, .ref mPc, .ref mIt, .int mdQ, .ref mRo, .ref mKn, .ref mNe, .ref mSe, .ref mVa, .ref mLa])), (mWh, .inl (cK 0, 400, .inl mWhf)), (mTr, .inl (cK 0, 400, .inl mTrf)), (mCo, .inl (cK 1, 400, .inl mCof)), (mWi, .inl (cK 0, 12, .inl mWif)), (mPc, .inl (cK 0, 12, .inl mPcf)), (mIt, .inl (cK 0, 108, .inl mItf)), (mRo, .inl (cK 2, 761856, .inr (.inl mRof_20))), (mKn, .inl (cK 1, 744, .inl mKnf_20)), (mNe, .inl (cK 2, 1024, .inr (.inl mNef_20))), (mSe, .inl (cK 1, 2048, .inl mSef_20)), (mVa, .inl (cK 0, 5, .inl mVaf_20)), (mLa, .inl (cK 0, 2048, .inl mLaf_20))]) ⟨hx, hb, hml, hown, hts⟩ (c_M_bits l D cK md mWh mTr mCo mWi mPc mIt mRo mKn mNe mSe mVa mLa mdN mdL mdS mdQ mWhf mTrf mCof mWif mPcf mItf mRof mKnf mNef mSef mVaf mLaf N v1 v2 v3 v5 r_20 mRof_20 mKnf_20 mNef_20 mSef_20 mVaf_20 mLaf_20 hcl) (cwV 4 hts (zz_V ml_M_124 im_M_bits se_M_bits in_M co_M_bits) rfl rfl rfl ⟨rfl, hd_M_bits⟩ ⟨Nat.le_of_ble_eq_true rfl, Nat.le_of_ble_eq_true rfl⟩) hK hP hD hS hA [0, 1, 2, 3, 4, 5, 6, 7, 8, 9, 10, 11, 12] [] [0, 1, 2, 3, 4, 5, 6, 7, 8, 9, 10, 11, 12] rfl (by decide) rfl (by decide) (by decide) rfl (by decide) 0 rfl rfl rfl rfl hl.1 rfl (Nat.le_of_ble_eq_true rfl) d_M_count_20 ⟨Nat.zero_le _, Nat.zero_le _⟩ (fun H locs hP hD hS => ?_)
        refine lv_lstore (lv' := [(6, .long r_20), (0, .ref md), (1, .int v1), (2, .int v2), (3, .int v3), (4, .int v4), (5, .int v5)]) hx hb d_M_count_23 hl (by decide) rfl (fun ls hl => ?_)
        exact J_25 _ _ _ _ _ _ _ _ _ _ _ _ _ hf hP hD hS (lv_sub hl [1, 2, 3, 4, 5, 6, 0] rfl)
  unfold f_M_count at hf
  refine lv_iconst (v := 0) hx hb d_M_count_0 (by decide) ?_
  refine lv_istore (lv' := [(4, .int 0), (0, .ref md), (1, .int v1), (2, .int v2), (3, .int v3)]) hx hb d_M_count_1 hl (by decide) rfl (fun ls hl => ?_)
  refine lv_iconst (v := 0) hx hb d_M_count_3 (by decide) ?_
  refine lv_istore (lv' := [(5, .int 0), (4, .int 0), (0, .ref md), (1, .int v1), (2, .int v2), (3, .int v3)]) hx hb d_M_count_4 hl (by decide) rfl (fun ls hl => ?_)
  exact J_6 _ _ _ _ _ _ _ _ _ _ _ _ _ _ _ hf hP hD hS (lv_sub hl [2, 3, 4, 5, 1, 0] rfl)
abbrev rm_M_rows : Room := { frames := 7, cells := 0, slots := 0, locals := 181 }
set_option maxHeartbeats 4000000 in
set_option maxRecDepth 100000 in
theorem c_M_rows (l : Launch) (D : va_G) (cK : Nat → ClassId) (md mWh mTr mCo mWi mPc mIt mRo mKn mNe mSe mVa mLa : Nat) (mdN : Int32) (mdL : Int32) (mdS : Int32) (mdQ : Int32) (mWhf : Nat → Int32) (mTrf : Nat → Int32) (mCof : Nat → Int32) (mWif : Nat → Int32) (mPcf : Nat → Int32) (mItf : Nat → Int32) (mRof : Nat → Int64) (mKnf : Nat → Int32) (mNef : Nat → Int64) (mSef : Nat → Int32) (mVaf : Nat → Int32) (mLaf : Nat → Int32) (N : Nat) (v1 : Int32) (v2 : Int32) (r : Int32) (o_mRof : Nat → Int64) (o_mKnf : Nat → Int32) (o_mNef : Nat → Int64) (o_mSef : Nat → Int32) (o_mVaf : Nat → Int32) (o_mLaf : Nat → Int32) (hf : f_M_rows N mdL mdS mdQ mWhf mTrf mCof mWif mPcf mItf mRof mKnf mNef mSef mVaf mLaf v1 v2 = some (r, o_mRof, o_mKnf, o_mNef, o_mSef, o_mVaf, o_mLaf)) : WrI l y_M_rows w_M_rows rm_M_rows D zz_cl (mt_ty cK RK2) [.ref md, .int v1, .int v2] [(md, .inr (6, [.int mdN, .int mdL, .ref mWh, .ref mTr, .ref mCo, .int mdS, .ref mWi, .ref mPc, .ref mIt, .int mdQ, .ref mRo, .ref mKn, .ref mNe, .ref mSe, .ref mVa, .ref mLa])), (mWh, .inl (cK 0, 400, .inl mWhf)), (mTr, .inl (cK 0, 400, .inl mTrf)), (mCo, .inl (cK 1, 400, .inl mCof)), (mWi, .inl (cK 0, 12, .inl mWif)), (mPc, .inl (cK 0, 12, .inl mPcf)), (mIt, .inl (cK 0, 108, .inl mItf)), (mRo, .inl (cK 2, 761856, .inr (.inl mRof))), (mKn, .inl (cK 1, 744, .inl mKnf)), (mNe, .inl (cK 2, 1024, .inr (.inl mNef))), (mSe, .inl (cK 1, 2048, .inl mSef)), (mVa, .inl (cK 0, 5, .inl mVaf)), (mLa, .inl (cK 0, 2048, .inl mLaf))] [(md, .inr (6, [.int mdN, .int mdL, .ref mWh, .ref mTr, .ref mCo, .int mdS, .ref mWi, .ref mPc, .ref mIt, .int mdQ, .ref mRo, .ref mKn, .ref mNe, .ref mSe, .ref mVa, .ref mLa])), (mWh, .inl (cK 0, 400, .inl mWhf)), (mTr, .inl (cK 0, 400, .inl mTrf)), (mCo, .inl (cK 1, 400, .inl mCof)), (mWi, .inl (cK 0, 12, .inl mWif)), (mPc, .inl (cK 0, 12, .inl mPcf)), (mIt, .inl (cK 0, 108, .inl mItf)), (mRo, .inl (cK 2, 761856, .inr (.inl o_mRof))), (mKn, .inl (cK 1, 744, .inl o_mKnf)), (mNe, .inl (cK 2, 1024, .inr (.inl o_mNef))), (mSe, .inl (cK 1, 2048, .inl o_mSef)), (mVa, .inl (cK 0, 5, .inl o_mVaf)), (mLa, .inl (cK 0, 2048, .inl o_mLaf))] r := by
  refine mk_WrI (cc := b_M_rows) (maxL := 3) (ty := .int) (by decide +kernel) rfl (Nat.le_of_ble_eq_true rfl) ?_
  intro p e s m below meth c args Q A ls hx hb hml hown hts hA hK hP hD hret hl
  have hS : va_S A s.heap s.heap [] := va_S.rf
  have hl : lv_has ls 3 [(0, .ref md), (1, .int v1), (2, .int v2)] := hl
  unfold f_M_rows at hf
  refine lv_aload_n hx hb d_M_rows_0 rfl (lv_at hl 0 rfl) ?_
  refine lv_iload_n hx hb d_M_rows_1 rfl (lv_at hl 1 rfl) ?_
  obtain ⟨r_2, hcl, hf⟩ := fn_e1 hf
  refine cv_RdI (rest := []) ⟨hx, hb, hml, hown, hts⟩ (c_M_isQuestion l D cK md mWh mTr mCo mWi mPc mIt mRo mKn mNe mSe mVa mLa mdN mdL mdS mdQ v1 r_2 hcl) (cwV 1 hts (zz_V ml_M_90 im_M_isQuestion se_M_isQuestion in_M co_M_isQuestion) rfl rfl rfl ⟨rfl, hd_M_isQuestion⟩ ⟨Nat.le_of_ble_eq_true rfl, Nat.le_of_ble_eq_true rfl⟩) hK hP [0] rfl 0 rfl rfl rfl rfl hl.1 rfl (Nat.le_of_ble_eq_true rfl) d_M_rows_2 ⟨Nat.zero_le _, Nat.zero_le _⟩ ?_
  refine lv_if_eq (tgt := 26) hx hb d_M_rows_5 (by decide) (fun hc => ?_) (fun hc => ?_)
  · have hf := fn_t hc hf
    refine lv_iconst (v := (-1)) hx hb d_M_rows_26 (by decide) ?_
    cases hf
    exact hret _ _ 27 _ hP hD hS rfl d_M_rows_27
  · have hf := fn_f hc hf
    refine lv_aload_n hx hb d_M_rows_8 rfl (lv_at hl 0 rfl) ?_
    refine lv_iload_n hx hb d_M_rows_9 rfl (lv_at hl 2 rfl) ?_
    obtain ⟨r_10, hcl, hf⟩ := fn_e1 hf
    refine cv_RdI (rest := []) ⟨hx, hb, hml, hown, hts⟩ (c_M_isNumber l D cK md mWh mTr mCo mWi mPc mIt mRo mKn mNe mSe mVa mLa mdN mdL mdS mdQ v2 r_10 hcl) (cwV 1 hts (zz_V ml_M_86 im_M_isNumber se_M_isNumber in_M co_M_isNumber) rfl rfl rfl ⟨rfl, hd_M_isNumber⟩ ⟨Nat.le_of_ble_eq_true rfl, Nat.le_of_ble_eq_true rfl⟩) hK hP [0] rfl 0 rfl rfl rfl rfl hl.1 rfl (Nat.le_of_ble_eq_true rfl) d_M_rows_10 ⟨Nat.zero_le _, Nat.zero_le _⟩ ?_
    refine lv_if_eq (tgt := 26) hx hb d_M_rows_13 (by decide) (fun hc => ?_) (fun hc => ?_)
    · have hf := fn_t hc hf
      refine lv_iconst (v := (-1)) hx hb d_M_rows_26 (by decide) ?_
      cases hf
      exact hret _ _ 27 _ hP hD hS rfl d_M_rows_27
    · have hf := fn_f hc hf
      refine lv_aload_n hx hb d_M_rows_16 rfl (lv_at hl 0 rfl) ?_
      refine lv_iload_n hx hb d_M_rows_17 rfl (lv_at hl 1 rfl) ?_
      refine lv_iload_n hx hb d_M_rows_18 rfl (lv_at hl 2 rfl) ?_
      refine lv_iconst (v := 0) hx hb d_M_rows_19 (by decide) ?_
      obtain ⟨r_20, mRof_20, mKnf_20, mNef_20, mSef_20, mVaf_20, mLaf_20, hcl, hf⟩ := fn_e7 hf
      refine cv_WrI (rest := []) (wr := []) (w' := [(md, .inr (6, [.int mdN, .int mdL, .ref mWh, .ref mTr, .ref mCo, .int mdS, .ref mWi, .ref mPc, .ref mIt, .int mdQ, .ref mRo, .ref mKn, .ref mNe, .ref mSe, .ref mVa, .ref mLa])), (mWh, .inl (cK 0, 400, .inl mWhf)), (mTr, .inl (cK 0, 400, .inl mTrf)), (mCo, .inl (cK 1, 400, .inl mCof)), (mWi, .inl (cK 0, 12, .inl mWif)), (mPc, .inl (cK 0, 12, .inl mPcf)), (mIt, .inl (cK 0, 108, .inl mItf)), (mRo, .inl (cK 2, 761856, .inr (.inl mRof_20))), (mKn, .inl (cK 1, 744, .inl mKnf_20)), (mNe, .inl (cK 2, 1024, .inr (.inl mNef_20))), (mSe, .inl (cK 1, 2048, .inl mSef_20)), (mVa, .inl (cK 0, 5, .inl mVaf_20)), (mLa, .inl (cK 0, 2048, .inl mLaf_20))]) ⟨hx, hb, hml, hown, hts⟩ (c_M_count l D cK md mWh mTr mCo mWi mPc mIt mRo mKn mNe mSe mVa mLa mdN mdL mdS mdQ mWhf mTrf mCof mWif mPcf mItf mRof mKnf mNef mSef mVaf mLaf N v1 v2 0 r_20 mRof_20 mKnf_20 mNef_20 mSef_20 mVaf_20 mLaf_20 hcl) (cwV 3 hts (zz_V ml_M_128 im_M_count se_M_count in_M co_M_count) rfl rfl rfl ⟨rfl, hd_M_count⟩ ⟨Nat.le_of_ble_eq_true rfl, Nat.le_of_ble_eq_true rfl⟩) hK hP hD hS hA [0, 1, 2, 3, 4, 5, 6, 7, 8, 9, 10, 11, 12] [] [0, 1, 2, 3, 4, 5, 6, 7, 8, 9, 10, 11, 12] rfl (by decide) rfl (by decide) (by decide) rfl (by decide) 0 rfl rfl rfl rfl hl.1 rfl (Nat.le_of_ble_eq_true rfl) d_M_rows_20 ⟨Nat.zero_le _, Nat.zero_le _⟩ (fun H locs hP hD hS => ?_)
      refine lv_goto (tgt := 27) hx hb d_M_rows_23 (by decide) ?_
      cases hf
      exact hret _ _ 27 _ hP hD hS rfl d_M_rows_27
abbrev rm_M_changed : Room := { frames := 7, cells := 0, slots := 0, locals := 181 }
set_option maxHeartbeats 4000000 in
set_option maxRecDepth 100000 in
theorem c_M_changed (l : Launch) (D : va_G) (cK : Nat → ClassId) (md mWh mTr mCo mWi mPc mIt mRo mKn mNe mSe mVa mLa : Nat) (mdN : Int32) (mdL : Int32) (mdS : Int32) (mdQ : Int32) (mWhf : Nat → Int32) (mTrf : Nat → Int32) (mCof : Nat → Int32) (mWif : Nat → Int32) (mPcf : Nat → Int32) (mItf : Nat → Int32) (mRof : Nat → Int64) (mKnf : Nat → Int32) (mNef : Nat → Int64) (mSef : Nat → Int32) (mVaf : Nat → Int32) (mLaf : Nat → Int32) (N : Nat) (v1 : Int32) (v2 : Int32) (v3 : Int32) (r : Int32) (o_mRof : Nat → Int64) (o_mKnf : Nat → Int32) (o_mNef : Nat → Int64) (o_mSef : Nat → Int32) (o_mVaf : Nat → Int32) (o_mLaf : Nat → Int32) (hf : f_M_changed N mdL mdS mdQ mWhf mTrf mCof mWif mPcf mItf mRof mKnf mNef mSef mVaf mLaf v1 v2 v3 = some (r, o_mRof, o_mKnf, o_mNef, o_mSef, o_mVaf, o_mLaf)) : WrI l y_M_changed w_M_changed rm_M_changed D zz_cl (mt_ty cK RK2) [.ref md, .int v1, .int v2, .int v3] [(md, .inr (6, [.int mdN, .int mdL, .ref mWh, .ref mTr, .ref mCo, .int mdS, .ref mWi, .ref mPc, .ref mIt, .int mdQ, .ref mRo, .ref mKn, .ref mNe, .ref mSe, .ref mVa, .ref mLa])), (mWh, .inl (cK 0, 400, .inl mWhf)), (mTr, .inl (cK 0, 400, .inl mTrf)), (mCo, .inl (cK 1, 400, .inl mCof)), (mWi, .inl (cK 0, 12, .inl mWif)), (mPc, .inl (cK 0, 12, .inl mPcf)), (mIt, .inl (cK 0, 108, .inl mItf)), (mRo, .inl (cK 2, 761856, .inr (.inl mRof))), (mKn, .inl (cK 1, 744, .inl mKnf)), (mNe, .inl (cK 2, 1024, .inr (.inl mNef))), (mSe, .inl (cK 1, 2048, .inl mSef)), (mVa, .inl (cK 0, 5, .inl mVaf)), (mLa, .inl (cK 0, 2048, .inl mLaf))] [(md, .inr (6, [.int mdN, .int mdL, .ref mWh, .ref mTr, .ref mCo, .int mdS, .ref mWi, .ref mPc, .ref mIt, .int mdQ, .ref mRo, .ref mKn, .ref mNe, .ref mSe, .ref mVa, .ref mLa])), (mWh, .inl (cK 0, 400, .inl mWhf)), (mTr, .inl (cK 0, 400, .inl mTrf)), (mCo, .inl (cK 1, 400, .inl mCof)), (mWi, .inl (cK 0, 12, .inl mWif)), (mPc, .inl (cK 0, 12, .inl mPcf)), (mIt, .inl (cK 0, 108, .inl mItf)), (mRo, .inl (cK 2, 761856, .inr (.inl o_mRof))), (mKn, .inl (cK 1, 744, .inl o_mKnf)), (mNe, .inl (cK 2, 1024, .inr (.inl o_mNef))), (mSe, .inl (cK 1, 2048, .inl o_mSef)), (mVa, .inl (cK 0, 5, .inl o_mVaf)), (mLa, .inl (cK 0, 2048, .inl o_mLaf))] r := by
  refine mk_WrI (cc := b_M_changed) (maxL := 4) (ty := .int) (by decide +kernel) rfl (Nat.le_of_ble_eq_true rfl) ?_
  intro p e s m below meth c args Q A ls hx hb hml hown hts hA hK hP hD hret hl
  have hS : va_S A s.heap s.heap [] := va_S.rf
  have hl : lv_has ls 4 [(0, .ref md), (1, .int v1), (2, .int v2), (3, .int v3)] := hl
  unfold f_M_changed at hf
  refine lv_aload_n hx hb d_M_changed_0 rfl (lv_at hl 0 rfl) ?_
  refine lv_iload_n hx hb d_M_changed_1 rfl (lv_at hl 1 rfl) ?_
  obtain ⟨r_2, hcl, hf⟩ := fn_e1 hf
  refine cv_RdI (rest := []) ⟨hx, hb, hml, hown, hts⟩ (c_M_isQuestion l D cK md mWh mTr mCo mWi mPc mIt mRo mKn mNe mSe mVa mLa mdN mdL mdS mdQ v1 r_2 hcl) (cwV 1 hts (zz_V ml_M_90 im_M_isQuestion se_M_isQuestion in_M co_M_isQuestion) rfl rfl rfl ⟨rfl, hd_M_isQuestion⟩ ⟨Nat.le_of_ble_eq_true rfl, Nat.le_of_ble_eq_true rfl⟩) hK hP [0] rfl 0 rfl rfl rfl rfl hl.1 rfl (Nat.le_of_ble_eq_true rfl) d_M_changed_2 ⟨Nat.zero_le _, Nat.zero_le _⟩ ?_
  refine lv_if_eq (tgt := 34) hx hb d_M_changed_5 (by decide) (fun hc => ?_) (fun hc => ?_)
  · have hf := fn_t hc hf
    refine lv_iconst (v := (-1)) hx hb d_M_changed_34 (by decide) ?_
    cases hf
    exact hret _ _ 35 _ hP hD hS rfl d_M_changed_35
  · have hf := fn_f hc hf
    refine lv_aload_n hx hb d_M_changed_8 rfl (lv_at hl 0 rfl) ?_
    refine lv_iload_n hx hb d_M_changed_9 rfl (lv_at hl 2 rfl) ?_
    obtain ⟨r_10, hcl, hf⟩ := fn_e1 hf
    refine cv_RdI (rest := []) ⟨hx, hb, hml, hown, hts⟩ (c_M_isNumber l D cK md mWh mTr mCo mWi mPc mIt mRo mKn mNe mSe mVa mLa mdN mdL mdS mdQ v2 r_10 hcl) (cwV 1 hts (zz_V ml_M_86 im_M_isNumber se_M_isNumber in_M co_M_isNumber) rfl rfl rfl ⟨rfl, hd_M_isNumber⟩ ⟨Nat.le_of_ble_eq_true rfl, Nat.le_of_ble_eq_true rfl⟩) hK hP [0] rfl 0 rfl rfl rfl rfl hl.1 rfl (Nat.le_of_ble_eq_true rfl) d_M_changed_10 ⟨Nat.zero_le _, Nat.zero_le _⟩ ?_
    refine lv_if_eq (tgt := 34) hx hb d_M_changed_13 (by decide) (fun hc => ?_) (fun hc => ?_)
    · have hf := fn_t hc hf
      refine lv_iconst (v := (-1)) hx hb d_M_changed_34 (by decide) ?_
      cases hf
      exact hret _ _ 35 _ hP hD hS rfl d_M_changed_35
    · have hf := fn_f hc hf
      refine lv_aload_n hx hb d_M_changed_16 rfl (lv_at hl 0 rfl) ?_
      refine lv_iload_n hx hb d_M_changed_17 rfl (lv_at hl 1 rfl) ?_
      refine lv_iload_n hx hb d_M_changed_18 rfl (lv_at hl 2 rfl) ?_
      refine lv_iload_n hx hb d_M_changed_19 rfl (lv_at hl 3 rfl) ?_
      refine lv_if_eq (tgt := 27) hx hb d_M_changed_20 (by decide) (fun hc => ?_) (fun hc => ?_)
      · have hf := fn_t hc hf
        refine lv_iconst (v := 2) hx hb d_M_changed_27 (by decide) ?_
        obtain ⟨r_28, mRof_28, mKnf_28, mNef_28, mSef_28, mVaf_28, mLaf_28, hcl, hf⟩ := fn_e7 hf
        refine cv_WrI (rest := []) (wr := []) (w' := [(md, .inr (6, [.int mdN, .int mdL, .ref mWh, .ref mTr, .ref mCo, .int mdS, .ref mWi, .ref mPc, .ref mIt, .int mdQ, .ref mRo, .ref mKn, .ref mNe, .ref mSe, .ref mVa, .ref mLa])), (mWh, .inl (cK 0, 400, .inl mWhf)), (mTr, .inl (cK 0, 400, .inl mTrf)), (mCo, .inl (cK 1, 400, .inl mCof)), (mWi, .inl (cK 0, 12, .inl mWif)), (mPc, .inl (cK 0, 12, .inl mPcf)), (mIt, .inl (cK 0, 108, .inl mItf)), (mRo, .inl (cK 2, 761856, .inr (.inl mRof_28))), (mKn, .inl (cK 1, 744, .inl mKnf_28)), (mNe, .inl (cK 2, 1024, .inr (.inl mNef_28))), (mSe, .inl (cK 1, 2048, .inl mSef_28)), (mVa, .inl (cK 0, 5, .inl mVaf_28)), (mLa, .inl (cK 0, 2048, .inl mLaf_28))]) ⟨hx, hb, hml, hown, hts⟩ (c_M_count l D cK md mWh mTr mCo mWi mPc mIt mRo mKn mNe mSe mVa mLa mdN mdL mdS mdQ mWhf mTrf mCof mWif mPcf mItf mRof mKnf mNef mSef mVaf mLaf N v1 v2 2 r_28 mRof_28 mKnf_28 mNef_28 mSef_28 mVaf_28 mLaf_28 hcl) (cwV 3 hts (zz_V ml_M_128 im_M_count se_M_count in_M co_M_count) rfl rfl rfl ⟨rfl, hd_M_count⟩ ⟨Nat.le_of_ble_eq_true rfl, Nat.le_of_ble_eq_true rfl⟩) hK hP hD hS hA [0, 1, 2, 3, 4, 5, 6, 7, 8, 9, 10, 11, 12] [] [0, 1, 2, 3, 4, 5, 6, 7, 8, 9, 10, 11, 12] rfl (by decide) rfl (by decide) (by decide) rfl (by decide) 0 rfl rfl rfl rfl hl.1 rfl (Nat.le_of_ble_eq_true rfl) d_M_changed_28 ⟨Nat.zero_le _, Nat.zero_le _⟩ (fun H locs hP hD hS => ?_)
        refine lv_goto (tgt := 35) hx hb d_M_changed_31 (by decide) ?_
        cases hf
        exact hret _ _ 35 _ hP hD hS rfl d_M_changed_35
      · have hf := fn_f hc hf
        refine lv_iconst (v := 1) hx hb d_M_changed_23 (by decide) ?_
        refine lv_goto (tgt := 28) hx hb d_M_changed_24 (by decide) ?_
        obtain ⟨r_28, mRof_28, mKnf_28, mNef_28, mSef_28, mVaf_28, mLaf_28, hcl, hf⟩ := fn_e7 hf
        refine cv_WrI (rest := []) (wr := []) (w' := [(md, .inr (6, [.int mdN, .int mdL, .ref mWh, .ref mTr, .ref mCo, .int mdS, .ref mWi, .ref mPc, .ref mIt, .int mdQ, .ref mRo, .ref mKn, .ref mNe, .ref mSe, .ref mVa, .ref mLa])), (mWh, .inl (cK 0, 400, .inl mWhf)), (mTr, .inl (cK 0, 400, .inl mTrf)), (mCo, .inl (cK 1, 400, .inl mCof)), (mWi, .inl (cK 0, 12, .inl mWif)), (mPc, .inl (cK 0, 12, .inl mPcf)), (mIt, .inl (cK 0, 108, .inl mItf)), (mRo, .inl (cK 2, 761856, .inr (.inl mRof_28))), (mKn, .inl (cK 1, 744, .inl mKnf_28)), (mNe, .inl (cK 2, 1024, .inr (.inl mNef_28))), (mSe, .inl (cK 1, 2048, .inl mSef_28)), (mVa, .inl (cK 0, 5, .inl mVaf_28)), (mLa, .inl (cK 0, 2048, .inl mLaf_28))]) ⟨hx, hb, hml, hown, hts⟩ (c_M_count l D cK md mWh mTr mCo mWi mPc mIt mRo mKn mNe mSe mVa mLa mdN mdL mdS mdQ mWhf mTrf mCof mWif mPcf mItf mRof mKnf mNef mSef mVaf mLaf N v1 v2 1 r_28 mRof_28 mKnf_28 mNef_28 mSef_28 mVaf_28 mLaf_28 hcl) (cwV 3 hts (zz_V ml_M_128 im_M_count se_M_count in_M co_M_count) rfl rfl rfl ⟨rfl, hd_M_count⟩ ⟨Nat.le_of_ble_eq_true rfl, Nat.le_of_ble_eq_true rfl⟩) hK hP hD hS hA [0, 1, 2, 3, 4, 5, 6, 7, 8, 9, 10, 11, 12] [] [0, 1, 2, 3, 4, 5, 6, 7, 8, 9, 10, 11, 12] rfl (by decide) rfl (by decide) (by decide) rfl (by decide) 0 rfl rfl rfl rfl hl.1 rfl (Nat.le_of_ble_eq_true rfl) d_M_changed_28 ⟨Nat.zero_le _, Nat.zero_le _⟩ (fun H locs hP hD hS => ?_)
        refine lv_goto (tgt := 35) hx hb d_M_changed_31 (by decide) ?_
        cases hf
        exact hret _ _ 35 _ hP hD hS rfl d_M_changed_35
abbrev rm_M_row : Room := { frames := 6, cells := 0, slots := 0, locals := 154 }
set_option maxHeartbeats 4000000 in
set_option maxRecDepth 100000 in
theorem c_M_row (l : Launch) (D : va_G) (cK : Nat → ClassId) (md mWh mTr mCo mWi mPc mIt mRo mKn mNe mSe mVa mLa : Nat) (mdN : Int32) (mdL : Int32) (mdS : Int32) (mdQ : Int32) (mWhf : Nat → Int32) (mTrf : Nat → Int32) (mCof : Nat → Int32) (mWif : Nat → Int32) (mPcf : Nat → Int32) (mItf : Nat → Int32) (mRof : Nat → Int64) (mKnf : Nat → Int32) (mNef : Nat → Int64) (mSef : Nat → Int32) (mVaf : Nat → Int32) (mLaf : Nat → Int32) (N : Nat) (v1 : Int32) (v2 : Int32) (v3 : Int32) (v4 : Int32) (r : Int32) (o_mRof : Nat → Int64) (o_mKnf : Nat → Int32) (o_mNef : Nat → Int64) (o_mSef : Nat → Int32) (o_mVaf : Nat → Int32) (o_mLaf : Nat → Int32) (hf : f_M_row N mdL mdS mdQ mWhf mTrf mCof mWif mPcf mItf mRof mKnf mNef mSef mVaf mLaf v1 v2 v3 v4 = some (r, o_mRof, o_mKnf, o_mNef, o_mSef, o_mVaf, o_mLaf)) : WrI l y_M_row w_M_row rm_M_row D zz_cl (mt_ty cK RK2) [.ref md, .int v1, .int v2, .int v3, .int v4] [(md, .inr (6, [.int mdN, .int mdL, .ref mWh, .ref mTr, .ref mCo, .int mdS, .ref mWi, .ref mPc, .ref mIt, .int mdQ, .ref mRo, .ref mKn, .ref mNe, .ref mSe, .ref mVa, .ref mLa])), (mWh, .inl (cK 0, 400, .inl mWhf)), (mTr, .inl (cK 0, 400, .inl mTrf)), (mCo, .inl (cK 1, 400, .inl mCof)), (mWi, .inl (cK 0, 12, .inl mWif)), (mPc, .inl (cK 0, 12, .inl mPcf)), (mIt, .inl (cK 0, 108, .inl mItf)), (mRo, .inl (cK 2, 761856, .inr (.inl mRof))), (mKn, .inl (cK 1, 744, .inl mKnf)), (mNe, .inl (cK 2, 1024, .inr (.inl mNef))), (mSe, .inl (cK 1, 2048, .inl mSef)), (mVa, .inl (cK 0, 5, .inl mVaf)), (mLa, .inl (cK 0, 2048, .inl mLaf))] [(md, .inr (6, [.int mdN, .int mdL, .ref mWh, .ref mTr, .ref mCo, .int mdS, .ref mWi, .ref mPc, .ref mIt, .int mdQ, .ref mRo, .ref mKn, .ref mNe, .ref mSe, .ref mVa, .ref mLa])), (mWh, .inl (cK 0, 400, .inl mWhf)), (mTr, .inl (cK 0, 400, .inl mTrf)), (mCo, .inl (cK 1, 400, .inl mCof)), (mWi, .inl (cK 0, 12, .inl mWif)), (mPc, .inl (cK 0, 12, .inl mPcf)), (mIt, .inl (cK 0, 108, .inl mItf)), (mRo, .inl (cK 2, 761856, .inr (.inl o_mRof))), (mKn, .inl (cK 1, 744, .inl o_mKnf)), (mNe, .inl (cK 2, 1024, .inr (.inl o_mNef))), (mSe, .inl (cK 1, 2048, .inl o_mSef)), (mVa, .inl (cK 0, 5, .inl o_mVaf)), (mLa, .inl (cK 0, 2048, .inl o_mLaf))] r := by
  refine mk_WrI (cc := b_M_row) (maxL := 10) (ty := .int) (by decide +kernel) rfl (Nat.le_of_ble_eq_true rfl) ?_
  intro p e s m below meth c args Q A ls hx hb hml hown hts hA hK hP hD hret hl
  have hS : va_S A s.heap s.heap [] := va_S.rf
  have hl : lv_has ls 10 [(0, .ref md), (1, .int v1), (2, .int v2), (3, .int v3), (4, .int v4)] := hl
  have J_34 : ∀ (v1 : Int32) (v2 : Int32) (v3 : Int32) (v4 : Int32) (n_34 : Nat) (mRof : Nat → Int64) (mKnf : Nat → Int32) (mNef : Nat → Int64) (mSef : Nat → Int32) (mVaf : Nat → Int32) (mLaf : Nat → Int32) (v5 : Int32) (v6 : Int32) (H : Heap) (locs : List Loc) (ls : Array Slot), f_M_row_34 N mdL mdS mdQ mWhf mTrf mCof mWif mPcf mItf v1 v2 v3 v4 n_34 mRof mKnf mNef mSef mVaf mLaf v5 v6 = some (r, o_mRof, o_mKnf, o_mNef, o_mSef, o_mVaf, o_mLaf) → va_P D zz_cl [(md, .inr (6, [.int mdN, .int mdL, .ref mWh, .ref mTr, .ref mCo, .int mdS, .ref mWi, .ref mPc, .ref mIt, .int mdQ, .ref mRo, .ref mKn, .ref mNe, .ref mSe, .ref mVa, .ref mLa])), (mWh, .inl (cK 0, 400, .inl mWhf)), (mTr, .inl (cK 0, 400, .inl mTrf)), (mCo, .inl (cK 1, 400, .inl mCof)), (mWi, .inl (cK 0, 12, .inl mWif)), (mPc, .inl (cK 0, 12, .inl mPcf)), (mIt, .inl (cK 0, 108, .inl mItf)), (mRo, .inl (cK 2, 761856, .inr (.inl mRof))), (mKn, .inl (cK 1, 744, .inl mKnf)), (mNe, .inl (cK 2, 1024, .inr (.inl mNef))), (mSe, .inl (cK 1, 2048, .inl mSef)), (mVa, .inl (cK 0, 5, .inl mVaf)), (mLa, .inl (cK 0, 2048, .inl mLaf))] H → va_D A [(md, .inr (6, [.int mdN, .int mdL, .ref mWh, .ref mTr, .ref mCo, .int mdS, .ref mWi, .ref mPc, .ref mIt, .int mdQ, .ref mRo, .ref mKn, .ref mNe, .ref mSe, .ref mVa, .ref mLa])), (mWh, .inl (cK 0, 400, .inl mWhf)), (mTr, .inl (cK 0, 400, .inl mTrf)), (mCo, .inl (cK 1, 400, .inl mCof)), (mWi, .inl (cK 0, 12, .inl mWif)), (mPc, .inl (cK 0, 12, .inl mPcf)), (mIt, .inl (cK 0, 108, .inl mItf)), (mRo, .inl (cK 2, 761856, .inr (.inl mRof))), (mKn, .inl (cK 1, 744, .inl mKnf)), (mNe, .inl (cK 2, 1024, .inr (.inl mNef))), (mSe, .inl (cK 1, 2048, .inl mSef)), (mVa, .inl (cK 0, 5, .inl mVaf)), (mLa, .inl (cK 0, 2048, .inl mLaf))] → va_S A s.heap H locs → lv_has ls 10 [(0, .ref md), (1, .int v1), (2, .int v2), (3, .int v3), (4, .int v4), (5, .int v5), (6, .int v6)] → W p l e rm_M_row s m args below meth c H locs 0 0 Q (F0 m 34 ls []) := by
    intro v1 v2 v3 v4 n_34
    induction n_34 with
    | zero =>
      intro mRof mKnf mNef mSef mVaf mLaf v5 v6 H locs ls hf hP hD hS hl
      exact fn_0 hf
    | succ n_34 ih_34 =>
      have J_61 : ∀ (v6 : Int32) (v7 : Int64) (n_61 : Nat) (mRof : Nat → Int64) (mKnf : Nat → Int32) (mNef : Nat → Int64) (mSef : Nat → Int32) (mVaf : Nat → Int32) (mLaf : Nat → Int32) (v5 : Int32) (v9 : Int32) (H : Heap) (locs : List Loc) (ls : Array Slot), f_M_row_61 N mdL mdS mdQ mWhf mTrf mCof mWif mPcf mItf (f_M_row_34 N mdL mdS mdQ mWhf mTrf mCof mWif mPcf mItf v1 v2 v3 v4 n_34) v1 v2 v3 v4 v6 v7 n_61 mRof mKnf mNef mSef mVaf mLaf v5 v9 = some (r, o_mRof, o_mKnf, o_mNef, o_mSef, o_mVaf, o_mLaf) → va_P D zz_cl [(md, .inr (6, [.int mdN, .int mdL, .ref mWh, .ref mTr, .ref mCo, .int mdS, .ref mWi, .ref mPc, .ref mIt, .int mdQ, .ref mRo, .ref mKn, .ref mNe, .ref mSe, .ref mVa, .ref mLa])), (mWh, .inl (cK 0, 400, .inl mWhf)), (mTr, .inl (cK 0, 400, .inl mTrf)), (mCo, .inl (cK 1, 400, .inl mCof)), (mWi, .inl (cK 0, 12, .inl mWif)), (mPc, .inl (cK 0, 12, .inl mPcf)), (mIt, .inl (cK 0, 108, .inl mItf)), (mRo, .inl (cK 2, 761856, .inr (.inl mRof))), (mKn, .inl (cK 1, 744, .inl mKnf)), (mNe, .inl (cK 2, 1024, .inr (.inl mNef))), (mSe, .inl (cK 1, 2048, .inl mSef)), (mVa, .inl (cK 0, 5, .inl mVaf)), (mLa, .inl (cK 0, 2048, .inl mLaf))] H → va_D A [(md, .inr (6, [.int mdN, .int mdL, .ref mWh, .ref mTr, .ref mCo, .int mdS, .ref mWi, .ref mPc, .ref mIt, .int mdQ, .ref mRo, .ref mKn, .ref mNe, .ref mSe, .ref mVa, .ref mLa])), (mWh, .inl (cK 0, 400, .inl mWhf)), (mTr, .inl (cK 0, 400, .inl mTrf)), (mCo, .inl (cK 1, 400, .inl mCof)), (mWi, .inl (cK 0, 12, .inl mWif)), (mPc, .inl (cK 0, 12, .inl mPcf)), (mIt, .inl (cK 0, 108, .inl mItf)), (mRo, .inl (cK 2, 761856, .inr (.inl mRof))), (mKn, .inl (cK 1, 744, .inl mKnf)), (mNe, .inl (cK 2, 1024, .inr (.inl mNef))), (mSe, .inl (cK 1, 2048, .inl mSef)), (mVa, .inl (cK 0, 5, .inl mVaf)), (mLa, .inl (cK 0, 2048, .inl mLaf))] → va_S A s.heap H locs → lv_has ls 10 [(0, .ref md), (1, .int v1), (2, .int v2), (3, .int v3), (4, .int v4), (5, .int v5), (6, .int v6), (7, .long v7), (9, .int v9)] → W p l e rm_M_row s m args below meth c H locs 0 0 Q (F0 m 61 ls []) := by
        intro v6 v7 n_61
        induction n_61 with
        | zero =>
          intro mRof mKnf mNef mSef mVaf mLaf v5 v9 H locs ls hf hP hD hS hl
          exact fn_0 hf
        | succ n_61 ih_61 =>
          intro mRof mKnf mNef mSef mVaf mLaf v5 v9 H locs ls hf hP hD hS hl
          rw [f_M_row_61.eq_2] at hf
          refine lv_iload hx hb d_M_row_61 (lv_at hl 8 rfl) ?_
          refine lv_bipush (v := 64) hx hb d_M_row_63 (by decide) ?_
          refine lv_icmp_ge (tgt := 113) hx hb d_M_row_65 (by decide) (fun hc => ?_) (fun hc => ?_)
          · have hf := fn_t hc hf
            refine lv_iinc (v := (v6 + 1)) (lv' := [(6, .int (v6 + 1)), (0, .ref md), (1, .int v1), (2, .int v2), (3, .int v3), (4, .int v4), (5, .int v5), (7, .long v7), (9, .int v9)]) hx hb d_M_row_113 hl (k := 6) rfl rfl (by decide) rfl (fun ls hl => ?_)
            refine lv_goto (tgt := 34) hx hb d_M_row_116 (by decide) ?_
            exact ih_34 _ _ _ _ _ _ _ _ _ _ _ hf hP hD hS (lv_sub hl [1, 2, 3, 4, 5, 6, 0] rfl)
          · have hf := fn_f hc hf
            refine lv_lload hx hb d_M_row_68 (lv_at hl 7 rfl) ?_
            refine lv_lconst (v := 0) hx hb d_M_row_70 (by decide) ?_
            refine W.lcmp hx hb d_M_row_71 ?_
            refine lv_if_eq (tgt := 113) hx hb d_M_row_72 (by decide) (fun hc => ?_) (fun hc => ?_)
            · have hf := fn_t hc hf
              refine lv_iinc (v := (v6 + 1)) (lv' := [(6, .int (v6 + 1)), (0, .ref md), (1, .int v1), (2, .int v2), (3, .int v3), (4, .int v4), (5, .int v5), (7, .long v7), (9, .int v9)]) hx hb d_M_row_113 hl (k := 6) rfl rfl (by decide) rfl (fun ls hl => ?_)
              refine lv_goto (tgt := 34) hx hb d_M_row_116 (by decide) ?_
              exact ih_34 _ _ _ _ _ _ _ _ _ _ _ hf hP hD hS (lv_sub hl [1, 2, 3, 4, 5, 6, 0] rfl)
            · have hf := fn_f hc hf
              refine lv_lload hx hb d_M_row_75 (lv_at hl 7 rfl) ?_
              refine lv_iload hx hb d_M_row_77 (lv_at hl 8 rfl) ?_
              refine lv_lshr hx hb d_M_row_79 rfl ?_
              refine lv_lconst (v := 1) hx hb d_M_row_80 (by decide) ?_
              refine lv_land hx hb d_M_row_81 ?_
              refine lv_lconst (v := 0) hx hb d_M_row_82 (by decide) ?_
              refine W.lcmp hx hb d_M_row_83 ?_
              refine lv_if_ne (tgt := 90) hx hb d_M_row_84 (by decide) (fun hc => ?_) (fun hc => ?_)
              · have hf := fn_f hc hf
                refine lv_iload hx hb d_M_row_90 (lv_at hl 5 rfl) ?_
                refine lv_if_ne (tgt := 104) hx hb d_M_row_92 (by decide) (fun hc => ?_) (fun hc => ?_)
                · have hf := fn_f hc hf
                  refine lv_iinc (v := (v5 + (-1))) (lv' := [(5, .int (v5 + (-1))), (0, .ref md), (1, .int v1), (2, .int v2), (3, .int v3), (4, .int v4), (6, .int v6), (7, .long v7), (9, .int v9)]) hx hb d_M_row_104 hl (k := 5) rfl rfl (by decide) rfl (fun ls hl => ?_)
                  refine lv_iinc (v := (v9 + 1)) (lv' := [(9, .int (v9 + 1)), (5, .int (v5 + (-1))), (0, .ref md), (1, .int v1), (2, .int v2), (3, .int v3), (4, .int v4), (6, .int v6), (7, .long v7)]) hx hb d_M_row_107 hl (k := 8) rfl rfl (by decide) rfl (fun ls hl => ?_)
                  refine lv_goto (tgt := 61) hx hb d_M_row_110 (by decide) ?_
                  exact ih_61 _ _ _ _ _ _ _ _ _ _ _ hf hP hD hS (lv_sub hl [2, 3, 4, 5, 6, 1, 7, 8, 0] rfl)
                · have hf := fn_t hc hf
                  refine lv_bipush (v := 64) hx hb d_M_row_95 (by decide) ?_
                  refine lv_iload hx hb d_M_row_97 (lv_at hl 6 rfl) ?_
                  refine lv_imul hx hb d_M_row_99 ?_
                  refine lv_iload hx hb d_M_row_100 (lv_at hl 8 rfl) ?_
                  refine lv_iadd hx hb d_M_row_102 ?_
                  cases hf
                  exact hret _ _ 103 _ hP hD hS rfl d_M_row_103
              · have hf := fn_t hc hf
                refine lv_goto (tgt := 107) hx hb d_M_row_87 (by decide) ?_
                refine lv_iinc (v := (v9 + 1)) (lv' := [(9, .int (v9 + 1)), (0, .ref md), (1, .int v1), (2, .int v2), (3, .int v3), (4, .int v4), (5, .int v5), (6, .int v6), (7, .long v7)]) hx hb d_M_row_107 hl (k := 8) rfl rfl (by decide) rfl (fun ls hl => ?_)
                refine lv_goto (tgt := 61) hx hb d_M_row_110 (by decide) ?_
                exact ih_61 _ _ _ _ _ _ _ _ _ _ _ hf hP hD hS (lv_sub hl [1, 2, 3, 4, 5, 6, 7, 8, 0] rfl)
      intro mRof mKnf mNef mSef mVaf mLaf v5 v6 H locs ls hf hP hD hS hl
      rw [f_M_row_34.eq_2] at hf
      refine lv_iload hx hb d_M_row_34 (lv_at hl 6 rfl) ?_
      refine lv_sipush (v := 1024) hx hb d_M_row_36 (by decide) ?_
      refine lv_icmp_ge (tgt := 119) hx hb d_M_row_39 (by decide) (fun hc => ?_) (fun hc => ?_)
      · have hf := fn_t hc hf
        refine lv_bipush (v := (-2)) hx hb d_M_row_119 (by decide) ?_
        cases hf
        exact hret _ _ 121 _ hP hD hS rfl d_M_row_121
      · have hf := fn_f hc hf
        refine lv_iload hx hb d_M_row_42 (lv_at hl 4 rfl) ?_
        refine lv_if_lt (tgt := 119) hx hb d_M_row_44 (by decide) (fun hc => ?_) (fun hc => ?_)
        · have hf := fn_t hc hf
          refine lv_bipush (v := (-2)) hx hb d_M_row_119 (by decide) ?_
          cases hf
          exact hret _ _ 121 _ hP hD hS rfl d_M_row_121
        · have hf := fn_f hc hf
          refine lv_aload_n hx hb d_M_row_47 rfl (lv_at hl 0 rfl) ?_
          refine lv_iload_n hx hb d_M_row_48 rfl (lv_at hl 1 rfl) ?_
          refine lv_iload_n hx hb d_M_row_49 rfl (lv_at hl 2 rfl) ?_
          refine lv_iload_n hx hb d_M_row_50 rfl (lv_at hl 3 rfl) ?_
          refine lv_iload hx hb d_M_row_51 (lv_at hl 6 rfl) ?_
          obtain ⟨r_53, mRof_53, mKnf_53, mNef_53, mSef_53, mVaf_53, mLaf_53, hcl, hf⟩ := fn_e7 hf
          refine cv_WrL (rest := []) (wr := []) (w' := [(md, .inr (6, [.int mdN, .int mdL, .ref mWh, .ref mTr, .ref mCo, .int mdS, .ref mWi, .ref mPc, .ref mIt, .int mdQ, .ref mRo, .ref mKn, .ref mNe, .ref mSe, .ref mVa, .ref mLa])), (mWh, .inl (cK 0, 400, .inl mWhf)), (mTr, .inl (cK 0, 400, .inl mTrf)), (mCo, .inl (cK 1, 400, .inl mCof)), (mWi, .inl (cK 0, 12, .inl mWif)), (mPc, .inl (cK 0, 12, .inl mPcf)), (mIt, .inl (cK 0, 108, .inl mItf)), (mRo, .inl (cK 2, 761856, .inr (.inl mRof_53))), (mKn, .inl (cK 1, 744, .inl mKnf_53)), (mNe, .inl (cK 2, 1024, .inr (.inl mNef_53))), (mSe, .inl (cK 1, 2048, .inl mSef_53)), (mVa, .inl (cK 0, 5, .inl mVaf_53)), (mLa, .inl (cK 0, 2048, .inl mLaf_53))]) ⟨hx, hb, hml, hown, hts⟩ (c_M_bits l D cK md mWh mTr mCo mWi mPc mIt mRo mKn mNe mSe mVa mLa mdN mdL mdS mdQ mWhf mTrf mCof mWif mPcf mItf mRof mKnf mNef mSef mVaf mLaf N v1 v2 v3 v6 r_53 mRof_53 mKnf_53 mNef_53 mSef_53 mVaf_53 mLaf_53 hcl) (cwV 4 hts (zz_V ml_M_124 im_M_bits se_M_bits in_M co_M_bits) rfl rfl rfl ⟨rfl, hd_M_bits⟩ ⟨Nat.le_of_ble_eq_true rfl, Nat.le_of_ble_eq_true rfl⟩) hK hP hD hS hA [0, 1, 2, 3, 4, 5, 6, 7, 8, 9, 10, 11, 12] [] [0, 1, 2, 3, 4, 5, 6, 7, 8, 9, 10, 11, 12] rfl (by decide) rfl (by decide) (by decide) rfl (by decide) 0 rfl rfl rfl rfl hl.1 rfl (Nat.le_of_ble_eq_true rfl) d_M_row_53 ⟨Nat.zero_le _, Nat.zero_le _⟩ (fun H locs hP hD hS => ?_)
          refine lv_lstore (lv' := [(7, .long r_53), (0, .ref md), (1, .int v1), (2, .int v2), (3, .int v3), (4, .int v4), (5, .int v5), (6, .int v6)]) hx hb d_M_row_56 hl (by decide) rfl (fun ls hl => ?_)
          refine lv_iconst (v := 0) hx hb d_M_row_58 (by decide) ?_
          refine lv_istore (lv' := [(9, .int 0), (7, .long r_53), (0, .ref md), (1, .int v1), (2, .int v2), (3, .int v3), (4, .int v4), (5, .int v5), (6, .int v6)]) hx hb d_M_row_59 hl (by decide) rfl (fun ls hl => ?_)
          exact J_61 _ _ _ _ _ _ _ _ _ _ _ _ _ _ hf hP hD hS (lv_sub hl [2, 3, 4, 5, 6, 7, 8, 1, 0] rfl)
  unfold f_M_row at hf
  refine lv_aload_n hx hb d_M_row_0 rfl (lv_at hl 0 rfl) ?_
  refine lv_iload_n hx hb d_M_row_1 rfl (lv_at hl 1 rfl) ?_
  obtain ⟨r_2, hcl, hf⟩ := fn_e1 hf
  refine cv_RdI (rest := []) ⟨hx, hb, hml, hown, hts⟩ (c_M_isQuestion l D cK md mWh mTr mCo mWi mPc mIt mRo mKn mNe mSe mVa mLa mdN mdL mdS mdQ v1 r_2 hcl) (cwV 1 hts (zz_V ml_M_90 im_M_isQuestion se_M_isQuestion in_M co_M_isQuestion) rfl rfl rfl ⟨rfl, hd_M_isQuestion⟩ ⟨Nat.le_of_ble_eq_true rfl, Nat.le_of_ble_eq_true rfl⟩) hK hP [0] rfl 0 rfl rfl rfl rfl hl.1 rfl (Nat.le_of_ble_eq_true rfl) d_M_row_2 ⟨Nat.zero_le _, Nat.zero_le _⟩ ?_
  refine lv_if_eq (tgt := 25) hx hb d_M_row_5 (by decide) (fun hc => ?_) (fun hc => ?_)
  · have hf := fn_t hc hf
    refine lv_iconst (v := (-1)) hx hb d_M_row_25 (by decide) ?_
    cases hf
    exact hret _ _ 26 _ hP hD hS rfl d_M_row_26
  · have hf := fn_f hc hf
    refine lv_aload_n hx hb d_M_row_8 rfl (lv_at hl 0 rfl) ?_
    refine lv_iload_n hx hb d_M_row_9 rfl (lv_at hl 2 rfl) ?_
    obtain ⟨r_10, hcl, hf⟩ := fn_e1 hf
    refine cv_RdI (rest := []) ⟨hx, hb, hml, hown, hts⟩ (c_M_isNumber l D cK md mWh mTr mCo mWi mPc mIt mRo mKn mNe mSe mVa mLa mdN mdL mdS mdQ v2 r_10 hcl) (cwV 1 hts (zz_V ml_M_86 im_M_isNumber se_M_isNumber in_M co_M_isNumber) rfl rfl rfl ⟨rfl, hd_M_isNumber⟩ ⟨Nat.le_of_ble_eq_true rfl, Nat.le_of_ble_eq_true rfl⟩) hK hP [0] rfl 0 rfl rfl rfl rfl hl.1 rfl (Nat.le_of_ble_eq_true rfl) d_M_row_10 ⟨Nat.zero_le _, Nat.zero_le _⟩ ?_
    refine lv_if_eq (tgt := 25) hx hb d_M_row_13 (by decide) (fun hc => ?_) (fun hc => ?_)
    · have hf := fn_t hc hf
      refine lv_iconst (v := (-1)) hx hb d_M_row_25 (by decide) ?_
      cases hf
      exact hret _ _ 26 _ hP hD hS rfl d_M_row_26
    · have hf := fn_f hc hf
      refine lv_iload_n hx hb d_M_row_16 rfl (lv_at hl 3 rfl) ?_
      refine lv_if_lt (tgt := 25) hx hb d_M_row_17 (by decide) (fun hc => ?_) (fun hc => ?_)
      · have hf := fn_t hc hf
        refine lv_iconst (v := (-1)) hx hb d_M_row_25 (by decide) ?_
        cases hf
        exact hret _ _ 26 _ hP hD hS rfl d_M_row_26
      · have hf := fn_f hc hf
        refine lv_iload_n hx hb d_M_row_20 rfl (lv_at hl 3 rfl) ?_
        refine lv_iconst (v := 2) hx hb d_M_row_21 (by decide) ?_
        refine lv_icmp_le (tgt := 27) hx hb d_M_row_22 (by decide) (fun hc => ?_) (fun hc => ?_)
        · have hf := fn_t hc hf
          refine lv_iload hx hb d_M_row_27 (lv_at hl 4 rfl) ?_
          refine lv_istore (lv' := [(5, .int v4), (0, .ref md), (1, .int v1), (2, .int v2), (3, .int v3), (4, .int v4)]) hx hb d_M_row_29 hl (by decide) rfl (fun ls hl => ?_)
          refine lv_iconst (v := 0) hx hb d_M_row_31 (by decide) ?_
          refine lv_istore (lv' := [(6, .int 0), (5, .int v4), (0, .ref md), (1, .int v1), (2, .int v2), (3, .int v3), (4, .int v4)]) hx hb d_M_row_32 hl (by decide) rfl (fun ls hl => ?_)
          exact J_34 _ _ _ _ _ _ _ _ _ _ _ _ _ _ _ _ hf hP hD hS (lv_sub hl [2, 3, 4, 5, 6, 1, 0] rfl)
        · have hf := fn_f hc hf
          refine lv_iconst (v := (-1)) hx hb d_M_row_25 (by decide) ?_
          cases hf
          exact hret _ _ 26 _ hP hD hS rfl d_M_row_26
abbrev rm_M_aggregate : Room := { frames := 6, cells := 0, slots := 0, locals := 154 }
set_option maxHeartbeats 4000000 in
set_option maxRecDepth 100000 in
theorem c_M_aggregate (l : Launch) (D : va_G) (cK : Nat → ClassId) (md mWh mTr mCo mWi mPc mIt mRo mKn mNe mSe mVa mLa : Nat) (mdN : Int32) (mdL : Int32) (mdS : Int32) (mdQ : Int32) (mWhf : Nat → Int32) (mTrf : Nat → Int32) (mCof : Nat → Int32) (mWif : Nat → Int32) (mPcf : Nat → Int32) (mItf : Nat → Int32) (mRof : Nat → Int64) (mKnf : Nat → Int32) (mNef : Nat → Int64) (mSef : Nat → Int32) (mVaf : Nat → Int32) (mLaf : Nat → Int32) (N : Nat) (v1 : Int32) (v2 : Int32) (v3 : Int32) (v4 : Int32) (r : Int32) (o_mRof : Nat → Int64) (o_mKnf : Nat → Int32) (o_mNef : Nat → Int64) (o_mSef : Nat → Int32) (o_mVaf : Nat → Int32) (o_mLaf : Nat → Int32) (hf : f_M_aggregate N mdL mdS mdQ mWhf mTrf mCof mWif mPcf mItf mRof mKnf mNef mSef mVaf mLaf v1 v2 v3 v4 = some (r, o_mRof, o_mKnf, o_mNef, o_mSef, o_mVaf, o_mLaf)) : WrI l y_M_aggregate w_M_aggregate rm_M_aggregate D zz_cl (mt_ty cK RK2) [.ref md, .int v1, .int v2, .int v3, .int v4] [(md, .inr (6, [.int mdN, .int mdL, .ref mWh, .ref mTr, .ref mCo, .int mdS, .ref mWi, .ref mPc, .ref mIt, .int mdQ, .ref mRo, .ref mKn, .ref mNe, .ref mSe, .ref mVa, .ref mLa])), (mWh, .inl (cK 0, 400, .inl mWhf)), (mTr, .inl (cK 0, 400, .inl mTrf)), (mCo, .inl (cK 1, 400, .inl mCof)), (mWi, .inl (cK 0, 12, .inl mWif)), (mPc, .inl (cK 0, 12, .inl mPcf)), (mIt, .inl (cK 0, 108, .inl mItf)), (mRo, .inl (cK 2, 761856, .inr (.inl mRof))), (mKn, .inl (cK 1, 744, .inl mKnf)), (mNe, .inl (cK 2, 1024, .inr (.inl mNef))), (mSe, .inl (cK 1, 2048, .inl mSef)), (mVa, .inl (cK 0, 5, .inl mVaf)), (mLa, .inl (cK 0, 2048, .inl mLaf))] [(md, .inr (6, [.int mdN, .int mdL, .ref mWh, .ref mTr, .ref mCo, .int mdS, .ref mWi, .ref mPc, .ref mIt, .int mdQ, .ref mRo, .ref mKn, .ref mNe, .ref mSe, .ref mVa, .ref mLa])), (mWh, .inl (cK 0, 400, .inl mWhf)), (mTr, .inl (cK 0, 400, .inl mTrf)), (mCo, .inl (cK 1, 400, .inl mCof)), (mWi, .inl (cK 0, 12, .inl mWif)), (mPc, .inl (cK 0, 12, .inl mPcf)), (mIt, .inl (cK 0, 108, .inl mItf)), (mRo, .inl (cK 2, 761856, .inr (.inl o_mRof))), (mKn, .inl (cK 1, 744, .inl o_mKnf)), (mNe, .inl (cK 2, 1024, .inr (.inl o_mNef))), (mSe, .inl (cK 1, 2048, .inl o_mSef)), (mVa, .inl (cK 0, 5, .inl o_mVaf)), (mLa, .inl (cK 0, 2048, .inl o_mLaf))] r := by
  refine mk_WrI (cc := b_M_aggregate) (maxL := 13) (ty := .int) (by decide +kernel) rfl (Nat.le_of_ble_eq_true rfl) ?_
  intro p e s m below meth c args Q A ls hx hb hml hown hts hA hK hP hD hret hl
  have hS : va_S A s.heap s.heap [] := va_S.rf
  have hl : lv_has ls 13 [(0, .ref md), (1, .int v1), (2, .int v2), (3, .int v3), (4, .int v4)] := hl
  have J_175 : ∀ (mRof : Nat → Int64) (mKnf : Nat → Int32) (mNef : Nat → Int64) (mSef : Nat → Int32) (mVaf : Nat → Int32) (mLaf : Nat → Int32) (v3 : Int32) (v5 : Int32) (v6 : Int32) (v7 : Int32) (H : Heap) (locs : List Loc) (ls : Array Slot), f_M_aggregate_175 N mdL mdS mdQ mWhf mTrf mCof mWif mPcf mItf mRof mKnf mNef mSef mVaf mLaf v3 v5 v6 v7 = some (r, o_mRof, o_mKnf, o_mNef, o_mSef, o_mVaf, o_mLaf) → va_P D zz_cl [(md, .inr (6, [.int mdN, .int mdL, .ref mWh, .ref mTr, .ref mCo, .int mdS, .ref mWi, .ref mPc, .ref mIt, .int mdQ, .ref mRo, .ref mKn, .ref mNe, .ref mSe, .ref mVa, .ref mLa])), (mWh, .inl (cK 0, 400, .inl mWhf)), (mTr, .inl (cK 0, 400, .inl mTrf)), (mCo, .inl (cK 1, 400, .inl mCof)), (mWi, .inl (cK 0, 12, .inl mWif)), (mPc, .inl (cK 0, 12, .inl mPcf)), (mIt, .inl (cK 0, 108, .inl mItf)), (mRo, .inl (cK 2, 761856, .inr (.inl mRof))), (mKn, .inl (cK 1, 744, .inl mKnf)), (mNe, .inl (cK 2, 1024, .inr (.inl mNef))), (mSe, .inl (cK 1, 2048, .inl mSef)), (mVa, .inl (cK 0, 5, .inl mVaf)), (mLa, .inl (cK 0, 2048, .inl mLaf))] H → va_D A [(md, .inr (6, [.int mdN, .int mdL, .ref mWh, .ref mTr, .ref mCo, .int mdS, .ref mWi, .ref mPc, .ref mIt, .int mdQ, .ref mRo, .ref mKn, .ref mNe, .ref mSe, .ref mVa, .ref mLa])), (mWh, .inl (cK 0, 400, .inl mWhf)), (mTr, .inl (cK 0, 400, .inl mTrf)), (mCo, .inl (cK 1, 400, .inl mCof)), (mWi, .inl (cK 0, 12, .inl mWif)), (mPc, .inl (cK 0, 12, .inl mPcf)), (mIt, .inl (cK 0, 108, .inl mItf)), (mRo, .inl (cK 2, 761856, .inr (.inl mRof))), (mKn, .inl (cK 1, 744, .inl mKnf)), (mNe, .inl (cK 2, 1024, .inr (.inl mNef))), (mSe, .inl (cK 1, 2048, .inl mSef)), (mVa, .inl (cK 0, 5, .inl mVaf)), (mLa, .inl (cK 0, 2048, .inl mLaf))] → va_S A s.heap H locs → lv_has ls 13 [(3, .int v3), (5, .int v5), (6, .int v6), (7, .int v7)] → W p l e rm_M_aggregate s m args below meth c H locs 0 0 Q (F0 m 175 ls []) := by
    intro mRof mKnf mNef mSef mVaf mLaf v3 v5 v6 v7 H locs ls hf hP hD hS hl
    unfold f_M_aggregate_175 at hf
    refine lv_iload_n hx hb d_M_aggregate_175 rfl (lv_at hl 0 rfl) ?_
    refine lv_if_ne (tgt := 184) hx hb d_M_aggregate_176 (by decide) (fun hc => ?_) (fun hc => ?_)
    · have hf := fn_f hc hf
      refine lv_iload hx hb d_M_aggregate_184 (lv_at hl 3 rfl) ?_
      refine lv_if_ge (tgt := 194) hx hb d_M_aggregate_186 (by decide) (fun hc => ?_) (fun hc => ?_)
      · have hf := fn_t hc hf
        refine lv_iload_n hx hb d_M_aggregate_194 rfl (lv_at hl 0 rfl) ?_
        refine lv_iconst (v := 1) hx hb d_M_aggregate_195 (by decide) ?_
        refine lv_icmp_ne (tgt := 204) hx hb d_M_aggregate_196 (by decide) (fun hc => ?_) (fun hc => ?_)
        · have hf := fn_f hc hf
          refine lv_iload hx hb d_M_aggregate_204 (lv_at hl 3 rfl) ?_
          cases hf
          exact hret _ _ 206 _ hP hD hS rfl d_M_aggregate_206
        · have hf := fn_t hc hf
          refine lv_iload hx hb d_M_aggregate_199 (lv_at hl 2 rfl) ?_
          refine lv_goto (tgt := 206) hx hb d_M_aggregate_201 (by decide) ?_
          cases hf
          exact hret _ _ 206 _ hP hD hS rfl d_M_aggregate_206
      · have hf := fn_f hc hf
        refine lv_bipush (v := (-2)) hx hb d_M_aggregate_189 (by decide) ?_
        refine lv_goto (tgt := 206) hx hb d_M_aggregate_191 (by decide) ?_
        cases hf
        exact hret _ _ 206 _ hP hD hS rfl d_M_aggregate_206
    · have hf := fn_t hc hf
      refine lv_iload hx hb d_M_aggregate_179 (lv_at hl 1 rfl) ?_
      refine lv_goto (tgt := 206) hx hb d_M_aggregate_181 (by decide) ?_
      cases hf
      exact hret _ _ 206 _ hP hD hS rfl d_M_aggregate_206
  have J_52 : ∀ (v1 : Int32) (v2 : Int32) (v3 : Int32) (v4 : Int32) (n_52 : Nat) (mRof : Nat → Int64) (mKnf : Nat → Int32) (mNef : Nat → Int64) (mSef : Nat → Int32) (mVaf : Nat → Int32) (mLaf : Nat → Int32) (v5 : Int32) (v6 : Int32) (v7 : Int32) (v8 : Int32) (H : Heap) (locs : List Loc) (ls : Array Slot), f_M_aggregate_52 N mdL mdS mdQ mWhf mTrf mCof mWif mPcf mItf v1 v2 v3 v4 n_52 mRof mKnf mNef mSef mVaf mLaf v5 v6 v7 v8 = some (r, o_mRof, o_mKnf, o_mNef, o_mSef, o_mVaf, o_mLaf) → va_P D zz_cl [(md, .inr (6, [.int mdN, .int mdL, .ref mWh, .ref mTr, .ref mCo, .int mdS, .ref mWi, .ref mPc, .ref mIt, .int mdQ, .ref mRo, .ref mKn, .ref mNe, .ref mSe, .ref mVa, .ref mLa])), (mWh, .inl (cK 0, 400, .inl mWhf)), (mTr, .inl (cK 0, 400, .inl mTrf)), (mCo, .inl (cK 1, 400, .inl mCof)), (mWi, .inl (cK 0, 12, .inl mWif)), (mPc, .inl (cK 0, 12, .inl mPcf)), (mIt, .inl (cK 0, 108, .inl mItf)), (mRo, .inl (cK 2, 761856, .inr (.inl mRof))), (mKn, .inl (cK 1, 744, .inl mKnf)), (mNe, .inl (cK 2, 1024, .inr (.inl mNef))), (mSe, .inl (cK 1, 2048, .inl mSef)), (mVa, .inl (cK 0, 5, .inl mVaf)), (mLa, .inl (cK 0, 2048, .inl mLaf))] H → va_D A [(md, .inr (6, [.int mdN, .int mdL, .ref mWh, .ref mTr, .ref mCo, .int mdS, .ref mWi, .ref mPc, .ref mIt, .int mdQ, .ref mRo, .ref mKn, .ref mNe, .ref mSe, .ref mVa, .ref mLa])), (mWh, .inl (cK 0, 400, .inl mWhf)), (mTr, .inl (cK 0, 400, .inl mTrf)), (mCo, .inl (cK 1, 400, .inl mCof)), (mWi, .inl (cK 0, 12, .inl mWif)), (mPc, .inl (cK 0, 12, .inl mPcf)), (mIt, .inl (cK 0, 108, .inl mItf)), (mRo, .inl (cK 2, 761856, .inr (.inl mRof))), (mKn, .inl (cK 1, 744, .inl mKnf)), (mNe, .inl (cK 2, 1024, .inr (.inl mNef))), (mSe, .inl (cK 1, 2048, .inl mSef)), (mVa, .inl (cK 0, 5, .inl mVaf)), (mLa, .inl (cK 0, 2048, .inl mLaf))] → va_S A s.heap H locs → lv_has ls 13 [(0, .ref md), (1, .int v1), (2, .int v2), (3, .int v3), (4, .int v4), (5, .int v5), (6, .int v6), (7, .int v7), (8, .int v8)] → W p l e rm_M_aggregate s m args below meth c H locs 0 0 Q (F0 m 52 ls []) := by
    intro v1 v2 v3 v4 n_52
    induction n_52 with
    | zero =>
      intro mRof mKnf mNef mSef mVaf mLaf v5 v6 v7 v8 H locs ls hf hP hD hS hl
      exact fn_0 hf
    | succ n_52 ih_52 =>
      have J_74 : ∀ (v8 : Int32) (v9 : Int64) (n_74 : Nat) (mRof : Nat → Int64) (mKnf : Nat → Int32) (mNef : Nat → Int64) (mSef : Nat → Int32) (mVaf : Nat → Int32) (mLaf : Nat → Int32) (v5 : Int32) (v6 : Int32) (v7 : Int32) (v11 : Int32) (H : Heap) (locs : List Loc) (ls : Array Slot), f_M_aggregate_74 N mdL mdS mdQ mWhf mTrf mCof mWif mPcf mItf (f_M_aggregate_52 N mdL mdS mdQ mWhf mTrf mCof mWif mPcf mItf v1 v2 v3 v4 n_52) v1 v2 v3 v4 v8 v9 n_74 mRof mKnf mNef mSef mVaf mLaf v5 v6 v7 v11 = some (r, o_mRof, o_mKnf, o_mNef, o_mSef, o_mVaf, o_mLaf) → va_P D zz_cl [(md, .inr (6, [.int mdN, .int mdL, .ref mWh, .ref mTr, .ref mCo, .int mdS, .ref mWi, .ref mPc, .ref mIt, .int mdQ, .ref mRo, .ref mKn, .ref mNe, .ref mSe, .ref mVa, .ref mLa])), (mWh, .inl (cK 0, 400, .inl mWhf)), (mTr, .inl (cK 0, 400, .inl mTrf)), (mCo, .inl (cK 1, 400, .inl mCof)), (mWi, .inl (cK 0, 12, .inl mWif)), (mPc, .inl (cK 0, 12, .inl mPcf)), (mIt, .inl (cK 0, 108, .inl mItf)), (mRo, .inl (cK 2, 761856, .inr (.inl mRof))), (mKn, .inl (cK 1, 744, .inl mKnf)), (mNe, .inl (cK 2, 1024, .inr (.inl mNef))), (mSe, .inl (cK 1, 2048, .inl mSef)), (mVa, .inl (cK 0, 5, .inl mVaf)), (mLa, .inl (cK 0, 2048, .inl mLaf))] H → va_D A [(md, .inr (6, [.int mdN, .int mdL, .ref mWh, .ref mTr, .ref mCo, .int mdS, .ref mWi, .ref mPc, .ref mIt, .int mdQ, .ref mRo, .ref mKn, .ref mNe, .ref mSe, .ref mVa, .ref mLa])), (mWh, .inl (cK 0, 400, .inl mWhf)), (mTr, .inl (cK 0, 400, .inl mTrf)), (mCo, .inl (cK 1, 400, .inl mCof)), (mWi, .inl (cK 0, 12, .inl mWif)), (mPc, .inl (cK 0, 12, .inl mPcf)), (mIt, .inl (cK 0, 108, .inl mItf)), (mRo, .inl (cK 2, 761856, .inr (.inl mRof))), (mKn, .inl (cK 1, 744, .inl mKnf)), (mNe, .inl (cK 2, 1024, .inr (.inl mNef))), (mSe, .inl (cK 1, 2048, .inl mSef)), (mVa, .inl (cK 0, 5, .inl mVaf)), (mLa, .inl (cK 0, 2048, .inl mLaf))] → va_S A s.heap H locs → lv_has ls 13 [(0, .ref md), (1, .int v1), (2, .int v2), (3, .int v3), (4, .int v4), (5, .int v5), (6, .int v6), (7, .int v7), (8, .int v8), (9, .long v9), (11, .int v11)] → W p l e rm_M_aggregate s m args below meth c H locs 0 0 Q (F0 m 74 ls []) := by
        intro v8 v9 n_74
        induction n_74 with
        | zero =>
          intro mRof mKnf mNef mSef mVaf mLaf v5 v6 v7 v11 H locs ls hf hP hD hS hl
          exact fn_0 hf
        | succ n_74 ih_74 =>
          intro mRof mKnf mNef mSef mVaf mLaf v5 v6 v7 v11 H locs ls hf hP hD hS hl
          rw [f_M_aggregate_74.eq_2] at hf
          refine lv_iload hx hb d_M_aggregate_74 (lv_at hl 10 rfl) ?_
          refine lv_bipush (v := 64) hx hb d_M_aggregate_76 (by decide) ?_
          refine lv_icmp_ge (tgt := 169) hx hb d_M_aggregate_78 (by decide) (fun hc => ?_) (fun hc => ?_)
          · have hf := fn_t hc hf
            refine lv_iinc (v := (v8 + 1)) (lv' := [(8, .int (v8 + 1)), (0, .ref md), (1, .int v1), (2, .int v2), (3, .int v3), (4, .int v4), (5, .int v5), (6, .int v6), (7, .int v7), (9, .long v9), (11, .int v11)]) hx hb d_M_aggregate_169 hl (k := 8) rfl rfl (by decide) rfl (fun ls hl => ?_)
            refine lv_goto (tgt := 52) hx hb d_M_aggregate_172 (by decide) ?_
            exact ih_52 _ _ _ _ _ _ _ _ _ _ _ _ _ hf hP hD hS (lv_sub hl [1, 2, 3, 4, 5, 6, 7, 8, 0] rfl)
          · have hf := fn_f hc hf
            refine lv_lload hx hb d_M_aggregate_81 (lv_at hl 9 rfl) ?_
            refine lv_lconst (v := 0) hx hb d_M_aggregate_83 (by decide) ?_
            refine W.lcmp hx hb d_M_aggregate_84 ?_
            refine lv_if_eq (tgt := 169) hx hb d_M_aggregate_85 (by decide) (fun hc => ?_) (fun hc => ?_)
            · have hf := fn_t hc hf
              refine lv_iinc (v := (v8 + 1)) (lv' := [(8, .int (v8 + 1)), (0, .ref md), (1, .int v1), (2, .int v2), (3, .int v3), (4, .int v4), (5, .int v5), (6, .int v6), (7, .int v7), (9, .long v9), (11, .int v11)]) hx hb d_M_aggregate_169 hl (k := 8) rfl rfl (by decide) rfl (fun ls hl => ?_)
              refine lv_goto (tgt := 52) hx hb d_M_aggregate_172 (by decide) ?_
              exact ih_52 _ _ _ _ _ _ _ _ _ _ _ _ _ hf hP hD hS (lv_sub hl [1, 2, 3, 4, 5, 6, 7, 8, 0] rfl)
            · have hf := fn_f hc hf
              refine lv_lload hx hb d_M_aggregate_88 (lv_at hl 9 rfl) ?_
              refine lv_iload hx hb d_M_aggregate_90 (lv_at hl 10 rfl) ?_
              refine lv_lshr hx hb d_M_aggregate_92 rfl ?_
              refine lv_lconst (v := 1) hx hb d_M_aggregate_93 (by decide) ?_
              refine lv_land hx hb d_M_aggregate_94 ?_
              refine lv_lconst (v := 0) hx hb d_M_aggregate_95 (by decide) ?_
              refine W.lcmp hx hb d_M_aggregate_96 ?_
              refine lv_if_ne (tgt := 103) hx hb d_M_aggregate_97 (by decide) (fun hc => ?_) (fun hc => ?_)
              · have hf := fn_f hc hf
                refine lv_bipush (v := 64) hx hb d_M_aggregate_103 (by decide) ?_
                refine lv_iload hx hb d_M_aggregate_105 (lv_at hl 8 rfl) ?_
                refine lv_imul hx hb d_M_aggregate_107 ?_
                refine lv_iload hx hb d_M_aggregate_108 (lv_at hl 10 rfl) ?_
                refine lv_iadd hx hb d_M_aggregate_110 ?_
                refine lv_bipush (v := 16) hx hb d_M_aggregate_111 (by decide) ?_
                refine lv_iconst (v := 4) hx hb d_M_aggregate_113 (by decide) ?_
                refine lv_iload hx hb d_M_aggregate_114 (lv_at hl 4 rfl) ?_
                refine lv_imul hx hb d_M_aggregate_116 ?_
                refine lv_isub hx hb d_M_aggregate_117 ?_
                refine lv_ishr hx hb d_M_aggregate_118 ?_
                refine lv_bipush (v := 15) hx hb d_M_aggregate_119 (by decide) ?_
                refine lv_iand hx hb d_M_aggregate_121 ?_
                refine lv_istore (lv' := [(12, .int ((((64 * v8) + v11) >>> ((16 - (4 * v4)) &&& 31)) &&& 15)), (0, .ref md), (1, .int v1), (2, .int v2), (3, .int v3), (4, .int v4), (5, .int v5), (6, .int v6), (7, .int v7), (8, .int v8), (9, .long v9), (11, .int v11)]) hx hb d_M_aggregate_122 hl (by decide) rfl (fun ls hl => ?_)
                refine lv_iload hx hb d_M_aggregate_124 (lv_at hl 6 rfl) ?_
                refine lv_iload hx hb d_M_aggregate_126 (lv_at hl 0 rfl) ?_
                refine lv_iadd hx hb d_M_aggregate_128 ?_
                refine lv_istore (lv' := [(5, .int (v5 + ((((64 * v8) + v11) >>> ((16 - (4 * v4)) &&& 31)) &&& 15))), (12, .int ((((64 * v8) + v11) >>> ((16 - (4 * v4)) &&& 31)) &&& 15)), (0, .ref md), (1, .int v1), (2, .int v2), (3, .int v3), (4, .int v4), (6, .int v6), (7, .int v7), (8, .int v8), (9, .long v9), (11, .int v11)]) hx hb d_M_aggregate_129 hl (by decide) rfl (fun ls hl => ?_)
                refine lv_iload hx hb d_M_aggregate_131 (lv_at hl 1 rfl) ?_
                refine lv_iload hx hb d_M_aggregate_133 (lv_at hl 7 rfl) ?_
                refine lv_icmp_ge (tgt := 143) hx hb d_M_aggregate_135 (by decide) (fun hc => ?_) (fun hc => ?_)
                · have hf := fn_t hc hf
                  refine lv_iload hx hb d_M_aggregate_143 (lv_at hl 7 rfl) ?_
                  refine lv_istore (lv' := [(6, .int v6), (5, .int (v5 + ((((64 * v8) + v11) >>> ((16 - (4 * v4)) &&& 31)) &&& 15))), (12, .int ((((64 * v8) + v11) >>> ((16 - (4 * v4)) &&& 31)) &&& 15)), (0, .ref md), (1, .int v1), (2, .int v2), (3, .int v3), (4, .int v4), (7, .int v7), (8, .int v8), (9, .long v9), (11, .int v11)]) hx hb d_M_aggregate_145 hl (by decide) rfl (fun ls hl => ?_)
                  refine lv_iload hx hb d_M_aggregate_147 (lv_at hl 2 rfl) ?_
                  refine lv_iload hx hb d_M_aggregate_149 (lv_at hl 8 rfl) ?_
                  refine lv_icmp_le (tgt := 159) hx hb d_M_aggregate_151 (by decide) (fun hc => ?_) (fun hc => ?_)
                  · have hf := fn_t hc hf
                    refine lv_iload hx hb d_M_aggregate_159 (lv_at hl 8 rfl) ?_
                    refine lv_istore (lv' := [(7, .int v7), (6, .int v6), (5, .int (v5 + ((((64 * v8) + v11) >>> ((16 - (4 * v4)) &&& 31)) &&& 15))), (12, .int ((((64 * v8) + v11) >>> ((16 - (4 * v4)) &&& 31)) &&& 15)), (0, .ref md), (1, .int v1), (2, .int v2), (3, .int v3), (4, .int v4), (8, .int v8), (9, .long v9), (11, .int v11)]) hx hb d_M_aggregate_161 hl (by decide) rfl (fun ls hl => ?_)
                    refine lv_iinc (v := (v11 + 1)) (lv' := [(11, .int (v11 + 1)), (7, .int v7), (6, .int v6), (5, .int (v5 + ((((64 * v8) + v11) >>> ((16 - (4 * v4)) &&& 31)) &&& 15))), (12, .int ((((64 * v8) + v11) >>> ((16 - (4 * v4)) &&& 31)) &&& 15)), (0, .ref md), (1, .int v1), (2, .int v2), (3, .int v3), (4, .int v4), (8, .int v8), (9, .long v9)]) hx hb d_M_aggregate_163 hl (k := 11) rfl rfl (by decide) rfl (fun ls hl => ?_)
                    refine lv_goto (tgt := 74) hx hb d_M_aggregate_166 (by decide) ?_
                    exact ih_74 _ _ _ _ _ _ _ _ _ _ _ _ _ hf hP hD hS (lv_sub hl [5, 6, 7, 8, 9, 3, 2, 1, 10, 11, 0] rfl)
                  · have hf := fn_f hc hf
                    refine lv_iload hx hb d_M_aggregate_154 (lv_at hl 2 rfl) ?_
                    refine lv_goto (tgt := 161) hx hb d_M_aggregate_156 (by decide) ?_
                    refine lv_istore (lv' := [(7, .int ((((64 * v8) + v11) >>> ((16 - (4 * v4)) &&& 31)) &&& 15)), (6, .int v6), (5, .int (v5 + ((((64 * v8) + v11) >>> ((16 - (4 * v4)) &&& 31)) &&& 15))), (12, .int ((((64 * v8) + v11) >>> ((16 - (4 * v4)) &&& 31)) &&& 15)), (0, .ref md), (1, .int v1), (2, .int v2), (3, .int v3), (4, .int v4), (8, .int v8), (9, .long v9), (11, .int v11)]) hx hb d_M_aggregate_161 hl (by decide) rfl (fun ls hl => ?_)
                    refine lv_iinc (v := (v11 + 1)) (lv' := [(11, .int (v11 + 1)), (7, .int ((((64 * v8) + v11) >>> ((16 - (4 * v4)) &&& 31)) &&& 15)), (6, .int v6), (5, .int (v5 + ((((64 * v8) + v11) >>> ((16 - (4 * v4)) &&& 31)) &&& 15))), (12, .int ((((64 * v8) + v11) >>> ((16 - (4 * v4)) &&& 31)) &&& 15)), (0, .ref md), (1, .int v1), (2, .int v2), (3, .int v3), (4, .int v4), (8, .int v8), (9, .long v9)]) hx hb d_M_aggregate_163 hl (k := 11) rfl rfl (by decide) rfl (fun ls hl => ?_)
                    refine lv_goto (tgt := 74) hx hb d_M_aggregate_166 (by decide) ?_
                    exact ih_74 _ _ _ _ _ _ _ _ _ _ _ _ _ hf hP hD hS (lv_sub hl [5, 6, 7, 8, 9, 3, 2, 1, 10, 11, 0] rfl)
                · have hf := fn_f hc hf
                  refine lv_iload hx hb d_M_aggregate_138 (lv_at hl 1 rfl) ?_
                  refine lv_goto (tgt := 145) hx hb d_M_aggregate_140 (by decide) ?_
                  refine lv_istore (lv' := [(6, .int ((((64 * v8) + v11) >>> ((16 - (4 * v4)) &&& 31)) &&& 15)), (5, .int (v5 + ((((64 * v8) + v11) >>> ((16 - (4 * v4)) &&& 31)) &&& 15))), (12, .int ((((64 * v8) + v11) >>> ((16 - (4 * v4)) &&& 31)) &&& 15)), (0, .ref md), (1, .int v1), (2, .int v2), (3, .int v3), (4, .int v4), (7, .int v7), (8, .int v8), (9, .long v9), (11, .int v11)]) hx hb d_M_aggregate_145 hl (by decide) rfl (fun ls hl => ?_)
                  refine lv_iload hx hb d_M_aggregate_147 (lv_at hl 2 rfl) ?_
                  refine lv_iload hx hb d_M_aggregate_149 (lv_at hl 8 rfl) ?_
                  refine lv_icmp_le (tgt := 159) hx hb d_M_aggregate_151 (by decide) (fun hc => ?_) (fun hc => ?_)
                  · have hf := fn_t hc hf
                    refine lv_iload hx hb d_M_aggregate_159 (lv_at hl 8 rfl) ?_
                    refine lv_istore (lv' := [(7, .int v7), (6, .int ((((64 * v8) + v11) >>> ((16 - (4 * v4)) &&& 31)) &&& 15)), (5, .int (v5 + ((((64 * v8) + v11) >>> ((16 - (4 * v4)) &&& 31)) &&& 15))), (12, .int ((((64 * v8) + v11) >>> ((16 - (4 * v4)) &&& 31)) &&& 15)), (0, .ref md), (1, .int v1), (2, .int v2), (3, .int v3), (4, .int v4), (8, .int v8), (9, .long v9), (11, .int v11)]) hx hb d_M_aggregate_161 hl (by decide) rfl (fun ls hl => ?_)
                    refine lv_iinc (v := (v11 + 1)) (lv' := [(11, .int (v11 + 1)), (7, .int v7), (6, .int ((((64 * v8) + v11) >>> ((16 - (4 * v4)) &&& 31)) &&& 15)), (5, .int (v5 + ((((64 * v8) + v11) >>> ((16 - (4 * v4)) &&& 31)) &&& 15))), (12, .int ((((64 * v8) + v11) >>> ((16 - (4 * v4)) &&& 31)) &&& 15)), (0, .ref md), (1, .int v1), (2, .int v2), (3, .int v3), (4, .int v4), (8, .int v8), (9, .long v9)]) hx hb d_M_aggregate_163 hl (k := 11) rfl rfl (by decide) rfl (fun ls hl => ?_)
                    refine lv_goto (tgt := 74) hx hb d_M_aggregate_166 (by decide) ?_
                    exact ih_74 _ _ _ _ _ _ _ _ _ _ _ _ _ hf hP hD hS (lv_sub hl [5, 6, 7, 8, 9, 3, 2, 1, 10, 11, 0] rfl)
                  · have hf := fn_f hc hf
                    refine lv_iload hx hb d_M_aggregate_154 (lv_at hl 2 rfl) ?_
                    refine lv_goto (tgt := 161) hx hb d_M_aggregate_156 (by decide) ?_
                    refine lv_istore (lv' := [(7, .int ((((64 * v8) + v11) >>> ((16 - (4 * v4)) &&& 31)) &&& 15)), (6, .int ((((64 * v8) + v11) >>> ((16 - (4 * v4)) &&& 31)) &&& 15)), (5, .int (v5 + ((((64 * v8) + v11) >>> ((16 - (4 * v4)) &&& 31)) &&& 15))), (12, .int ((((64 * v8) + v11) >>> ((16 - (4 * v4)) &&& 31)) &&& 15)), (0, .ref md), (1, .int v1), (2, .int v2), (3, .int v3), (4, .int v4), (8, .int v8), (9, .long v9), (11, .int v11)]) hx hb d_M_aggregate_161 hl (by decide) rfl (fun ls hl => ?_)
                    refine lv_iinc (v := (v11 + 1)) (lv' := [(11, .int (v11 + 1)), (7, .int ((((64 * v8) + v11) >>> ((16 - (4 * v4)) &&& 31)) &&& 15)), (6, .int ((((64 * v8) + v11) >>> ((16 - (4 * v4)) &&& 31)) &&& 15)), (5, .int (v5 + ((((64 * v8) + v11) >>> ((16 - (4 * v4)) &&& 31)) &&& 15))), (12, .int ((((64 * v8) + v11) >>> ((16 - (4 * v4)) &&& 31)) &&& 15)), (0, .ref md), (1, .int v1), (2, .int v2), (3, .int v3), (4, .int v4), (8, .int v8), (9, .long v9)]) hx hb d_M_aggregate_163 hl (k := 11) rfl rfl (by decide) rfl (fun ls hl => ?_)
                    refine lv_goto (tgt := 74) hx hb d_M_aggregate_166 (by decide) ?_
                    exact ih_74 _ _ _ _ _ _ _ _ _ _ _ _ _ hf hP hD hS (lv_sub hl [5, 6, 7, 8, 9, 3, 2, 1, 10, 11, 0] rfl)
              · have hf := fn_t hc hf
                refine lv_goto (tgt := 163) hx hb d_M_aggregate_100 (by decide) ?_
                refine lv_iinc (v := (v11 + 1)) (lv' := [(11, .int (v11 + 1)), (0, .ref md), (1, .int v1), (2, .int v2), (3, .int v3), (4, .int v4), (5, .int v5), (6, .int v6), (7, .int v7), (8, .int v8), (9, .long v9)]) hx hb d_M_aggregate_163 hl (k := 10) rfl rfl (by decide) rfl (fun ls hl => ?_)
                refine lv_goto (tgt := 74) hx hb d_M_aggregate_166 (by decide) ?_
                exact ih_74 _ _ _ _ _ _ _ _ _ _ _ _ _ hf hP hD hS (lv_sub hl [1, 2, 3, 4, 5, 6, 7, 8, 9, 10, 0] rfl)
      intro mRof mKnf mNef mSef mVaf mLaf v5 v6 v7 v8 H locs ls hf hP hD hS hl
      rw [f_M_aggregate_52.eq_2] at hf
      refine lv_iload hx hb d_M_aggregate_52 (lv_at hl 8 rfl) ?_
      refine lv_sipush (v := 1024) hx hb d_M_aggregate_54 (by decide) ?_
      refine lv_icmp_ge (tgt := 175) hx hb d_M_aggregate_57 (by decide) (fun hc => ?_) (fun hc => ?_)
      · have hf := fn_t hc hf
        exact J_175 _ _ _ _ _ _ _ _ _ _ _ _ _ hf hP hD hS (lv_sub hl [3, 5, 6, 7] rfl)
      · have hf := fn_f hc hf
        refine lv_aload_n hx hb d_M_aggregate_60 rfl (lv_at hl 0 rfl) ?_
        refine lv_iload_n hx hb d_M_aggregate_61 rfl (lv_at hl 1 rfl) ?_
        refine lv_iload_n hx hb d_M_aggregate_62 rfl (lv_at hl 2 rfl) ?_
        refine lv_iconst (v := 0) hx hb d_M_aggregate_63 (by decide) ?_
        refine lv_iload hx hb d_M_aggregate_64 (lv_at hl 8 rfl) ?_
        obtain ⟨r_66, mRof_66, mKnf_66, mNef_66, mSef_66, mVaf_66, mLaf_66, hcl, hf⟩ := fn_e7 hf
        refine cv_WrL (rest := []) (wr := []) (w' := [(md, .inr (6, [.int mdN, .int mdL, .ref mWh, .ref mTr, .ref mCo, .int mdS, .ref mWi, .ref mPc, .ref mIt, .int mdQ, .ref mRo, .ref mKn, .ref mNe, .ref mSe, .ref mVa, .ref mLa])), (mWh, .inl (cK 0, 400, .inl mWhf)), (mTr, .inl (cK 0, 400, .inl mTrf)), (mCo, .inl (cK 1, 400, .inl mCof)), (mWi, .inl (cK 0, 12, .inl mWif)), (mPc, .inl (cK 0, 12, .inl mPcf)), (mIt, .inl (cK 0, 108, .inl mItf)), (mRo, .inl (cK 2, 761856, .inr (.inl mRof_66))), (mKn, .inl (cK 1, 744, .inl mKnf_66)), (mNe, .inl (cK 2, 1024, .inr (.inl mNef_66))), (mSe, .inl (cK 1, 2048, .inl mSef_66)), (mVa, .inl (cK 0, 5, .inl mVaf_66)), (mLa, .inl (cK 0, 2048, .inl mLaf_66))]) ⟨hx, hb, hml, hown, hts⟩ (c_M_bits l D cK md mWh mTr mCo mWi mPc mIt mRo mKn mNe mSe mVa mLa mdN mdL mdS mdQ mWhf mTrf mCof mWif mPcf mItf mRof mKnf mNef mSef mVaf mLaf N v1 v2 0 v8 r_66 mRof_66 mKnf_66 mNef_66 mSef_66 mVaf_66 mLaf_66 hcl) (cwV 4 hts (zz_V ml_M_124 im_M_bits se_M_bits in_M co_M_bits) rfl rfl rfl ⟨rfl, hd_M_bits⟩ ⟨Nat.le_of_ble_eq_true rfl, Nat.le_of_ble_eq_true rfl⟩) hK hP hD hS hA [0, 1, 2, 3, 4, 5, 6, 7, 8, 9, 10, 11, 12] [] [0, 1, 2, 3, 4, 5, 6, 7, 8, 9, 10, 11, 12] rfl (by decide) rfl (by decide) (by decide) rfl (by decide) 0 rfl rfl rfl rfl hl.1 rfl (Nat.le_of_ble_eq_true rfl) d_M_aggregate_66 ⟨Nat.zero_le _, Nat.zero_le _⟩ (fun H locs hP hD hS => ?_)
        refine lv_lstore (lv' := [(9, .long r_66), (0, .ref md), (1, .int v1), (2, .int v2), (3, .int v3), (4, .int v4), (5, .int v5), (6, .int v6), (7, .int v7), (8, .int v8)]) hx hb d_M_aggregate_69 hl (by decide) rfl (fun ls hl => ?_)
        refine lv_iconst (v := 0) hx hb d_M_aggregate_71 (by decide) ?_
        refine lv_istore (lv' := [(11, .int 0), (9, .long r_66), (0, .ref md), (1, .int v1), (2, .int v2), (3, .int v3), (4, .int v4), (5, .int v5), (6, .int v6), (7, .int v7), (8, .int v8)]) hx hb d_M_aggregate_72 hl (by decide) rfl (fun ls hl => ?_)
        exact J_74 _ _ _ _ _ _ _ _ _ _ _ _ _ _ _ _ hf hP hD hS (lv_sub hl [2, 3, 4, 5, 6, 7, 8, 9, 10, 1, 0] rfl)
  unfold f_M_aggregate at hf
  refine lv_aload_n hx hb d_M_aggregate_0 rfl (lv_at hl 0 rfl) ?_
  refine lv_iload_n hx hb d_M_aggregate_1 rfl (lv_at hl 1 rfl) ?_
  obtain ⟨r_2, hcl, hf⟩ := fn_e1 hf
  refine cv_RdI (rest := []) ⟨hx, hb, hml, hown, hts⟩ (c_M_isQuestion l D cK md mWh mTr mCo mWi mPc mIt mRo mKn mNe mSe mVa mLa mdN mdL mdS mdQ v1 r_2 hcl) (cwV 1 hts (zz_V ml_M_90 im_M_isQuestion se_M_isQuestion in_M co_M_isQuestion) rfl rfl rfl ⟨rfl, hd_M_isQuestion⟩ ⟨Nat.le_of_ble_eq_true rfl, Nat.le_of_ble_eq_true rfl⟩) hK hP [0] rfl 0 rfl rfl rfl rfl hl.1 rfl (Nat.le_of_ble_eq_true rfl) d_M_aggregate_2 ⟨Nat.zero_le _, Nat.zero_le _⟩ ?_
  refine lv_if_eq (tgt := 37) hx hb d_M_aggregate_5 (by decide) (fun hc => ?_) (fun hc => ?_)
  · have hf := fn_t hc hf
    refine lv_iconst (v := (-1)) hx hb d_M_aggregate_37 (by decide) ?_
    cases hf
    exact hret _ _ 38 _ hP hD hS rfl d_M_aggregate_38
  · have hf := fn_f hc hf
    refine lv_aload_n hx hb d_M_aggregate_8 rfl (lv_at hl 0 rfl) ?_
    refine lv_iload_n hx hb d_M_aggregate_9 rfl (lv_at hl 2 rfl) ?_
    obtain ⟨r_10, hcl, hf⟩ := fn_e1 hf
    refine cv_RdI (rest := []) ⟨hx, hb, hml, hown, hts⟩ (c_M_isNumber l D cK md mWh mTr mCo mWi mPc mIt mRo mKn mNe mSe mVa mLa mdN mdL mdS mdQ v2 r_10 hcl) (cwV 1 hts (zz_V ml_M_86 im_M_isNumber se_M_isNumber in_M co_M_isNumber) rfl rfl rfl ⟨rfl, hd_M_isNumber⟩ ⟨Nat.le_of_ble_eq_true rfl, Nat.le_of_ble_eq_true rfl⟩) hK hP [0] rfl 0 rfl rfl rfl rfl hl.1 rfl (Nat.le_of_ble_eq_true rfl) d_M_aggregate_10 ⟨Nat.zero_le _, Nat.zero_le _⟩ ?_
    refine lv_if_eq (tgt := 37) hx hb d_M_aggregate_13 (by decide) (fun hc => ?_) (fun hc => ?_)
    · have hf := fn_t hc hf
      refine lv_iconst (v := (-1)) hx hb d_M_aggregate_37 (by decide) ?_
      cases hf
      exact hret _ _ 38 _ hP hD hS rfl d_M_aggregate_38
    · have hf := fn_f hc hf
      refine lv_iload_n hx hb d_M_aggregate_16 rfl (lv_at hl 3 rfl) ?_
      refine lv_if_lt (tgt := 37) hx hb d_M_aggregate_17 (by decide) (fun hc => ?_) (fun hc => ?_)
      · have hf := fn_t hc hf
        refine lv_iconst (v := (-1)) hx hb d_M_aggregate_37 (by decide) ?_
        cases hf
        exact hret _ _ 38 _ hP hD hS rfl d_M_aggregate_38
      · have hf := fn_f hc hf
        refine lv_iload_n hx hb d_M_aggregate_20 rfl (lv_at hl 3 rfl) ?_
        refine lv_iconst (v := 2) hx hb d_M_aggregate_21 (by decide) ?_
        refine lv_icmp_gt (tgt := 37) hx hb d_M_aggregate_22 (by decide) (fun hc => ?_) (fun hc => ?_)
        · have hf := fn_t hc hf
          refine lv_iconst (v := (-1)) hx hb d_M_aggregate_37 (by decide) ?_
          cases hf
          exact hret _ _ 38 _ hP hD hS rfl d_M_aggregate_38
        · have hf := fn_f hc hf
          refine lv_iload hx hb d_M_aggregate_25 (lv_at hl 4 rfl) ?_
          refine lv_iconst (v := 1) hx hb d_M_aggregate_27 (by decide) ?_
          refine lv_icmp_lt (tgt := 37) hx hb d_M_aggregate_28 (by decide) (fun hc => ?_) (fun hc => ?_)
          · have hf := fn_t hc hf
            refine lv_iconst (v := (-1)) hx hb d_M_aggregate_37 (by decide) ?_
            cases hf
            exact hret _ _ 38 _ hP hD hS rfl d_M_aggregate_38
          · have hf := fn_f hc hf
            refine lv_iload hx hb d_M_aggregate_31 (lv_at hl 4 rfl) ?_
            refine lv_iconst (v := 4) hx hb d_M_aggregate_33 (by decide) ?_
            refine lv_icmp_le (tgt := 39) hx hb d_M_aggregate_34 (by decide) (fun hc => ?_) (fun hc => ?_)
            · have hf := fn_t hc hf
              refine lv_iconst (v := 0) hx hb d_M_aggregate_39 (by decide) ?_
              refine lv_istore (lv' := [(5, .int 0), (0, .ref md), (1, .int v1), (2, .int v2), (3, .int v3), (4, .int v4)]) hx hb d_M_aggregate_40 hl (by decide) rfl (fun ls hl => ?_)
              refine lv_bipush (v := 16) hx hb d_M_aggregate_42 (by decide) ?_
              refine lv_istore (lv' := [(6, .int 16), (5, .int 0), (0, .ref md), (1, .int v1), (2, .int v2), (3, .int v3), (4, .int v4)]) hx hb d_M_aggregate_44 hl (by decide) rfl (fun ls hl => ?_)
              refine lv_iconst (v := (-1)) hx hb d_M_aggregate_46 (by decide) ?_
              refine lv_istore (lv' := [(7, .int (-1)), (6, .int 16), (5, .int 0), (0, .ref md), (1, .int v1), (2, .int v2), (3, .int v3), (4, .int v4)]) hx hb d_M_aggregate_47 hl (by decide) rfl (fun ls hl => ?_)
              refine lv_iconst (v := 0) hx hb d_M_aggregate_49 (by decide) ?_
              refine lv_istore (lv' := [(8, .int 0), (7, .int (-1)), (6, .int 16), (5, .int 0), (0, .ref md), (1, .int v1), (2, .int v2), (3, .int v3), (4, .int v4)]) hx hb d_M_aggregate_50 hl (by decide) rfl (fun ls hl => ?_)
              exact J_52 _ _ _ _ _ _ _ _ _ _ _ _ _ _ _ _ _ _ hf hP hD hS (lv_sub hl [4, 5, 6, 7, 8, 3, 2, 1, 0] rfl)
            · have hf := fn_f hc hf
              refine lv_iconst (v := (-1)) hx hb d_M_aggregate_37 (by decide) ?_
              cases hf
              exact hret _ _ 38 _ hP hD hS rfl d_M_aggregate_38
abbrev rm_M_again : Room := { frames := 4, cells := 0, slots := 0, locals := 102 }
set_option maxHeartbeats 4000000 in
set_option maxRecDepth 100000 in
theorem c_M_again (l : Launch) (D : va_G) (cK : Nat → ClassId) (md mWh mTr mCo mWi mPc mIt mRo mKn mNe mSe mVa mLa : Nat) (mdN : Int32) (mdL : Int32) (mdS : Int32) (mdQ : Int32) (mWhf : Nat → Int32) (mTrf : Nat → Int32) (mCof : Nat → Int32) (mWif : Nat → Int32) (mPcf : Nat → Int32) (mItf : Nat → Int32) (mRof : Nat → Int64) (mNef : Nat → Int64) (mSef : Nat → Int32) (mVaf : Nat → Int32) (mLaf : Nat → Int32) (N : Nat) (v1 : Int32) (v2 : Int32) (r : Int32) (o_mRof : Nat → Int64) (o_mNef : Nat → Int64) (o_mSef : Nat → Int32) (o_mVaf : Nat → Int32) (o_mLaf : Nat → Int32) (hf : f_M_again N mdS mWhf mTrf mCof mWif mPcf mItf mRof mNef mSef mVaf mLaf v1 v2 = some (r, o_mRof, o_mNef, o_mSef, o_mVaf, o_mLaf)) : WrI l y_M_again w_M_again rm_M_again D zz_cl (mt_ty cK RK2) [.ref md, .int v1, .int v2] [(md, .inr (6, [.int mdN, .int mdL, .ref mWh, .ref mTr, .ref mCo, .int mdS, .ref mWi, .ref mPc, .ref mIt, .int mdQ, .ref mRo, .ref mKn, .ref mNe, .ref mSe, .ref mVa, .ref mLa])), (mWh, .inl (cK 0, 400, .inl mWhf)), (mTr, .inl (cK 0, 400, .inl mTrf)), (mCo, .inl (cK 1, 400, .inl mCof)), (mWi, .inl (cK 0, 12, .inl mWif)), (mPc, .inl (cK 0, 12, .inl mPcf)), (mIt, .inl (cK 0, 108, .inl mItf)), (mRo, .inl (cK 2, 761856, .inr (.inl mRof))), (mNe, .inl (cK 2, 1024, .inr (.inl mNef))), (mSe, .inl (cK 1, 2048, .inl mSef)), (mVa, .inl (cK 0, 5, .inl mVaf)), (mLa, .inl (cK 0, 2048, .inl mLaf))] [(md, .inr (6, [.int mdN, .int mdL, .ref mWh, .ref mTr, .ref mCo, .int mdS, .ref mWi, .ref mPc, .ref mIt, .int mdQ, .ref mRo, .ref mKn, .ref mNe, .ref mSe, .ref mVa, .ref mLa])), (mWh, .inl (cK 0, 400, .inl mWhf)), (mTr, .inl (cK 0, 400, .inl mTrf)), (mCo, .inl (cK 1, 400, .inl mCof)), (mWi, .inl (cK 0, 12, .inl mWif)), (mPc, .inl (cK 0, 12, .inl mPcf)), (mIt, .inl (cK 0, 108, .inl mItf)), (mRo, .inl (cK 2, 761856, .inr (.inl o_mRof))), (mNe, .inl (cK 2, 1024, .inr (.inl o_mNef))), (mSe, .inl (cK 1, 2048, .inl o_mSef)), (mVa, .inl (cK 0, 5, .inl o_mVaf)), (mLa, .inl (cK 0, 2048, .inl o_mLaf))] r := by
  refine mk_WrI (cc := b_M_again) (maxL := 6) (ty := .boolean) (by decide +kernel) rfl (Nat.le_of_ble_eq_true rfl) ?_
  intro p e s m below meth c args Q A ls hx hb hml hown hts hA hK hP hD hret hl
  have hS : va_S A s.heap s.heap [] := va_S.rf
  have hl : lv_has ls 6 [(0, .ref md), (1, .int v1), (2, .int v2)] := hl
  have J_23 : ∀ (v3 : Int32) (n_23 : Nat) (mRof : Nat → Int64) (mNef : Nat → Int64) (mSef : Nat → Int32) (mVaf : Nat → Int32) (mLaf : Nat → Int32) (v4 : Int32) (v5 : Int32) (H : Heap) (locs : List Loc) (ls : Array Slot), f_M_again_23 N mdS mWhf mTrf mCof mWif mPcf mItf v3 n_23 mRof mNef mSef mVaf mLaf v4 v5 = some (r, o_mRof, o_mNef, o_mSef, o_mVaf, o_mLaf) → va_P D zz_cl [(md, .inr (6, [.int mdN, .int mdL, .ref mWh, .ref mTr, .ref mCo, .int mdS, .ref mWi, .ref mPc, .ref mIt, .int mdQ, .ref mRo, .ref mKn, .ref mNe, .ref mSe, .ref mVa, .ref mLa])), (mWh, .inl (cK 0, 400, .inl mWhf)), (mTr, .inl (cK 0, 400, .inl mTrf)), (mCo, .inl (cK 1, 400, .inl mCof)), (mWi, .inl (cK 0, 12, .inl mWif)), (mPc, .inl (cK 0, 12, .inl mPcf)), (mIt, .inl (cK 0, 108, .inl mItf)), (mRo, .inl (cK 2, 761856, .inr (.inl mRof))), (mNe, .inl (cK 2, 1024, .inr (.inl mNef))), (mSe, .inl (cK 1, 2048, .inl mSef)), (mVa, .inl (cK 0, 5, .inl mVaf)), (mLa, .inl (cK 0, 2048, .inl mLaf))] H → va_D A [(md, .inr (6, [.int mdN, .int mdL, .ref mWh, .ref mTr, .ref mCo, .int mdS, .ref mWi, .ref mPc, .ref mIt, .int mdQ, .ref mRo, .ref mKn, .ref mNe, .ref mSe, .ref mVa, .ref mLa])), (mWh, .inl (cK 0, 400, .inl mWhf)), (mTr, .inl (cK 0, 400, .inl mTrf)), (mCo, .inl (cK 1, 400, .inl mCof)), (mWi, .inl (cK 0, 12, .inl mWif)), (mPc, .inl (cK 0, 12, .inl mPcf)), (mIt, .inl (cK 0, 108, .inl mItf)), (mRo, .inl (cK 2, 761856, .inr (.inl mRof))), (mNe, .inl (cK 2, 1024, .inr (.inl mNef))), (mSe, .inl (cK 1, 2048, .inl mSef)), (mVa, .inl (cK 0, 5, .inl mVaf)), (mLa, .inl (cK 0, 2048, .inl mLaf))] → va_S A s.heap H locs → lv_has ls 6 [(0, .ref md), (3, .int v3), (4, .int v4), (5, .int v5)] → W p l e rm_M_again s m args below meth c H locs 0 0 Q (F0 m 23 ls []) := by
    intro v3 n_23
    induction n_23 with
    | zero =>
      intro mRof mNef mSef mVaf mLaf v4 v5 H locs ls hf hP hD hS hl
      exact fn_0 hf
    | succ n_23 ih_23 =>
      have J_61 : ∀ (mRof : Nat → Int64) (mNef : Nat → Int64) (mSef : Nat → Int32) (mVaf : Nat → Int32) (mLaf : Nat → Int32) (v5 : Int32) (s0 : Int32) (H : Heap) (locs : List Loc) (ls : Array Slot), f_M_again_61 N mdS mWhf mTrf mCof mWif mPcf mItf (f_M_again_23 N mdS mWhf mTrf mCof mWif mPcf mItf v3 n_23) mRof mNef mSef mVaf mLaf v3 v5 s0 = some (r, o_mRof, o_mNef, o_mSef, o_mVaf, o_mLaf) → va_P D zz_cl [(md, .inr (6, [.int mdN, .int mdL, .ref mWh, .ref mTr, .ref mCo, .int mdS, .ref mWi, .ref mPc, .ref mIt, .int mdQ, .ref mRo, .ref mKn, .ref mNe, .ref mSe, .ref mVa, .ref mLa])), (mWh, .inl (cK 0, 400, .inl mWhf)), (mTr, .inl (cK 0, 400, .inl mTrf)), (mCo, .inl (cK 1, 400, .inl mCof)), (mWi, .inl (cK 0, 12, .inl mWif)), (mPc, .inl (cK 0, 12, .inl mPcf)), (mIt, .inl (cK 0, 108, .inl mItf)), (mRo, .inl (cK 2, 761856, .inr (.inl mRof))), (mNe, .inl (cK 2, 1024, .inr (.inl mNef))), (mSe, .inl (cK 1, 2048, .inl mSef)), (mVa, .inl (cK 0, 5, .inl mVaf)), (mLa, .inl (cK 0, 2048, .inl mLaf))] H → va_D A [(md, .inr (6, [.int mdN, .int mdL, .ref mWh, .ref mTr, .ref mCo, .int mdS, .ref mWi, .ref mPc, .ref mIt, .int mdQ, .ref mRo, .ref mKn, .ref mNe, .ref mSe, .ref mVa, .ref mLa])), (mWh, .inl (cK 0, 400, .inl mWhf)), (mTr, .inl (cK 0, 400, .inl mTrf)), (mCo, .inl (cK 1, 400, .inl mCof)), (mWi, .inl (cK 0, 12, .inl mWif)), (mPc, .inl (cK 0, 12, .inl mPcf)), (mIt, .inl (cK 0, 108, .inl mItf)), (mRo, .inl (cK 2, 761856, .inr (.inl mRof))), (mNe, .inl (cK 2, 1024, .inr (.inl mNef))), (mSe, .inl (cK 1, 2048, .inl mSef)), (mVa, .inl (cK 0, 5, .inl mVaf)), (mLa, .inl (cK 0, 2048, .inl mLaf))] → va_S A s.heap H locs → lv_has ls 6 [(0, .ref md), (3, .int v3), (5, .int v5)] → W p l e rm_M_again s m args below meth c H locs 0 0 Q (F0 m 61 ls [.int s0]) := by
        intro mRof mNef mSef mVaf mLaf v5 s0 H locs ls hf hP hD hS hl
        unfold f_M_again_61 at hf
        refine lv_istore (lv' := [(4, .int s0), (0, .ref md), (3, .int v3), (5, .int v5)]) hx hb d_M_again_61 hl (by decide) rfl (fun ls hl => ?_)
        refine lv_aload_n hx hb d_M_again_63 rfl (lv_at hl 1 rfl) ?_
        refine va_get (D := D) (ci := 6) (v := .ref mRo) (C := RK6) (T := TK6) (N := 16) hx hb hts iwK6 hown hK hP 0 rfl rfl 10 (by decide) (hts _ fl_M_30) (fun _ h9 => h9) rfl d_M_again_64 ?_
        refine lv_iload_n hx hb d_M_again_67 rfl (lv_at hl 2 rfl) ?_
        refine lv_iload hx hb d_M_again_68 (lv_at hl 3 rfl) ?_
        refine lv_iadd hx hb d_M_again_70 ?_
        refine lv_aload_n hx hb d_M_again_71 rfl (lv_at hl 1 rfl) ?_
        refine va_get (D := D) (ci := 6) (v := .ref mNe) (C := RK6) (T := TK6) (N := 16) hx hb hts iwK6 hown hK hP 0 rfl rfl 12 (by decide) (hts _ fl_M_37) (fun _ h9 => h9) rfl d_M_again_72 ?_
        refine lv_iload hx hb d_M_again_75 (lv_at hl 3 rfl) ?_
        have hg := fn_g hf
        have hf := fn_t hg hf
        refine va_lald hx hb hK hP 8 2 rfl rfl (fn_v hg) d_M_again_77 ?_
        have hg := fn_g hf
        have hf := fn_t hg hf
        refine va_last hx hb hK hP hD hS 7 2 rfl rfl (fn_v hg) d_M_again_78 (fun H locs hP hD hS => ?_)
        have hP : va_P D zz_cl [(md, .inr (6, [.int mdN, .int mdL, .ref mWh, .ref mTr, .ref mCo, .int mdS, .ref mWi, .ref mPc, .ref mIt, .int mdQ, .ref mRo, .ref mKn, .ref mNe, .ref mSe, .ref mVa, .ref mLa])), (mWh, .inl (cK 0, 400, .inl mWhf)), (mTr, .inl (cK 0, 400, .inl mTrf)), (mCo, .inl (cK 1, 400, .inl mCof)), (mWi, .inl (cK 0, 12, .inl mWif)), (mPc, .inl (cK 0, 12, .inl mPcf)), (mIt, .inl (cK 0, 108, .inl mItf)), (mRo, .inl (cK 2, 761856, .inr (.inl (vp_updL mRof (Int32.toNatClampNeg (v3 + v5)) (mNef (Int32.toNatClampNeg v5)))))), (mNe, .inl (cK 2, 1024, .inr (.inl mNef))), (mSe, .inl (cK 1, 2048, .inl mSef)), (mVa, .inl (cK 0, 5, .inl mVaf)), (mLa, .inl (cK 0, 2048, .inl mLaf))] H := hP
        have hD : va_D A [(md, .inr (6, [.int mdN, .int mdL, .ref mWh, .ref mTr, .ref mCo, .int mdS, .ref mWi, .ref mPc, .ref mIt, .int mdQ, .ref mRo, .ref mKn, .ref mNe, .ref mSe, .ref mVa, .ref mLa])), (mWh, .inl (cK 0, 400, .inl mWhf)), (mTr, .inl (cK 0, 400, .inl mTrf)), (mCo, .inl (cK 1, 400, .inl mCof)), (mWi, .inl (cK 0, 12, .inl mWif)), (mPc, .inl (cK 0, 12, .inl mPcf)), (mIt, .inl (cK 0, 108, .inl mItf)), (mRo, .inl (cK 2, 761856, .inr (.inl (vp_updL mRof (Int32.toNatClampNeg (v3 + v5)) (mNef (Int32.toNatClampNeg v5)))))), (mNe, .inl (cK 2, 1024, .inr (.inl mNef))), (mSe, .inl (cK 1, 2048, .inl mSef)), (mVa, .inl (cK 0, 5, .inl mVaf)), (mLa, .inl (cK 0, 2048, .inl mLaf))] := hD
        refine lv_iinc (v := (v5 + 1)) (lv' := [(5, .int (v5 + 1)), (4, .int s0), (0, .ref md), (3, .int v3)]) hx hb d_M_again_79 hl (k := 3) rfl rfl (by decide) rfl (fun ls hl => ?_)
        refine lv_goto (tgt := 23) hx hb d_M_again_82 (by decide) ?_
        exact ih_23 _ _ _ _ _ _ _ _ _ _ hf hP hD hS (lv_sub hl [2, 3, 1, 0] rfl)
      have J_56 : ∀ (mRof : Nat → Int64) (mNef : Nat → Int64) (mSef : Nat → Int32) (mVaf : Nat → Int32) (mLaf : Nat → Int32) (v5 : Int32) (H : Heap) (locs : List Loc) (ls : Array Slot), f_M_again_56 N mdS mWhf mTrf mCof mWif mPcf mItf (f_M_again_23 N mdS mWhf mTrf mCof mWif mPcf mItf v3 n_23) mRof mNef mSef mVaf mLaf v3 v5 = some (r, o_mRof, o_mNef, o_mSef, o_mVaf, o_mLaf) → va_P D zz_cl [(md, .inr (6, [.int mdN, .int mdL, .ref mWh, .ref mTr, .ref mCo, .int mdS, .ref mWi, .ref mPc, .ref mIt, .int mdQ, .ref mRo, .ref mKn, .ref mNe, .ref mSe, .ref mVa, .ref mLa])), (mWh, .inl (cK 0, 400, .inl mWhf)), (mTr, .inl (cK 0, 400, .inl mTrf)), (mCo, .inl (cK 1, 400, .inl mCof)), (mWi, .inl (cK 0, 12, .inl mWif)), (mPc, .inl (cK 0, 12, .inl mPcf)), (mIt, .inl (cK 0, 108, .inl mItf)), (mRo, .inl (cK 2, 761856, .inr (.inl mRof))), (mNe, .inl (cK 2, 1024, .inr (.inl mNef))), (mSe, .inl (cK 1, 2048, .inl mSef)), (mVa, .inl (cK 0, 5, .inl mVaf)), (mLa, .inl (cK 0, 2048, .inl mLaf))] H → va_D A [(md, .inr (6, [.int mdN, .int mdL, .ref mWh, .ref mTr, .ref mCo, .int mdS, .ref mWi, .ref mPc, .ref mIt, .int mdQ, .ref mRo, .ref mKn, .ref mNe, .ref mSe, .ref mVa, .ref mLa])), (mWh, .inl (cK 0, 400, .inl mWhf)), (mTr, .inl (cK 0, 400, .inl mTrf)), (mCo, .inl (cK 1, 400, .inl mCof)), (mWi, .inl (cK 0, 12, .inl mWif)), (mPc, .inl (cK 0, 12, .inl mPcf)), (mIt, .inl (cK 0, 108, .inl mItf)), (mRo, .inl (cK 2, 761856, .inr (.inl mRof))), (mNe, .inl (cK 2, 1024, .inr (.inl mNef))), (mSe, .inl (cK 1, 2048, .inl mSef)), (mVa, .inl (cK 0, 5, .inl mVaf)), (mLa, .inl (cK 0, 2048, .inl mLaf))] → va_S A s.heap H locs → lv_has ls 6 [(0, .ref md), (3, .int v3), (5, .int v5)] → W p l e rm_M_again s m args below meth c H locs 0 0 Q (F0 m 56 ls []) := by
        intro mRof mNef mSef mVaf mLaf v5 H locs ls hf hP hD hS hl
        unfold f_M_again_56 at hf
        refine lv_iconst (v := 1) hx hb d_M_again_56 (by decide) ?_
        refine lv_goto (tgt := 61) hx hb d_M_again_57 (by decide) ?_
        exact J_61 _ _ _ _ _ _ _ _ _ _ hf hP hD hS (lv_sub hl [0, 1, 2] rfl)
      intro mRof mNef mSef mVaf mLaf v4 v5 H locs ls hf hP hD hS hl
      rw [f_M_again_23.eq_2] at hf
      refine lv_iload hx hb d_M_again_23 (lv_at hl 3 rfl) ?_
      refine lv_sipush (v := 1024) hx hb d_M_again_25 (by decide) ?_
      refine lv_icmp_ge (tgt := 85) hx hb d_M_again_28 (by decide) (fun hc => ?_) (fun hc => ?_)
      · have hf := fn_t hc hf
        refine lv_iload hx hb d_M_again_85 (lv_at hl 2 rfl) ?_
        have hg := fn_g hf
        have hf := fn_t hg hf
        cases hf
        exact hret _ _ 87 _ hP hD hS (fn_zn hg) d_M_again_87
      · have hf := fn_f hc hf
        refine lv_iload hx hb d_M_again_31 (lv_at hl 2 rfl) ?_
        refine lv_if_ne (tgt := 56) hx hb d_M_again_33 (by decide) (fun hc => ?_) (fun hc => ?_)
        · have hf := fn_f hc hf
          exact J_56 _ _ _ _ _ _ _ _ _ hf hP hD hS (lv_sub hl [0, 1, 3] rfl)
        · have hf := fn_t hc hf
          refine lv_aload_n hx hb d_M_again_36 rfl (lv_at hl 0 rfl) ?_
          refine va_get (D := D) (ci := 6) (v := .ref mRo) (C := RK6) (T := TK6) (N := 16) hx hb hts iwK6 hown hK hP 0 rfl rfl 10 (by decide) (hts _ fl_M_30) (fun _ h9 => h9) rfl d_M_again_37 ?_
          refine lv_iload_n hx hb d_M_again_40 rfl (lv_at hl 1 rfl) ?_
          refine lv_iload hx hb d_M_again_41 (lv_at hl 3 rfl) ?_
          refine lv_iadd hx hb d_M_again_43 ?_
          have hg := fn_g hf
          have hf := fn_t hg hf
          refine va_lald hx hb hK hP 7 2 rfl rfl (fn_v hg) d_M_again_44 ?_
          refine lv_aload_n hx hb d_M_again_45 rfl (lv_at hl 0 rfl) ?_
          refine va_get (D := D) (ci := 6) (v := .ref mNe) (C := RK6) (T := TK6) (N := 16) hx hb hts iwK6 hown hK hP 0 rfl rfl 12 (by decide) (hts _ fl_M_37) (fun _ h9 => h9) rfl d_M_again_46 ?_
          refine lv_iload hx hb d_M_again_49 (lv_at hl 3 rfl) ?_
          have hg := fn_g hf
          have hf := fn_t hg hf
          refine va_lald hx hb hK hP 8 2 rfl rfl (fn_v hg) d_M_again_51 ?_
          refine W.lcmp hx hb d_M_again_52 ?_
          refine lv_if_eq (tgt := 60) hx hb d_M_again_53 (by decide) (fun hc => ?_) (fun hc => ?_)
          · have hf := fn_t hc hf
            refine lv_iconst (v := 0) hx hb d_M_again_60 (by decide) ?_
            exact J_61 _ _ _ _ _ _ _ _ _ _ hf hP hD hS (lv_sub hl [0, 1, 3] rfl)
          · have hf := fn_f hc hf
            exact J_56 _ _ _ _ _ _ _ _ _ hf hP hD hS (lv_sub hl [0, 1, 3] rfl)
  unfold f_M_again at hf
  refine lv_sipush (v := 1024) hx hb d_M_again_0 (by decide) ?_
  refine lv_aload_n hx hb d_M_again_3 rfl (lv_at hl 0 rfl) ?_
  refine lv_iload_n hx hb d_M_again_4 rfl (lv_at hl 1 rfl) ?_
  refine lv_iload_n hx hb d_M_again_5 rfl (lv_at hl 2 rfl) ?_
  obtain ⟨r_6, hcl, hf⟩ := fn_e1 hf
  refine cv_RdI (rest := [.int 1024]) ⟨hx, hb, hml, hown, hts⟩ (c_M_at l D cK md v1 v2 r_6 hcl) (cwV 2 hts (zz_V ml_M_113 im_M_at se_M_at in_M co_M_at) rfl rfl rfl ⟨rfl, hd_M_at⟩ ⟨Nat.le_of_ble_eq_true rfl, Nat.le_of_ble_eq_true rfl⟩) hK hP [] rfl 0 rfl rfl rfl rfl hl.1 rfl (Nat.le_of_ble_eq_true rfl) d_M_again_6 ⟨Nat.zero_le _, Nat.zero_le _⟩ ?_
  refine lv_imul hx hb d_M_again_9 ?_
  refine lv_istore_n (lv' := [(3, .int (1024 * r_6)), (0, .ref md), (1, .int v1), (2, .int v2)]) hx hb d_M_again_10 rfl hl (by decide) rfl (fun ls hl => ?_)
  refine lv_aload_n hx hb d_M_again_11 rfl (lv_at hl 1 rfl) ?_
  refine lv_iload_n hx hb d_M_again_12 rfl (lv_at hl 2 rfl) ?_
  refine lv_iload_n hx hb d_M_again_13 rfl (lv_at hl 3 rfl) ?_
  obtain ⟨mNef_14, mSef_14, mVaf_14, mLaf_14, hcl, hf⟩ := fn_e4 hf
  refine cv_WrV (rest := []) (wr := [(mRo, .inl (cK 2, 761856, .inr (.inl mRof)))]) (w' := [(md, .inr (6, [.int mdN, .int mdL, .ref mWh, .ref mTr, .ref mCo, .int mdS, .ref mWi, .ref mPc, .ref mIt, .int mdQ, .ref mRo, .ref mKn, .ref mNe, .ref mSe, .ref mVa, .ref mLa])), (mWh, .inl (cK 0, 400, .inl mWhf)), (mTr, .inl (cK 0, 400, .inl mTrf)), (mCo, .inl (cK 1, 400, .inl mCof)), (mWi, .inl (cK 0, 12, .inl mWif)), (mPc, .inl (cK 0, 12, .inl mPcf)), (mIt, .inl (cK 0, 108, .inl mItf)), (mRo, .inl (cK 2, 761856, .inr (.inl mRof))), (mNe, .inl (cK 2, 1024, .inr (.inl mNef_14))), (mSe, .inl (cK 1, 2048, .inl mSef_14)), (mVa, .inl (cK 0, 5, .inl mVaf_14)), (mLa, .inl (cK 0, 2048, .inl mLaf_14))]) ⟨hx, hb, hml, hown, hts⟩ (c_M_ask l D cK md mWh mTr mCo mWi mPc mIt mRo mKn mNe mSe mVa mLa mdN mdL mdS mdQ mWhf mTrf mCof mWif mPcf mItf mNef mSef mVaf mLaf N v1 v2 mNef_14 mSef_14 mVaf_14 mLaf_14 hcl) (cwV 2 hts (zz_V ml_M_116 im_M_ask se_M_ask in_M co_M_ask) rfl rfl rfl ⟨rfl, hd_M_ask⟩ ⟨Nat.le_of_ble_eq_true rfl, Nat.le_of_ble_eq_true rfl⟩) hK hP hD hS hA [0, 1, 2, 3, 4, 5, 6, 8, 9, 10, 11] [7] [1, 2, 3, 4, 5, 6, 7, 0, 8, 9, 10, 11] rfl (by decide) rfl (by decide) (by decide) rfl (by decide) 0 rfl rfl rfl rfl hl.1 rfl (Nat.le_of_ble_eq_true rfl) d_M_again_14 ⟨Nat.zero_le _, Nat.zero_le _⟩ (fun H locs hP hD hS => ?_)
  refine lv_iconst (v := 0) hx hb d_M_again_17 (by decide) ?_
  refine lv_istore (lv' := [(4, .int 0), (3, .int (1024 * r_6)), (0, .ref md), (1, .int v1), (2, .int v2)]) hx hb d_M_again_18 hl (by decide) rfl (fun ls hl => ?_)
  refine lv_iconst (v := 0) hx hb d_M_again_20 (by decide) ?_
  refine lv_istore (lv' := [(5, .int 0), (4, .int 0), (3, .int (1024 * r_6)), (0, .ref md), (1, .int v1), (2, .int v2)]) hx hb d_M_again_21 hl (by decide) rfl (fun ls hl => ?_)
  exact J_23 _ _ _ _ _ _ _ _ _ _ _ _ hf hP hD hS (lv_sub hl [3, 2, 1, 0] rfl)
abbrev rm_M_still : Room := { frames := 5, cells := 0, slots := 0, locals := 126 }
set_option maxHeartbeats 4000000 in
set_option maxRecDepth 100000 in
theorem c_M_still (l : Launch) (D : va_G) (cK : Nat → ClassId) (md mWh mTr mCo mWi mPc mIt mRo mKn mNe mSe mVa mLa : Nat) (mdN : Int32) (mdL : Int32) (mdS : Int32) (mdQ : Int32) (mWhf : Nat → Int32) (mTrf : Nat → Int32) (mCof : Nat → Int32) (mWif : Nat → Int32) (mPcf : Nat → Int32) (mItf : Nat → Int32) (mRof : Nat → Int64) (mKnf : Nat → Int32) (mNef : Nat → Int64) (mSef : Nat → Int32) (mVaf : Nat → Int32) (mLaf : Nat → Int32) (N : Nat) (v1 : Int32) (r : Int32) (o_mRof : Nat → Int64) (o_mKnf : Nat → Int32) (o_mNef : Nat → Int64) (o_mSef : Nat → Int32) (o_mVaf : Nat → Int32) (o_mLaf : Nat → Int32) (hf : f_M_still N mdL mdS mdQ mWhf mTrf mCof mWif mPcf mItf mRof mKnf mNef mSef mVaf mLaf v1 = some (r, o_mRof, o_mKnf, o_mNef, o_mSef, o_mVaf, o_mLaf)) : WrI l y_M_still w_M_still rm_M_still D zz_cl (mt_ty cK RK2) [.ref md, .int v1] [(md, .inr (6, [.int mdN, .int mdL, .ref mWh, .ref mTr, .ref mCo, .int mdS, .ref mWi, .ref mPc, .ref mIt, .int mdQ, .ref mRo, .ref mKn, .ref mNe, .ref mSe, .ref mVa, .ref mLa])), (mWh, .inl (cK 0, 400, .inl mWhf)), (mTr, .inl (cK 0, 400, .inl mTrf)), (mCo, .inl (cK 1, 400, .inl mCof)), (mWi, .inl (cK 0, 12, .inl mWif)), (mPc, .inl (cK 0, 12, .inl mPcf)), (mIt, .inl (cK 0, 108, .inl mItf)), (mRo, .inl (cK 2, 761856, .inr (.inl mRof))), (mKn, .inl (cK 1, 744, .inl mKnf)), (mNe, .inl (cK 2, 1024, .inr (.inl mNef))), (mSe, .inl (cK 1, 2048, .inl mSef)), (mVa, .inl (cK 0, 5, .inl mVaf)), (mLa, .inl (cK 0, 2048, .inl mLaf))] [(md, .inr (6, [.int mdN, .int mdL, .ref mWh, .ref mTr, .ref mCo, .int mdS, .ref mWi, .ref mPc, .ref mIt, .int mdQ, .ref mRo, .ref mKn, .ref mNe, .ref mSe, .ref mVa, .ref mLa])), (mWh, .inl (cK 0, 400, .inl mWhf)), (mTr, .inl (cK 0, 400, .inl mTrf)), (mCo, .inl (cK 1, 400, .inl mCof)), (mWi, .inl (cK 0, 12, .inl mWif)), (mPc, .inl (cK 0, 12, .inl mPcf)), (mIt, .inl (cK 0, 108, .inl mItf)), (mRo, .inl (cK 2, 761856, .inr (.inl o_mRof))), (mKn, .inl (cK 1, 744, .inl o_mKnf)), (mNe, .inl (cK 2, 1024, .inr (.inl o_mNef))), (mSe, .inl (cK 1, 2048, .inl o_mSef)), (mVa, .inl (cK 0, 5, .inl o_mVaf)), (mLa, .inl (cK 0, 2048, .inl o_mLaf))] r := by
  refine mk_WrI (cc := b_M_still) (maxL := 7) (ty := .int) (by decide +kernel) rfl (Nat.le_of_ble_eq_true rfl) ?_
  intro p e s m below meth c args Q A ls hx hb hml hown hts hA hK hP hD hret hl
  have hS : va_S A s.heap s.heap [] := va_S.rf
  have hl : lv_has ls 7 [(0, .ref md), (1, .int v1)] := hl
  have J_17 : ∀ (v1 : Int32) (n_17 : Nat) (mRof : Nat → Int64) (mKnf : Nat → Int32) (mNef : Nat → Int64) (mSef : Nat → Int32) (mVaf : Nat → Int32) (mLaf : Nat → Int32) (v2 : Int32) (v3 : Int32) (H : Heap) (locs : List Loc) (ls : Array Slot), f_M_still_17 N mdL mdS mdQ mWhf mTrf mCof mWif mPcf mItf v1 n_17 mRof mKnf mNef mSef mVaf mLaf v2 v3 = some (r, o_mRof, o_mKnf, o_mNef, o_mSef, o_mVaf, o_mLaf) → va_P D zz_cl [(md, .inr (6, [.int mdN, .int mdL, .ref mWh, .ref mTr, .ref mCo, .int mdS, .ref mWi, .ref mPc, .ref mIt, .int mdQ, .ref mRo, .ref mKn, .ref mNe, .ref mSe, .ref mVa, .ref mLa])), (mWh, .inl (cK 0, 400, .inl mWhf)), (mTr, .inl (cK 0, 400, .inl mTrf)), (mCo, .inl (cK 1, 400, .inl mCof)), (mWi, .inl (cK 0, 12, .inl mWif)), (mPc, .inl (cK 0, 12, .inl mPcf)), (mIt, .inl (cK 0, 108, .inl mItf)), (mRo, .inl (cK 2, 761856, .inr (.inl mRof))), (mKn, .inl (cK 1, 744, .inl mKnf)), (mNe, .inl (cK 2, 1024, .inr (.inl mNef))), (mSe, .inl (cK 1, 2048, .inl mSef)), (mVa, .inl (cK 0, 5, .inl mVaf)), (mLa, .inl (cK 0, 2048, .inl mLaf))] H → va_D A [(md, .inr (6, [.int mdN, .int mdL, .ref mWh, .ref mTr, .ref mCo, .int mdS, .ref mWi, .ref mPc, .ref mIt, .int mdQ, .ref mRo, .ref mKn, .ref mNe, .ref mSe, .ref mVa, .ref mLa])), (mWh, .inl (cK 0, 400, .inl mWhf)), (mTr, .inl (cK 0, 400, .inl mTrf)), (mCo, .inl (cK 1, 400, .inl mCof)), (mWi, .inl (cK 0, 12, .inl mWif)), (mPc, .inl (cK 0, 12, .inl mPcf)), (mIt, .inl (cK 0, 108, .inl mItf)), (mRo, .inl (cK 2, 761856, .inr (.inl mRof))), (mKn, .inl (cK 1, 744, .inl mKnf)), (mNe, .inl (cK 2, 1024, .inr (.inl mNef))), (mSe, .inl (cK 1, 2048, .inl mSef)), (mVa, .inl (cK 0, 5, .inl mVaf)), (mLa, .inl (cK 0, 2048, .inl mLaf))] → va_S A s.heap H locs → lv_has ls 7 [(0, .ref md), (1, .int v1), (2, .int v2), (3, .int v3)] → W p l e rm_M_still s m args below meth c H locs 0 0 Q (F0 m 17 ls []) := by
    intro v1 n_17
    induction n_17 with
    | zero =>
      intro mRof mKnf mNef mSef mVaf mLaf v2 v3 H locs ls hf hP hD hS hl
      exact fn_0 hf
    | succ n_17 ih_17 =>
      have J_46 : ∀ (v2 : Int32) (v4 : Int32) (v5 : Int32) (n_46 : Nat) (mRof : Nat → Int64) (mKnf : Nat → Int32) (mNef : Nat → Int64) (mSef : Nat → Int32) (mVaf : Nat → Int32) (mLaf : Nat → Int32) (v3 : Int32) (v6 : Int32) (H : Heap) (locs : List Loc) (ls : Array Slot), f_M_still_46 N mdL mdS mdQ mWhf mTrf mCof mWif mPcf mItf (f_M_still_17 N mdL mdS mdQ mWhf mTrf mCof mWif mPcf mItf v1 n_17) v1 v2 v4 v5 n_46 mRof mKnf mNef mSef mVaf mLaf v3 v6 = some (r, o_mRof, o_mKnf, o_mNef, o_mSef, o_mVaf, o_mLaf) → va_P D zz_cl [(md, .inr (6, [.int mdN, .int mdL, .ref mWh, .ref mTr, .ref mCo, .int mdS, .ref mWi, .ref mPc, .ref mIt, .int mdQ, .ref mRo, .ref mKn, .ref mNe, .ref mSe, .ref mVa, .ref mLa])), (mWh, .inl (cK 0, 400, .inl mWhf)), (mTr, .inl (cK 0, 400, .inl mTrf)), (mCo, .inl (cK 1, 400, .inl mCof)), (mWi, .inl (cK 0, 12, .inl mWif)), (mPc, .inl (cK 0, 12, .inl mPcf)), (mIt, .inl (cK 0, 108, .inl mItf)), (mRo, .inl (cK 2, 761856, .inr (.inl mRof))), (mKn, .inl (cK 1, 744, .inl mKnf)), (mNe, .inl (cK 2, 1024, .inr (.inl mNef))), (mSe, .inl (cK 1, 2048, .inl mSef)), (mVa, .inl (cK 0, 5, .inl mVaf)), (mLa, .inl (cK 0, 2048, .inl mLaf))] H → va_D A [(md, .inr (6, [.int mdN, .int mdL, .ref mWh, .ref mTr, .ref mCo, .int mdS, .ref mWi, .ref mPc, .ref mIt, .int mdQ, .ref mRo, .ref mKn, .ref mNe, .ref mSe, .ref mVa, .ref mLa])), (mWh, .inl (cK 0, 400, .inl mWhf)), (mTr, .inl (cK 0, 400, .inl mTrf)), (mCo, .inl (cK 1, 400, .inl mCof)), (mWi, .inl (cK 0, 12, .inl mWif)), (mPc, .inl (cK 0, 12, .inl mPcf)), (mIt, .inl (cK 0, 108, .inl mItf)), (mRo, .inl (cK 2, 761856, .inr (.inl mRof))), (mKn, .inl (cK 1, 744, .inl mKnf)), (mNe, .inl (cK 2, 1024, .inr (.inl mNef))), (mSe, .inl (cK 1, 2048, .inl mSef)), (mVa, .inl (cK 0, 5, .inl mVaf)), (mLa, .inl (cK 0, 2048, .inl mLaf))] → va_S A s.heap H locs → lv_has ls 7 [(0, .ref md), (1, .int v1), (2, .int v2), (3, .int v3), (4, .int v4), (5, .int v5), (6, .int v6)] → W p l e rm_M_still s m args below meth c H locs 0 0 Q (F0 m 46 ls []) := by
        intro v2 v4 v5 n_46
        induction n_46 with
        | zero =>
          intro mRof mKnf mNef mSef mVaf mLaf v3 v6 H locs ls hf hP hD hS hl
          exact fn_0 hf
        | succ n_46 ih_46 =>
          intro mRof mKnf mNef mSef mVaf mLaf v3 v6 H locs ls hf hP hD hS hl
          rw [f_M_still_46.eq_2] at hf
          refine lv_iload hx hb d_M_still_46 (lv_at hl 6 rfl) ?_
          refine lv_sipush (v := 1024) hx hb d_M_still_48 (by decide) ?_
          refine lv_icmp_ge (tgt := 94) hx hb d_M_still_51 (by decide) (fun hc => ?_) (fun hc => ?_)
          · have hf := fn_t hc hf
            refine lv_iload_n hx hb d_M_still_94 rfl (lv_at hl 2 rfl) ?_
            refine lv_iload_n hx hb d_M_still_95 rfl (lv_at hl 3 rfl) ?_
            refine lv_if_eq (tgt := 103) hx hb d_M_still_96 (by decide) (fun hc => ?_) (fun hc => ?_)
            · have hf := fn_t hc hf
              refine lv_iconst (v := 0) hx hb d_M_still_103 (by decide) ?_
              refine lv_isub hx hb d_M_still_104 ?_
              refine lv_istore_n (lv' := [(2, .int (v2 - 0)), (0, .ref md), (1, .int v1), (3, .int v3), (4, .int v4), (5, .int v5), (6, .int v6)]) hx hb d_M_still_105 rfl hl (by decide) rfl (fun ls hl => ?_)
              refine lv_goto (tgt := 17) hx hb d_M_still_106 (by decide) ?_
              exact ih_17 _ _ _ _ _ _ _ _ _ _ _ hf hP hD hS (lv_sub hl [1, 2, 0, 3] rfl)
            · have hf := fn_f hc hf
              refine lv_iconst (v := 1) hx hb d_M_still_99 (by decide) ?_
              refine lv_goto (tgt := 104) hx hb d_M_still_100 (by decide) ?_
              refine lv_isub hx hb d_M_still_104 ?_
              refine lv_istore_n (lv' := [(2, .int (v2 - 1)), (0, .ref md), (1, .int v1), (3, .int v3), (4, .int v4), (5, .int v5), (6, .int v6)]) hx hb d_M_still_105 rfl hl (by decide) rfl (fun ls hl => ?_)
              refine lv_goto (tgt := 17) hx hb d_M_still_106 (by decide) ?_
              exact ih_17 _ _ _ _ _ _ _ _ _ _ _ hf hP hD hS (lv_sub hl [1, 2, 0, 3] rfl)
          · have hf := fn_f hc hf
            refine lv_iload_n hx hb d_M_still_54 rfl (lv_at hl 3 rfl) ?_
            refine lv_if_eq (tgt := 94) hx hb d_M_still_55 (by decide) (fun hc => ?_) (fun hc => ?_)
            · have hf := fn_t hc hf
              refine lv_iload_n hx hb d_M_still_94 rfl (lv_at hl 2 rfl) ?_
              refine lv_iload_n hx hb d_M_still_95 rfl (lv_at hl 3 rfl) ?_
              refine lv_if_eq (tgt := 103) hx hb d_M_still_96 (by decide) (fun hc => ?_) (fun hc => ?_)
              · have hf := fn_t hc hf
                refine lv_iconst (v := 0) hx hb d_M_still_103 (by decide) ?_
                refine lv_isub hx hb d_M_still_104 ?_
                refine lv_istore_n (lv' := [(2, .int (v2 - 0)), (0, .ref md), (1, .int v1), (3, .int v3), (4, .int v4), (5, .int v5), (6, .int v6)]) hx hb d_M_still_105 rfl hl (by decide) rfl (fun ls hl => ?_)
                refine lv_goto (tgt := 17) hx hb d_M_still_106 (by decide) ?_
                exact ih_17 _ _ _ _ _ _ _ _ _ _ _ hf hP hD hS (lv_sub hl [1, 2, 0, 3] rfl)
              · have hf := fn_f hc hf
                refine lv_iconst (v := 1) hx hb d_M_still_99 (by decide) ?_
                refine lv_goto (tgt := 104) hx hb d_M_still_100 (by decide) ?_
                refine lv_isub hx hb d_M_still_104 ?_
                refine lv_istore_n (lv' := [(2, .int (v2 - 1)), (0, .ref md), (1, .int v1), (3, .int v3), (4, .int v4), (5, .int v5), (6, .int v6)]) hx hb d_M_still_105 rfl hl (by decide) rfl (fun ls hl => ?_)
                refine lv_goto (tgt := 17) hx hb d_M_still_106 (by decide) ?_
                exact ih_17 _ _ _ _ _ _ _ _ _ _ _ hf hP hD hS (lv_sub hl [1, 2, 0, 3] rfl)
            · have hf := fn_f hc hf
              refine lv_aload_n hx hb d_M_still_58 rfl (lv_at hl 0 rfl) ?_
              refine va_get (D := D) (ci := 6) (v := .ref mRo) (C := RK6) (T := TK6) (N := 16) hx hb hts iwK6 hown hK hP 0 rfl rfl 10 (by decide) (hts _ fl_M_30) (fun _ h9 => h9) rfl d_M_still_59 ?_
              refine lv_iload hx hb d_M_still_62 (lv_at hl 4 rfl) ?_
              refine lv_iload hx hb d_M_still_64 (lv_at hl 6 rfl) ?_
              refine lv_iadd hx hb d_M_still_66 ?_
              have hg := fn_g hf
              have hf := fn_t hg hf
              refine va_lald hx hb hK hP 7 2 rfl rfl (fn_v hg) d_M_still_67 ?_
              refine lv_aload_n hx hb d_M_still_68 rfl (lv_at hl 0 rfl) ?_
              refine va_get (D := D) (ci := 6) (v := .ref mRo) (C := RK6) (T := TK6) (N := 16) hx hb hts iwK6 hown hK hP 0 rfl rfl 10 (by decide) (hts _ fl_M_30) (fun _ h9 => h9) rfl d_M_still_69 ?_
              refine lv_iload hx hb d_M_still_72 (lv_at hl 5 rfl) ?_
              refine lv_iload hx hb d_M_still_74 (lv_at hl 6 rfl) ?_
              refine lv_iadd hx hb d_M_still_76 ?_
              have hg := fn_g hf
              have hf := fn_t hg hf
              refine va_lald hx hb hK hP 7 2 rfl rfl (fn_v hg) d_M_still_77 ?_
              refine W.lcmp hx hb d_M_still_78 ?_
              refine lv_if_ne (tgt := 86) hx hb d_M_still_79 (by decide) (fun hc => ?_) (fun hc => ?_)
              · have hf := fn_f hc hf
                refine lv_iconst (v := 0) hx hb d_M_still_86 (by decide) ?_
                refine lv_istore_n (lv' := [(3, .int 0), (0, .ref md), (1, .int v1), (2, .int v2), (4, .int v4), (5, .int v5), (6, .int v6)]) hx hb d_M_still_87 rfl hl (by decide) rfl (fun ls hl => ?_)
                refine lv_iinc (v := (v6 + 1)) (lv' := [(6, .int (v6 + 1)), (3, .int 0), (0, .ref md), (1, .int v1), (2, .int v2), (4, .int v4), (5, .int v5)]) hx hb d_M_still_88 hl (k := 6) rfl rfl (by decide) rfl (fun ls hl => ?_)
                refine lv_goto (tgt := 46) hx hb d_M_still_91 (by decide) ?_
                exact ih_46 _ _ _ _ _ _ _ _ _ _ _ hf hP hD hS (lv_sub hl [2, 3, 4, 1, 5, 6, 0] rfl)
              · have hf := fn_t hc hf
                refine lv_iconst (v := 1) hx hb d_M_still_82 (by decide) ?_
                refine lv_goto (tgt := 87) hx hb d_M_still_83 (by decide) ?_
                refine lv_istore_n (lv' := [(3, .int 1), (0, .ref md), (1, .int v1), (2, .int v2), (4, .int v4), (5, .int v5), (6, .int v6)]) hx hb d_M_still_87 rfl hl (by decide) rfl (fun ls hl => ?_)
                refine lv_iinc (v := (v6 + 1)) (lv' := [(6, .int (v6 + 1)), (3, .int 1), (0, .ref md), (1, .int v1), (2, .int v2), (4, .int v4), (5, .int v5)]) hx hb d_M_still_88 hl (k := 6) rfl rfl (by decide) rfl (fun ls hl => ?_)
                refine lv_goto (tgt := 46) hx hb d_M_still_91 (by decide) ?_
                exact ih_46 _ _ _ _ _ _ _ _ _ _ _ hf hP hD hS (lv_sub hl [2, 3, 4, 1, 5, 6, 0] rfl)
      intro mRof mKnf mNef mSef mVaf mLaf v2 v3 H locs ls hf hP hD hS hl
      rw [f_M_still_17.eq_2] at hf
      refine lv_iload_n hx hb d_M_still_17 rfl (lv_at hl 2 rfl) ?_
      refine lv_if_le (tgt := 109) hx hb d_M_still_18 (by decide) (fun hc => ?_) (fun hc => ?_)
      · have hf := fn_t hc hf
        refine lv_iload_n hx hb d_M_still_109 rfl (lv_at hl 2 rfl) ?_
        cases hf
        exact hret _ _ 110 _ hP hD hS rfl d_M_still_110
      · have hf := fn_f hc hf
        refine lv_iload_n hx hb d_M_still_21 rfl (lv_at hl 3 rfl) ?_
        refine lv_if_eq (tgt := 109) hx hb d_M_still_22 (by decide) (fun hc => ?_) (fun hc => ?_)
        · have hf := fn_t hc hf
          refine lv_iload_n hx hb d_M_still_109 rfl (lv_at hl 2 rfl) ?_
          cases hf
          exact hret _ _ 110 _ hP hD hS rfl d_M_still_110
        · have hf := fn_f hc hf
          refine lv_aload_n hx hb d_M_still_25 rfl (lv_at hl 0 rfl) ?_
          refine lv_iload_n hx hb d_M_still_26 rfl (lv_at hl 1 rfl) ?_
          refine lv_iload_n hx hb d_M_still_27 rfl (lv_at hl 2 rfl) ?_
          obtain ⟨r_28, mRof_28, mKnf_28, mNef_28, mSef_28, mVaf_28, mLaf_28, hcl, hf⟩ := fn_e7 hf
          refine cv_WrI (rest := []) (wr := []) (w' := [(md, .inr (6, [.int mdN, .int mdL, .ref mWh, .ref mTr, .ref mCo, .int mdS, .ref mWi, .ref mPc, .ref mIt, .int mdQ, .ref mRo, .ref mKn, .ref mNe, .ref mSe, .ref mVa, .ref mLa])), (mWh, .inl (cK 0, 400, .inl mWhf)), (mTr, .inl (cK 0, 400, .inl mTrf)), (mCo, .inl (cK 1, 400, .inl mCof)), (mWi, .inl (cK 0, 12, .inl mWif)), (mPc, .inl (cK 0, 12, .inl mPcf)), (mIt, .inl (cK 0, 108, .inl mItf)), (mRo, .inl (cK 2, 761856, .inr (.inl mRof_28))), (mKn, .inl (cK 1, 744, .inl mKnf_28)), (mNe, .inl (cK 2, 1024, .inr (.inl mNef_28))), (mSe, .inl (cK 1, 2048, .inl mSef_28)), (mVa, .inl (cK 0, 5, .inl mVaf_28)), (mLa, .inl (cK 0, 2048, .inl mLaf_28))]) ⟨hx, hb, hml, hown, hts⟩ (c_M_rowsOf l D cK md mWh mTr mCo mWi mPc mIt mRo mKn mNe mSe mVa mLa mdN mdL mdS mdQ mWhf mTrf mCof mWif mPcf mItf mRof mKnf mNef mSef mVaf mLaf N v1 v2 r_28 mRof_28 mKnf_28 mNef_28 mSef_28 mVaf_28 mLaf_28 hcl) (cwV 2 hts (zz_V ml_M_119 im_M_rowsOf se_M_rowsOf in_M co_M_rowsOf) rfl rfl rfl ⟨rfl, hd_M_rowsOf⟩ ⟨Nat.le_of_ble_eq_true rfl, Nat.le_of_ble_eq_true rfl⟩) hK hP hD hS hA [0, 1, 2, 3, 4, 5, 6, 7, 8, 9, 10, 11, 12] [] [0, 1, 2, 3, 4, 5, 6, 7, 8, 9, 10, 11, 12] rfl (by decide) rfl (by decide) (by decide) rfl (by decide) 0 rfl rfl rfl rfl hl.1 rfl (Nat.le_of_ble_eq_true rfl) d_M_still_28 ⟨Nat.zero_le _, Nat.zero_le _⟩ (fun H locs hP hD hS => ?_)
          refine lv_istore (lv' := [(4, .int r_28), (0, .ref md), (1, .int v1), (2, .int v2), (3, .int v3)]) hx hb d_M_still_31 hl (by decide) rfl (fun ls hl => ?_)
          refine lv_aload_n hx hb d_M_still_33 rfl (lv_at hl 1 rfl) ?_
          refine lv_iload_n hx hb d_M_still_34 rfl (lv_at hl 2 rfl) ?_
          refine lv_iload_n hx hb d_M_still_35 rfl (lv_at hl 3 rfl) ?_
          refine lv_iconst (v := 1) hx hb d_M_still_36 (by decide) ?_
          refine lv_isub hx hb d_M_still_37 ?_
          obtain ⟨r_38, mRof_38, mKnf_38, mNef_38, mSef_38, mVaf_38, mLaf_38, hcl, hf⟩ := fn_e7 hf
          refine cv_WrI (rest := []) (wr := []) (w' := [(md, .inr (6, [.int mdN, .int mdL, .ref mWh, .ref mTr, .ref mCo, .int mdS, .ref mWi, .ref mPc, .ref mIt, .int mdQ, .ref mRo, .ref mKn, .ref mNe, .ref mSe, .ref mVa, .ref mLa])), (mWh, .inl (cK 0, 400, .inl mWhf)), (mTr, .inl (cK 0, 400, .inl mTrf)), (mCo, .inl (cK 1, 400, .inl mCof)), (mWi, .inl (cK 0, 12, .inl mWif)), (mPc, .inl (cK 0, 12, .inl mPcf)), (mIt, .inl (cK 0, 108, .inl mItf)), (mRo, .inl (cK 2, 761856, .inr (.inl mRof_38))), (mKn, .inl (cK 1, 744, .inl mKnf_38)), (mNe, .inl (cK 2, 1024, .inr (.inl mNef_38))), (mSe, .inl (cK 1, 2048, .inl mSef_38)), (mVa, .inl (cK 0, 5, .inl mVaf_38)), (mLa, .inl (cK 0, 2048, .inl mLaf_38))]) ⟨hx, hb, hml, hown, hts⟩ (c_M_rowsOf l D cK md mWh mTr mCo mWi mPc mIt mRo mKn mNe mSe mVa mLa mdN mdL mdS mdQ mWhf mTrf mCof mWif mPcf mItf mRof_28 mKnf_28 mNef_28 mSef_28 mVaf_28 mLaf_28 N v1 (v2 - 1) r_38 mRof_38 mKnf_38 mNef_38 mSef_38 mVaf_38 mLaf_38 hcl) (cwV 2 hts (zz_V ml_M_119 im_M_rowsOf se_M_rowsOf in_M co_M_rowsOf) rfl rfl rfl ⟨rfl, hd_M_rowsOf⟩ ⟨Nat.le_of_ble_eq_true rfl, Nat.le_of_ble_eq_true rfl⟩) hK hP hD hS hA [0, 1, 2, 3, 4, 5, 6, 7, 8, 9, 10, 11, 12] [] [0, 1, 2, 3, 4, 5, 6, 7, 8, 9, 10, 11, 12] rfl (by decide) rfl (by decide) (by decide) rfl (by decide) 0 rfl rfl rfl rfl hl.1 rfl (Nat.le_of_ble_eq_true rfl) d_M_still_38 ⟨Nat.zero_le _, Nat.zero_le _⟩ (fun H locs hP hD hS => ?_)
          refine lv_istore (lv' := [(5, .int r_38), (4, .int r_28), (0, .ref md), (1, .int v1), (2, .int v2), (3, .int v3)]) hx hb d_M_still_41 hl (by decide) rfl (fun ls hl => ?_)
          refine lv_iconst (v := 0) hx hb d_M_still_43 (by decide) ?_
          refine lv_istore (lv' := [(6, .int 0), (5, .int r_38), (4, .int r_28), (0, .ref md), (1, .int v1), (2, .int v2), (3, .int v3)]) hx hb d_M_still_44 hl (by decide) rfl (fun ls hl => ?_)
          exact J_46 _ _ _ _ _ _ _ _ _ _ _ _ _ _ _ hf hP hD hS (lv_sub hl [3, 4, 5, 6, 2, 1, 0] rfl)
  unfold f_M_still at hf
  refine lv_aload_n hx hb d_M_still_0 rfl (lv_at hl 0 rfl) ?_
  refine lv_iload_n hx hb d_M_still_1 rfl (lv_at hl 1 rfl) ?_
  obtain ⟨r_2, hcl, hf⟩ := fn_e1 hf
  refine cv_RdI (rest := []) ⟨hx, hb, hml, hown, hts⟩ (c_M_isQuestion l D cK md mWh mTr mCo mWi mPc mIt mRo mKn mNe mSe mVa mLa mdN mdL mdS mdQ v1 r_2 hcl) (cwV 1 hts (zz_V ml_M_90 im_M_isQuestion se_M_isQuestion in_M co_M_isQuestion) rfl rfl rfl ⟨rfl, hd_M_isQuestion⟩ ⟨Nat.le_of_ble_eq_true rfl, Nat.le_of_ble_eq_true rfl⟩) hK hP [0] rfl 0 rfl rfl rfl rfl hl.1 rfl (Nat.le_of_ble_eq_true rfl) d_M_still_2 ⟨Nat.zero_le _, Nat.zero_le _⟩ ?_
  refine lv_if_ne (tgt := 10) hx hb d_M_still_5 (by decide) (fun hc => ?_) (fun hc => ?_)
  · have hf := fn_f hc hf
    refine lv_aload_n hx hb d_M_still_10 rfl (lv_at hl 0 rfl) ?_
    refine va_get (D := D) (ci := 6) (v := .int mdL) (C := RK6) (T := TK6) (N := 16) hx hb hts iwK6 hown hK hP 0 rfl rfl 1 (by decide) (hts _ fl_M_53) (fun _ h9 => h9) rfl d_M_still_11 ?_
    refine lv_istore_n (lv' := [(2, .int mdL), (0, .ref md), (1, .int v1)]) hx hb d_M_still_14 rfl hl (by decide) rfl (fun ls hl => ?_)
    refine lv_iconst (v := 1) hx hb d_M_still_15 (by decide) ?_
    refine lv_istore_n (lv' := [(3, .int 1), (2, .int mdL), (0, .ref md), (1, .int v1)]) hx hb d_M_still_16 rfl hl (by decide) rfl (fun ls hl => ?_)
    exact J_17 _ _ _ _ _ _ _ _ _ _ _ _ _ hf hP hD hS (lv_sub hl [2, 3, 1, 0] rfl)
  · have hf := fn_t hc hf
    refine lv_iconst (v := (-1)) hx hb d_M_still_8 (by decide) ?_
    cases hf
    exact hret _ _ 9 _ hP hD hS rfl d_M_still_9
abbrev rm_M_late : Room := { frames := 5, cells := 0, slots := 0, locals := 127 }
set_option maxHeartbeats 4000000 in
set_option maxRecDepth 100000 in
theorem c_M_late (l : Launch) (D : va_G) (cK : Nat → ClassId) (md mWh mTr mCo mWi mPc mIt mRo mKn mNe mSe mVa mLa : Nat) (mdN : Int32) (mdL : Int32) (mdS : Int32) (mdQ : Int32) (mWhf : Nat → Int32) (mTrf : Nat → Int32) (mCof : Nat → Int32) (mWif : Nat → Int32) (mPcf : Nat → Int32) (mItf : Nat → Int32) (mRof : Nat → Int64) (mKnf : Nat → Int32) (mNef : Nat → Int64) (mSef : Nat → Int32) (mVaf : Nat → Int32) (mLaf : Nat → Int32) (N : Nat) (v1 : Int32) (v2 : Int32) (v3 : Int32) (v4 : Int32) (v5 : Int32) (r : Int32) (o_mdS : Int32) (o_mWhf : Nat → Int32) (o_mTrf : Nat → Int32) (o_mCof : Nat → Int32) (o_mRof : Nat → Int64) (o_mKnf : Nat → Int32) (o_mNef : Nat → Int64) (o_mSef : Nat → Int32) (o_mVaf : Nat → Int32) (o_mLaf : Nat → Int32) (hf : f_M_late N mdL mdS mdQ mWhf mTrf mCof mWif mPcf mItf mRof mKnf mNef mSef mVaf mLaf v1 v2 v3 v4 v5 = some (r, o_mdS, o_mWhf, o_mTrf, o_mCof, o_mRof, o_mKnf, o_mNef, o_mSef, o_mVaf, o_mLaf)) : WrI l y_M_late w_M_late rm_M_late D zz_cl (mt_ty cK RK2) [.ref md, .int v1, .int v2, .int v3, .int v4, .int v5] [(md, .inr (6, [.int mdN, .int mdL, .ref mWh, .ref mTr, .ref mCo, .int mdS, .ref mWi, .ref mPc, .ref mIt, .int mdQ, .ref mRo, .ref mKn, .ref mNe, .ref mSe, .ref mVa, .ref mLa])), (mWh, .inl (cK 0, 400, .inl mWhf)), (mTr, .inl (cK 0, 400, .inl mTrf)), (mCo, .inl (cK 1, 400, .inl mCof)), (mWi, .inl (cK 0, 12, .inl mWif)), (mPc, .inl (cK 0, 12, .inl mPcf)), (mIt, .inl (cK 0, 108, .inl mItf)), (mRo, .inl (cK 2, 761856, .inr (.inl mRof))), (mKn, .inl (cK 1, 744, .inl mKnf)), (mNe, .inl (cK 2, 1024, .inr (.inl mNef))), (mSe, .inl (cK 1, 2048, .inl mSef)), (mVa, .inl (cK 0, 5, .inl mVaf)), (mLa, .inl (cK 0, 2048, .inl mLaf))] [(md, .inr (6, [.int mdN, .int mdL, .ref mWh, .ref mTr, .ref mCo, .int o_mdS, .ref mWi, .ref mPc, .ref mIt, .int mdQ, .ref mRo, .ref mKn, .ref mNe, .ref mSe, .ref mVa, .ref mLa])), (mWh, .inl (cK 0, 400, .inl o_mWhf)), (mTr, .inl (cK 0, 400, .inl o_mTrf)), (mCo, .inl (cK 1, 400, .inl o_mCof)), (mWi, .inl (cK 0, 12, .inl mWif)), (mPc, .inl (cK 0, 12, .inl mPcf)), (mIt, .inl (cK 0, 108, .inl mItf)), (mRo, .inl (cK 2, 761856, .inr (.inl o_mRof))), (mKn, .inl (cK 1, 744, .inl o_mKnf)), (mNe, .inl (cK 2, 1024, .inr (.inl o_mNef))), (mSe, .inl (cK 1, 2048, .inl o_mSef)), (mVa, .inl (cK 0, 5, .inl o_mVaf)), (mLa, .inl (cK 0, 2048, .inl o_mLaf))] r := by
  refine mk_WrI (cc := b_M_late) (maxL := 10) (ty := .int) (by decide +kernel) rfl (Nat.le_of_ble_eq_true rfl) ?_
  intro p e s m below meth c args Q A ls hx hb hml hown hts hA hK hP hD hret hl
  have hS : va_S A s.heap s.heap [] := va_S.rf
  have hl : lv_has ls 10 [(0, .ref md), (1, .int v1), (2, .int v2), (3, .int v3), (4, .int v4), (5, .int v5)] := hl
  have J_102 : ∀  (n_102 : Nat) (mdS : Int32) (mWhf : Nat → Int32) (mTrf : Nat → Int32) (mCof : Nat → Int32) (mRof : Nat → Int64) (mKnf : Nat → Int32) (mNef : Nat → Int64) (mSef : Nat → Int32) (mVaf : Nat → Int32) (mLaf : Nat → Int32) (v6 : Int32) (v7 : Int32) (H : Heap) (locs : List Loc) (ls : Array Slot), f_M_late_102 N mdL mdQ mWif mPcf mItf n_102 mdS mWhf mTrf mCof mRof mKnf mNef mSef mVaf mLaf v6 v7 = some (r, o_mdS, o_mWhf, o_mTrf, o_mCof, o_mRof, o_mKnf, o_mNef, o_mSef, o_mVaf, o_mLaf) → va_P D zz_cl [(md, .inr (6, [.int mdN, .int mdL, .ref mWh, .ref mTr, .ref mCo, .int mdS, .ref mWi, .ref mPc, .ref mIt, .int mdQ, .ref mRo, .ref mKn, .ref mNe, .ref mSe, .ref mVa, .ref mLa])), (mWh, .inl (cK 0, 400, .inl mWhf)), (mTr, .inl (cK 0, 400, .inl mTrf)), (mCo, .inl (cK 1, 400, .inl mCof)), (mWi, .inl (cK 0, 12, .inl mWif)), (mPc, .inl (cK 0, 12, .inl mPcf)), (mIt, .inl (cK 0, 108, .inl mItf)), (mRo, .inl (cK 2, 761856, .inr (.inl mRof))), (mKn, .inl (cK 1, 744, .inl mKnf)), (mNe, .inl (cK 2, 1024, .inr (.inl mNef))), (mSe, .inl (cK 1, 2048, .inl mSef)), (mVa, .inl (cK 0, 5, .inl mVaf)), (mLa, .inl (cK 0, 2048, .inl mLaf))] H → va_D A [(md, .inr (6, [.int mdN, .int mdL, .ref mWh, .ref mTr, .ref mCo, .int mdS, .ref mWi, .ref mPc, .ref mIt, .int mdQ, .ref mRo, .ref mKn, .ref mNe, .ref mSe, .ref mVa, .ref mLa])), (mWh, .inl (cK 0, 400, .inl mWhf)), (mTr, .inl (cK 0, 400, .inl mTrf)), (mCo, .inl (cK 1, 400, .inl mCof)), (mWi, .inl (cK 0, 12, .inl mWif)), (mPc, .inl (cK 0, 12, .inl mPcf)), (mIt, .inl (cK 0, 108, .inl mItf)), (mRo, .inl (cK 2, 761856, .inr (.inl mRof))), (mKn, .inl (cK 1, 744, .inl mKnf)), (mNe, .inl (cK 2, 1024, .inr (.inl mNef))), (mSe, .inl (cK 1, 2048, .inl mSef)), (mVa, .inl (cK 0, 5, .inl mVaf)), (mLa, .inl (cK 0, 2048, .inl mLaf))] → va_S A s.heap H locs → lv_has ls 10 [(0, .ref md), (6, .int v6), (7, .int v7)] → W p l e rm_M_late s m args below meth c H locs 0 0 Q (F0 m 102 ls []) := by
    intro n_102
    induction n_102 with
    | zero =>
      intro mdS mWhf mTrf mCof mRof mKnf mNef mSef mVaf mLaf v6 v7 H locs ls hf hP hD hS hl
      exact fn_0 hf
    | succ n_102 ih_102 =>
      have J_117 : ∀ (v6 : Int32) (v7 : Int32) (n_117 : Nat) (mdS : Int32) (mWhf : Nat → Int32) (mTrf : Nat → Int32) (mCof : Nat → Int32) (mRof : Nat → Int64) (mKnf : Nat → Int32) (mNef : Nat → Int64) (mSef : Nat → Int32) (mVaf : Nat → Int32) (mLaf : Nat → Int32) (v8 : Int32) (v9 : Int32) (H : Heap) (locs : List Loc) (ls : Array Slot), f_M_late_117 N mdL mdQ mWif mPcf mItf (f_M_late_102 N mdL mdQ mWif mPcf mItf n_102) v6 v7 n_117 mdS mWhf mTrf mCof mRof mKnf mNef mSef mVaf mLaf v8 v9 = some (r, o_mdS, o_mWhf, o_mTrf, o_mCof, o_mRof, o_mKnf, o_mNef, o_mSef, o_mVaf, o_mLaf) → va_P D zz_cl [(md, .inr (6, [.int mdN, .int mdL, .ref mWh, .ref mTr, .ref mCo, .int mdS, .ref mWi, .ref mPc, .ref mIt, .int mdQ, .ref mRo, .ref mKn, .ref mNe, .ref mSe, .ref mVa, .ref mLa])), (mWh, .inl (cK 0, 400, .inl mWhf)), (mTr, .inl (cK 0, 400, .inl mTrf)), (mCo, .inl (cK 1, 400, .inl mCof)), (mWi, .inl (cK 0, 12, .inl mWif)), (mPc, .inl (cK 0, 12, .inl mPcf)), (mIt, .inl (cK 0, 108, .inl mItf)), (mRo, .inl (cK 2, 761856, .inr (.inl mRof))), (mKn, .inl (cK 1, 744, .inl mKnf)), (mNe, .inl (cK 2, 1024, .inr (.inl mNef))), (mSe, .inl (cK 1, 2048, .inl mSef)), (mVa, .inl (cK 0, 5, .inl mVaf)), (mLa, .inl (cK 0, 2048, .inl mLaf))] H → va_D A [(md, .inr (6, [.int mdN, .int mdL, .ref mWh, .ref mTr, .ref mCo, .int mdS, .ref mWi, .ref mPc, .ref mIt, .int mdQ, .ref mRo, .ref mKn, .ref mNe, .ref mSe, .ref mVa, .ref mLa])), (mWh, .inl (cK 0, 400, .inl mWhf)), (mTr, .inl (cK 0, 400, .inl mTrf)), (mCo, .inl (cK 1, 400, .inl mCof)), (mWi, .inl (cK 0, 12, .inl mWif)), (mPc, .inl (cK 0, 12, .inl mPcf)), (mIt, .inl (cK 0, 108, .inl mItf)), (mRo, .inl (cK 2, 761856, .inr (.inl mRof))), (mKn, .inl (cK 1, 744, .inl mKnf)), (mNe, .inl (cK 2, 1024, .inr (.inl mNef))), (mSe, .inl (cK 1, 2048, .inl mSef)), (mVa, .inl (cK 0, 5, .inl mVaf)), (mLa, .inl (cK 0, 2048, .inl mLaf))] → va_S A s.heap H locs → lv_has ls 10 [(0, .ref md), (6, .int v6), (7, .int v7), (8, .int v8), (9, .int v9)] → W p l e rm_M_late s m args below meth c H locs 0 0 Q (F0 m 117 ls []) := by
        intro v6 v7 n_117
        induction n_117 with
        | zero =>
          intro mdS mWhf mTrf mCof mRof mKnf mNef mSef mVaf mLaf v8 v9 H locs ls hf hP hD hS hl
          exact fn_0 hf
        | succ n_117 ih_117 =>
          intro mdS mWhf mTrf mCof mRof mKnf mNef mSef mVaf mLaf v8 v9 H locs ls hf hP hD hS hl
          rw [f_M_late_117.eq_2] at hf
          refine lv_iload hx hb d_M_late_117 (lv_at hl 4 rfl) ?_
          refine lv_aload_n hx hb d_M_late_119 rfl (lv_at hl 0 rfl) ?_
          refine va_get (D := D) (ci := 6) (v := .int mdQ) (C := RK6) (T := TK6) (N := 16) hx hb hts iwK6 hown hK hP 0 rfl rfl 9 (by decide) (hts _ fl_M_56) (fun _ h9 => h9) rfl d_M_late_120 ?_
          refine lv_icmp_ge (tgt := 155) hx hb d_M_late_123 (by decide) (fun hc => ?_) (fun hc => ?_)
          · have hf := fn_t hc hf
            refine lv_iload hx hb d_M_late_155 (lv_at hl 1 rfl) ?_
            refine lv_iload hx hb d_M_late_157 (lv_at hl 3 rfl) ?_
            refine lv_if_eq (tgt := 166) hx hb d_M_late_159 (by decide) (fun hc => ?_) (fun hc => ?_)
            · have hf := fn_t hc hf
              refine lv_iconst (v := 0) hx hb d_M_late_166 (by decide) ?_
              refine lv_iadd hx hb d_M_late_167 ?_
              refine lv_istore (lv' := [(6, .int (v6 + 0)), (0, .ref md), (7, .int v7), (8, .int v8), (9, .int v9)]) hx hb d_M_late_168 hl (by decide) rfl (fun ls hl => ?_)
              refine lv_iinc (v := (v7 + 1)) (lv' := [(7, .int (v7 + 1)), (6, .int (v6 + 0)), (0, .ref md), (8, .int v8), (9, .int v9)]) hx hb d_M_late_170 hl (k := 2) rfl rfl (by decide) rfl (fun ls hl => ?_)
              refine lv_goto (tgt := 102) hx hb d_M_late_173 (by decide) ?_
              exact ih_102 _ _ _ _ _ _ _ _ _ _ _ _ _ _ _ hf hP hD hS (lv_sub hl [2, 1, 0] rfl)
            · have hf := fn_f hc hf
              refine lv_iconst (v := 1) hx hb d_M_late_162 (by decide) ?_
              refine lv_goto (tgt := 167) hx hb d_M_late_163 (by decide) ?_
              refine lv_iadd hx hb d_M_late_167 ?_
              refine lv_istore (lv' := [(6, .int (v6 + 1)), (0, .ref md), (7, .int v7), (8, .int v8), (9, .int v9)]) hx hb d_M_late_168 hl (by decide) rfl (fun ls hl => ?_)
              refine lv_iinc (v := (v7 + 1)) (lv' := [(7, .int (v7 + 1)), (6, .int (v6 + 1)), (0, .ref md), (8, .int v8), (9, .int v9)]) hx hb d_M_late_170 hl (k := 2) rfl rfl (by decide) rfl (fun ls hl => ?_)
              refine lv_goto (tgt := 102) hx hb d_M_late_173 (by decide) ?_
              exact ih_102 _ _ _ _ _ _ _ _ _ _ _ _ _ _ _ hf hP hD hS (lv_sub hl [2, 1, 0] rfl)
          · have hf := fn_f hc hf
            refine lv_aload_n hx hb d_M_late_126 rfl (lv_at hl 0 rfl) ?_
            refine lv_iload hx hb d_M_late_127 (lv_at hl 4 rfl) ?_
            refine lv_iload hx hb d_M_late_129 (lv_at hl 2 rfl) ?_
            obtain ⟨r_131, mRof_131, mNef_131, mSef_131, mVaf_131, mLaf_131, hcl, hf⟩ := fn_e6 hf
            refine cv_WrI (rest := []) (wr := [(mKn, .inl (cK 1, 744, .inl mKnf))]) (w' := [(md, .inr (6, [.int mdN, .int mdL, .ref mWh, .ref mTr, .ref mCo, .int mdS, .ref mWi, .ref mPc, .ref mIt, .int mdQ, .ref mRo, .ref mKn, .ref mNe, .ref mSe, .ref mVa, .ref mLa])), (mWh, .inl (cK 0, 400, .inl mWhf)), (mTr, .inl (cK 0, 400, .inl mTrf)), (mCo, .inl (cK 1, 400, .inl mCof)), (mWi, .inl (cK 0, 12, .inl mWif)), (mPc, .inl (cK 0, 12, .inl mPcf)), (mIt, .inl (cK 0, 108, .inl mItf)), (mRo, .inl (cK 2, 761856, .inr (.inl mRof_131))), (mKn, .inl (cK 1, 744, .inl mKnf)), (mNe, .inl (cK 2, 1024, .inr (.inl mNef_131))), (mSe, .inl (cK 1, 2048, .inl mSef_131)), (mVa, .inl (cK 0, 5, .inl mVaf_131)), (mLa, .inl (cK 0, 2048, .inl mLaf_131))]) ⟨hx, hb, hml, hown, hts⟩ (c_M_again l D cK md mWh mTr mCo mWi mPc mIt mRo mKn mNe mSe mVa mLa mdN mdL mdS mdQ mWhf mTrf mCof mWif mPcf mItf mRof mNef mSef mVaf mLaf N v9 v7 r_131 mRof_131 mNef_131 mSef_131 mVaf_131 mLaf_131 hcl) (cwV 2 hts (zz_V ml_M_131 im_M_again se_M_again in_M co_M_again) rfl rfl rfl ⟨rfl, hd_M_again⟩ ⟨Nat.le_of_ble_eq_true rfl, Nat.le_of_ble_eq_true rfl⟩) hK hP hD hS hA [0, 1, 2, 3, 4, 5, 6, 7, 9, 10, 11, 12] [8] [1, 2, 3, 4, 5, 6, 7, 8, 0, 9, 10, 11, 12] rfl (by decide) rfl (by decide) (by decide) rfl (by decide) 0 rfl rfl rfl rfl hl.1 rfl (Nat.le_of_ble_eq_true rfl) d_M_late_131 ⟨Nat.zero_le _, Nat.zero_le _⟩ (fun H locs hP hD hS => ?_)
            refine lv_if_ne (tgt := 142) hx hb d_M_late_134 (by decide) (fun hc => ?_) (fun hc => ?_)
            · have hf := fn_f hc hf
              refine lv_iconst (v := 1) hx hb d_M_late_142 (by decide) ?_
              refine lv_goto (tgt := 147) hx hb d_M_late_143 (by decide) ?_
              refine lv_istore (lv' := [(8, .int 1), (0, .ref md), (6, .int v6), (7, .int v7), (9, .int v9)]) hx hb d_M_late_147 hl (by decide) rfl (fun ls hl => ?_)
              refine lv_iinc (v := (v9 + 1)) (lv' := [(9, .int (v9 + 1)), (8, .int 1), (0, .ref md), (6, .int v6), (7, .int v7)]) hx hb d_M_late_149 hl (k := 4) rfl rfl (by decide) rfl (fun ls hl => ?_)
              refine lv_goto (tgt := 117) hx hb d_M_late_152 (by decide) ?_
              exact ih_117 _ _ _ _ _ _ _ _ _ _ _ _ _ _ _ hf hP hD hS (lv_sub hl [2, 3, 4, 1, 0] rfl)
            · have hf := fn_t hc hf
              refine lv_iload hx hb d_M_late_137 (lv_at hl 3 rfl) ?_
              refine lv_if_eq (tgt := 146) hx hb d_M_late_139 (by decide) (fun hc => ?_) (fun hc => ?_)
              · have hf := fn_t hc hf
                refine lv_iconst (v := 0) hx hb d_M_late_146 (by decide) ?_
                refine lv_istore (lv' := [(8, .int 0), (0, .ref md), (6, .int v6), (7, .int v7), (9, .int v9)]) hx hb d_M_late_147 hl (by decide) rfl (fun ls hl => ?_)
                refine lv_iinc (v := (v9 + 1)) (lv' := [(9, .int (v9 + 1)), (8, .int 0), (0, .ref md), (6, .int v6), (7, .int v7)]) hx hb d_M_late_149 hl (k := 4) rfl rfl (by decide) rfl (fun ls hl => ?_)
                refine lv_goto (tgt := 117) hx hb d_M_late_152 (by decide) ?_
                exact ih_117 _ _ _ _ _ _ _ _ _ _ _ _ _ _ _ hf hP hD hS (lv_sub hl [2, 3, 4, 1, 0] rfl)
              · have hf := fn_f hc hf
                refine lv_iconst (v := 1) hx hb d_M_late_142 (by decide) ?_
                refine lv_goto (tgt := 147) hx hb d_M_late_143 (by decide) ?_
                refine lv_istore (lv' := [(8, .int 1), (0, .ref md), (6, .int v6), (7, .int v7), (9, .int v9)]) hx hb d_M_late_147 hl (by decide) rfl (fun ls hl => ?_)
                refine lv_iinc (v := (v9 + 1)) (lv' := [(9, .int (v9 + 1)), (8, .int 1), (0, .ref md), (6, .int v6), (7, .int v7)]) hx hb d_M_late_149 hl (k := 4) rfl rfl (by decide) rfl (fun ls hl => ?_)
                refine lv_goto (tgt := 117) hx hb d_M_late_152 (by decide) ?_
                exact ih_117 _ _ _ _ _ _ _ _ _ _ _ _ _ _ _ hf hP hD hS (lv_sub hl [2, 3, 4, 1, 0] rfl)
      intro mdS mWhf mTrf mCof mRof mKnf mNef mSef mVaf mLaf v6 v7 H locs ls hf hP hD hS hl
      rw [f_M_late_102.eq_2] at hf
      refine lv_iload hx hb d_M_late_102 (lv_at hl 2 rfl) ?_
      refine lv_aload_n hx hb d_M_late_104 rfl (lv_at hl 0 rfl) ?_
      refine va_get (D := D) (ci := 6) (v := .int mdL) (C := RK6) (T := TK6) (N := 16) hx hb hts iwK6 hown hK hP 0 rfl rfl 1 (by decide) (hts _ fl_M_53) (fun _ h9 => h9) rfl d_M_late_105 ?_
      refine lv_icmp_gt (tgt := 176) hx hb d_M_late_108 (by decide) (fun hc => ?_) (fun hc => ?_)
      · have hf := fn_t hc hf
        refine lv_iload hx hb d_M_late_176 (lv_at hl 1 rfl) ?_
        cases hf
        exact hret _ _ 178 _ hP hD hS rfl d_M_late_178
      · have hf := fn_f hc hf
        refine lv_iconst (v := 0) hx hb d_M_late_111 (by decide) ?_
        refine lv_istore (lv' := [(8, .int 0), (0, .ref md), (6, .int v6), (7, .int v7)]) hx hb d_M_late_112 hl (by decide) rfl (fun ls hl => ?_)
        refine lv_iconst (v := 0) hx hb d_M_late_114 (by decide) ?_
        refine lv_istore (lv' := [(9, .int 0), (8, .int 0), (0, .ref md), (6, .int v6), (7, .int v7)]) hx hb d_M_late_115 hl (by decide) rfl (fun ls hl => ?_)
        exact J_117 _ _ _ _ _ _ _ _ _ _ _ _ _ _ _ _ _ _ hf hP hD hS (lv_sub hl [2, 3, 4, 1, 0] rfl)
  have J_82 : ∀ (mdS : Int32) (mWhf : Nat → Int32) (mTrf : Nat → Int32) (mCof : Nat → Int32) (mRof : Nat → Int64) (mKnf : Nat → Int32) (mNef : Nat → Int64) (mSef : Nat → Int32) (mVaf : Nat → Int32) (mLaf : Nat → Int32) (v1 : Int32) (v2 : Int32) (v3 : Int32) (v4 : Int32) (v5 : Int32) (H : Heap) (locs : List Loc) (ls : Array Slot), f_M_late_82 N mdL mdQ mWif mPcf mItf mdS mWhf mTrf mCof mRof mKnf mNef mSef mVaf mLaf v1 v2 v3 v4 v5 = some (r, o_mdS, o_mWhf, o_mTrf, o_mCof, o_mRof, o_mKnf, o_mNef, o_mSef, o_mVaf, o_mLaf) → va_P D zz_cl [(md, .inr (6, [.int mdN, .int mdL, .ref mWh, .ref mTr, .ref mCo, .int mdS, .ref mWi, .ref mPc, .ref mIt, .int mdQ, .ref mRo, .ref mKn, .ref mNe, .ref mSe, .ref mVa, .ref mLa])), (mWh, .inl (cK 0, 400, .inl mWhf)), (mTr, .inl (cK 0, 400, .inl mTrf)), (mCo, .inl (cK 1, 400, .inl mCof)), (mWi, .inl (cK 0, 12, .inl mWif)), (mPc, .inl (cK 0, 12, .inl mPcf)), (mIt, .inl (cK 0, 108, .inl mItf)), (mRo, .inl (cK 2, 761856, .inr (.inl mRof))), (mKn, .inl (cK 1, 744, .inl mKnf)), (mNe, .inl (cK 2, 1024, .inr (.inl mNef))), (mSe, .inl (cK 1, 2048, .inl mSef)), (mVa, .inl (cK 0, 5, .inl mVaf)), (mLa, .inl (cK 0, 2048, .inl mLaf))] H → va_D A [(md, .inr (6, [.int mdN, .int mdL, .ref mWh, .ref mTr, .ref mCo, .int mdS, .ref mWi, .ref mPc, .ref mIt, .int mdQ, .ref mRo, .ref mKn, .ref mNe, .ref mSe, .ref mVa, .ref mLa])), (mWh, .inl (cK 0, 400, .inl mWhf)), (mTr, .inl (cK 0, 400, .inl mTrf)), (mCo, .inl (cK 1, 400, .inl mCof)), (mWi, .inl (cK 0, 12, .inl mWif)), (mPc, .inl (cK 0, 12, .inl mPcf)), (mIt, .inl (cK 0, 108, .inl mItf)), (mRo, .inl (cK 2, 761856, .inr (.inl mRof))), (mKn, .inl (cK 1, 744, .inl mKnf)), (mNe, .inl (cK 2, 1024, .inr (.inl mNef))), (mSe, .inl (cK 1, 2048, .inl mSef)), (mVa, .inl (cK 0, 5, .inl mVaf)), (mLa, .inl (cK 0, 2048, .inl mLaf))] → va_S A s.heap H locs → lv_has ls 10 [(0, .ref md), (1, .int v1), (2, .int v2), (3, .int v3), (4, .int v4), (5, .int v5)] → W p l e rm_M_late s m args below meth c H locs 0 0 Q (F0 m 82 ls []) := by
    intro mdS mWhf mTrf mCof mRof mKnf mNef mSef mVaf mLaf v1 v2 v3 v4 v5 H locs ls hf hP hD hS hl
    unfold f_M_late_82 at hf
    refine lv_aload_n hx hb d_M_late_82 rfl (lv_at hl 0 rfl) ?_
    refine lv_iload_n hx hb d_M_late_83 rfl (lv_at hl 1 rfl) ?_
    refine lv_iload_n hx hb d_M_late_84 rfl (lv_at hl 2 rfl) ?_
    refine lv_iload_n hx hb d_M_late_85 rfl (lv_at hl 3 rfl) ?_
    refine lv_iload hx hb d_M_late_86 (lv_at hl 4 rfl) ?_
    obtain ⟨r_88, hcl, hf⟩ := fn_e1 hf
    refine cs_RdI (rest := [.int v1, .ref md]) ⟨hx, hb, hml, hown, hts⟩ (c_M_triple l D cK v2 v3 v4 r_88 hcl) (va_cwS 3 hts (zz_S ml_M_70 st_M_triple in_M co_M_triple) rfl rfl rfl hd_M_triple ⟨Nat.le_of_ble_eq_true rfl, Nat.le_of_ble_eq_true rfl⟩) hK hP [] rfl rfl hl.1 rfl (Nat.le_of_ble_eq_true rfl) d_M_late_88 ⟨Nat.zero_le _, Nat.zero_le _⟩ ?_
    refine lv_iload hx hb d_M_late_91 (lv_at hl 5 rfl) ?_
    obtain ⟨mdS_93, mWhf_93, mTrf_93, mCof_93, hcl, hf⟩ := fn_e4 hf
    refine cv_WrV (rest := []) (wr := [(mWi, .inl (cK 0, 12, .inl mWif)), (mPc, .inl (cK 0, 12, .inl mPcf)), (mIt, .inl (cK 0, 108, .inl mItf)), (mRo, .inl (cK 2, 761856, .inr (.inl mRof))), (mKn, .inl (cK 1, 744, .inl mKnf)), (mNe, .inl (cK 2, 1024, .inr (.inl mNef))), (mSe, .inl (cK 1, 2048, .inl mSef)), (mVa, .inl (cK 0, 5, .inl mVaf)), (mLa, .inl (cK 0, 2048, .inl mLaf))]) (w' := [(md, .inr (6, [.int mdN, .int mdL, .ref mWh, .ref mTr, .ref mCo, .int mdS_93, .ref mWi, .ref mPc, .ref mIt, .int mdQ, .ref mRo, .ref mKn, .ref mNe, .ref mSe, .ref mVa, .ref mLa])), (mWh, .inl (cK 0, 400, .inl mWhf_93)), (mTr, .inl (cK 0, 400, .inl mTrf_93)), (mCo, .inl (cK 1, 400, .inl mCof_93)), (mWi, .inl (cK 0, 12, .inl mWif)), (mPc, .inl (cK 0, 12, .inl mPcf)), (mIt, .inl (cK 0, 108, .inl mItf)), (mRo, .inl (cK 2, 761856, .inr (.inl mRof))), (mKn, .inl (cK 1, 744, .inl mKnf)), (mNe, .inl (cK 2, 1024, .inr (.inl mNef))), (mSe, .inl (cK 1, 2048, .inl mSef)), (mVa, .inl (cK 0, 5, .inl mVaf)), (mLa, .inl (cK 0, 2048, .inl mLaf))]) ⟨hx, hb, hml, hown, hts⟩ (c_M_say l D cK md mWh mTr mCo mWi mPc mIt mRo mKn mNe mSe mVa mLa mdN mdL mdS mdQ mWhf mTrf mCof v1 r_88 v5 mdS_93 mWhf_93 mTrf_93 mCof_93 hcl) (cwV 3 hts (zz_V ml_M_78 im_M_say se_M_say in_M co_M_say) rfl rfl rfl ⟨rfl, hd_M_say⟩ ⟨Nat.le_of_ble_eq_true rfl, Nat.le_of_ble_eq_true rfl⟩) hK hP hD hS hA [0, 1, 2, 3] [4, 5, 6, 7, 8, 9, 10, 11, 12] [9, 10, 11, 12, 0, 1, 2, 3, 4, 5, 6, 7, 8] rfl (by decide) rfl (by decide) (by decide) rfl (by decide) 0 rfl rfl rfl rfl hl.1 rfl (Nat.le_of_ble_eq_true rfl) d_M_late_93 ⟨Nat.zero_le _, Nat.zero_le _⟩ (fun H locs hP hD hS => ?_)
    refine lv_iconst (v := 0) hx hb d_M_late_96 (by decide) ?_
    refine lv_istore (lv' := [(6, .int 0), (0, .ref md), (1, .int v1), (2, .int v2), (3, .int v3), (4, .int v4), (5, .int v5)]) hx hb d_M_late_97 hl (by decide) rfl (fun ls hl => ?_)
    refine lv_iload_n hx hb d_M_late_99 rfl (lv_at hl 2 rfl) ?_
    refine lv_istore (lv' := [(7, .int v1), (6, .int 0), (0, .ref md), (1, .int v1), (2, .int v2), (3, .int v3), (4, .int v4), (5, .int v5)]) hx hb d_M_late_100 hl (by decide) rfl (fun ls hl => ?_)
    exact J_102 _ _ _ _ _ _ _ _ _ _ _ _ _ _ _ _ hf hP hD hS (lv_sub hl [2, 1, 0] rfl)
  have J_40 : ∀ (v1 : Int32) (v2 : Int32) (v3 : Int32) (v4 : Int32) (v5 : Int32) (n_40 : Nat) (mdS : Int32) (mWhf : Nat → Int32) (mTrf : Nat → Int32) (mCof : Nat → Int32) (mRof : Nat → Int64) (mKnf : Nat → Int32) (mNef : Nat → Int64) (mSef : Nat → Int32) (mVaf : Nat → Int32) (mLaf : Nat → Int32) (v6 : Int32) (H : Heap) (locs : List Loc) (ls : Array Slot), f_M_late_40 N mdL mdQ mWif mPcf mItf v1 v2 v3 v4 v5 n_40 mdS mWhf mTrf mCof mRof mKnf mNef mSef mVaf mLaf v6 = some (r, o_mdS, o_mWhf, o_mTrf, o_mCof, o_mRof, o_mKnf, o_mNef, o_mSef, o_mVaf, o_mLaf) → va_P D zz_cl [(md, .inr (6, [.int mdN, .int mdL, .ref mWh, .ref mTr, .ref mCo, .int mdS, .ref mWi, .ref mPc, .ref mIt, .int mdQ, .ref mRo, .ref mKn, .ref mNe, .ref mSe, .ref mVa, .ref mLa])), (mWh, .inl (cK 0, 400, .inl mWhf)), (mTr, .inl (cK 0, 400, .inl mTrf)), (mCo, .inl (cK 1, 400, .inl mCof)), (mWi, .inl (cK 0, 12, .inl mWif)), (mPc, .inl (cK 0, 12, .inl mPcf)), (mIt, .inl (cK 0, 108, .inl mItf)), (mRo, .inl (cK 2, 761856, .inr (.inl mRof))), (mKn, .inl (cK 1, 744, .inl mKnf)), (mNe, .inl (cK 2, 1024, .inr (.inl mNef))), (mSe, .inl (cK 1, 2048, .inl mSef)), (mVa, .inl (cK 0, 5, .inl mVaf)), (mLa, .inl (cK 0, 2048, .inl mLaf))] H → va_D A [(md, .inr (6, [.int mdN, .int mdL, .ref mWh, .ref mTr, .ref mCo, .int mdS, .ref mWi, .ref mPc, .ref mIt, .int mdQ, .ref mRo, .ref mKn, .ref mNe, .ref mSe, .ref mVa, .ref mLa])), (mWh, .inl (cK 0, 400, .inl mWhf)), (mTr, .inl (cK 0, 400, .inl mTrf)), (mCo, .inl (cK 1, 400, .inl mCof)), (mWi, .inl (cK 0, 12, .inl mWif)), (mPc, .inl (cK 0, 12, .inl mPcf)), (mIt, .inl (cK 0, 108, .inl mItf)), (mRo, .inl (cK 2, 761856, .inr (.inl mRof))), (mKn, .inl (cK 1, 744, .inl mKnf)), (mNe, .inl (cK 2, 1024, .inr (.inl mNef))), (mSe, .inl (cK 1, 2048, .inl mSef)), (mVa, .inl (cK 0, 5, .inl mVaf)), (mLa, .inl (cK 0, 2048, .inl mLaf))] → va_S A s.heap H locs → lv_has ls 10 [(0, .ref md), (1, .int v1), (2, .int v2), (3, .int v3), (4, .int v4), (5, .int v5), (6, .int v6)] → W p l e rm_M_late s m args below meth c H locs 0 0 Q (F0 m 40 ls []) := by
    intro v1 v2 v3 v4 v5 n_40
    induction n_40 with
    | zero =>
      intro mdS mWhf mTrf mCof mRof mKnf mNef mSef mVaf mLaf v6 H locs ls hf hP hD hS hl
      exact fn_0 hf
    | succ n_40 ih_40 =>
      have J_52 : ∀ (v6 : Int32) (n_52 : Nat) (mdS : Int32) (mWhf : Nat → Int32) (mTrf : Nat → Int32) (mCof : Nat → Int32) (mRof : Nat → Int64) (mKnf : Nat → Int32) (mNef : Nat → Int64) (mSef : Nat → Int32) (mVaf : Nat → Int32) (mLaf : Nat → Int32) (v7 : Int32) (H : Heap) (locs : List Loc) (ls : Array Slot), f_M_late_52 N mdL mdQ mWif mPcf mItf (f_M_late_40 N mdL mdQ mWif mPcf mItf v1 v2 v3 v4 v5 n_40) v1 v2 v3 v4 v5 v6 n_52 mdS mWhf mTrf mCof mRof mKnf mNef mSef mVaf mLaf v7 = some (r, o_mdS, o_mWhf, o_mTrf, o_mCof, o_mRof, o_mKnf, o_mNef, o_mSef, o_mVaf, o_mLaf) → va_P D zz_cl [(md, .inr (6, [.int mdN, .int mdL, .ref mWh, .ref mTr, .ref mCo, .int mdS, .ref mWi, .ref mPc, .ref mIt, .int mdQ, .ref mRo, .ref mKn, .ref mNe, .ref mSe, .ref mVa, .ref mLa])), (mWh, .inl (cK 0, 400, .inl mWhf)), (mTr, .inl (cK 0, 400, .inl mTrf)), (mCo, .inl (cK 1, 400, .inl mCof)), (mWi, .inl (cK 0, 12, .inl mWif)), (mPc, .inl (cK 0, 12, .inl mPcf)), (mIt, .inl (cK 0, 108, .inl mItf)), (mRo, .inl (cK 2, 761856, .inr (.inl mRof))), (mKn, .inl (cK 1, 744, .inl mKnf)), (mNe, .inl (cK 2, 1024, .inr (.inl mNef))), (mSe, .inl (cK 1, 2048, .inl mSef)), (mVa, .inl (cK 0, 5, .inl mVaf)), (mLa, .inl (cK 0, 2048, .inl mLaf))] H → va_D A [(md, .inr (6, [.int mdN, .int mdL, .ref mWh, .ref mTr, .ref mCo, .int mdS, .ref mWi, .ref mPc, .ref mIt, .int mdQ, .ref mRo, .ref mKn, .ref mNe, .ref mSe, .ref mVa, .ref mLa])), (mWh, .inl (cK 0, 400, .inl mWhf)), (mTr, .inl (cK 0, 400, .inl mTrf)), (mCo, .inl (cK 1, 400, .inl mCof)), (mWi, .inl (cK 0, 12, .inl mWif)), (mPc, .inl (cK 0, 12, .inl mPcf)), (mIt, .inl (cK 0, 108, .inl mItf)), (mRo, .inl (cK 2, 761856, .inr (.inl mRof))), (mKn, .inl (cK 1, 744, .inl mKnf)), (mNe, .inl (cK 2, 1024, .inr (.inl mNef))), (mSe, .inl (cK 1, 2048, .inl mSef)), (mVa, .inl (cK 0, 5, .inl mVaf)), (mLa, .inl (cK 0, 2048, .inl mLaf))] → va_S A s.heap H locs → lv_has ls 10 [(0, .ref md), (1, .int v1), (2, .int v2), (3, .int v3), (4, .int v4), (5, .int v5), (6, .int v6), (7, .int v7)] → W p l e rm_M_late s m args below meth c H locs 0 0 Q (F0 m 52 ls []) := by
        intro v6 n_52
        induction n_52 with
        | zero =>
          intro mdS mWhf mTrf mCof mRof mKnf mNef mSef mVaf mLaf v7 H locs ls hf hP hD hS hl
          exact fn_0 hf
        | succ n_52 ih_52 =>
          intro mdS mWhf mTrf mCof mRof mKnf mNef mSef mVaf mLaf v7 H locs ls hf hP hD hS hl
          rw [f_M_late_52.eq_2] at hf
          refine lv_iload hx hb d_M_late_52 (lv_at hl 7 rfl) ?_
          refine lv_aload_n hx hb d_M_late_54 rfl (lv_at hl 0 rfl) ?_
          refine va_get (D := D) (ci := 6) (v := .int mdL) (C := RK6) (T := TK6) (N := 16) hx hb hts iwK6 hown hK hP 0 rfl rfl 1 (by decide) (hts _ fl_M_53) (fun _ h9 => h9) rfl d_M_late_55 ?_
          refine lv_icmp_gt (tgt := 76) hx hb d_M_late_58 (by decide) (fun hc => ?_) (fun hc => ?_)
          · have hf := fn_t hc hf
            refine lv_iinc (v := (v6 + 1)) (lv' := [(6, .int (v6 + 1)), (0, .ref md), (1, .int v1), (2, .int v2), (3, .int v3), (4, .int v4), (5, .int v5), (7, .int v7)]) hx hb d_M_late_76 hl (k := 6) rfl rfl (by decide) rfl (fun ls hl => ?_)
            refine lv_goto (tgt := 40) hx hb d_M_late_79 (by decide) ?_
            exact ih_40 _ _ _ _ _ _ _ _ _ _ _ _ _ _ hf hP hD hS (lv_sub hl [1, 2, 3, 4, 5, 6, 0] rfl)
          · have hf := fn_f hc hf
            refine lv_aload_n hx hb d_M_late_61 rfl (lv_at hl 0 rfl) ?_
            refine lv_iload hx hb d_M_late_62 (lv_at hl 6 rfl) ?_
            refine lv_iload hx hb d_M_late_64 (lv_at hl 7 rfl) ?_
            obtain ⟨r_66, mRof_66, mKnf_66, mNef_66, mSef_66, mVaf_66, mLaf_66, hcl, hf⟩ := fn_e7 hf
            refine cv_WrI (rest := []) (wr := []) (w' := [(md, .inr (6, [.int mdN, .int mdL, .ref mWh, .ref mTr, .ref mCo, .int mdS, .ref mWi, .ref mPc, .ref mIt, .int mdQ, .ref mRo, .ref mKn, .ref mNe, .ref mSe, .ref mVa, .ref mLa])), (mWh, .inl (cK 0, 400, .inl mWhf)), (mTr, .inl (cK 0, 400, .inl mTrf)), (mCo, .inl (cK 1, 400, .inl mCof)), (mWi, .inl (cK 0, 12, .inl mWif)), (mPc, .inl (cK 0, 12, .inl mPcf)), (mIt, .inl (cK 0, 108, .inl mItf)), (mRo, .inl (cK 2, 761856, .inr (.inl mRof_66))), (mKn, .inl (cK 1, 744, .inl mKnf_66)), (mNe, .inl (cK 2, 1024, .inr (.inl mNef_66))), (mSe, .inl (cK 1, 2048, .inl mSef_66)), (mVa, .inl (cK 0, 5, .inl mVaf_66)), (mLa, .inl (cK 0, 2048, .inl mLaf_66))]) ⟨hx, hb, hml, hown, hts⟩ (c_M_rowsOf l D cK md mWh mTr mCo mWi mPc mIt mRo mKn mNe mSe mVa mLa mdN mdL mdS mdQ mWhf mTrf mCof mWif mPcf mItf mRof mKnf mNef mSef mVaf mLaf N v6 v7 r_66 mRof_66 mKnf_66 mNef_66 mSef_66 mVaf_66 mLaf_66 hcl) (cwV 2 hts (zz_V ml_M_119 im_M_rowsOf se_M_rowsOf in_M co_M_rowsOf) rfl rfl rfl ⟨rfl, hd_M_rowsOf⟩ ⟨Nat.le_of_ble_eq_true rfl, Nat.le_of_ble_eq_true rfl⟩) hK hP hD hS hA [0, 1, 2, 3, 4, 5, 6, 7, 8, 9, 10, 11, 12] [] [0, 1, 2, 3, 4, 5, 6, 7, 8, 9, 10, 11, 12] rfl (by decide) rfl (by decide) (by decide) rfl (by decide) 0 rfl rfl rfl rfl hl.1 rfl (Nat.le_of_ble_eq_true rfl) d_M_late_66 ⟨Nat.zero_le _, Nat.zero_le _⟩ (fun H locs hP hD hS => ?_)
            refine lv_pop hx hb d_M_late_69 rfl ?_
            refine lv_iinc (v := (v7 + 1)) (lv' := [(7, .int (v7 + 1)), (0, .ref md), (1, .int v1), (2, .int v2), (3, .int v3), (4, .int v4), (5, .int v5), (6, .int v6)]) hx hb d_M_late_70 hl (k := 7) rfl rfl (by decide) rfl (fun ls hl => ?_)
            refine lv_goto (tgt := 52) hx hb d_M_late_73 (by decide) ?_
            exact ih_52 _ _ _ _ _ _ _ _ _ _ _ _ _ _ hf hP hD hS (lv_sub hl [1, 2, 3, 4, 5, 6, 7, 0] rfl)
      intro mdS mWhf mTrf mCof mRof mKnf mNef mSef mVaf mLaf v6 H locs ls hf hP hD hS hl
      rw [f_M_late_40.eq_2] at hf
      refine lv_iload hx hb d_M_late_40 (lv_at hl 6 rfl) ?_
      refine lv_aload_n hx hb d_M_late_42 rfl (lv_at hl 0 rfl) ?_
      refine va_get (D := D) (ci := 6) (v := .int mdQ) (C := RK6) (T := TK6) (N := 16) hx hb hts iwK6 hown hK hP 0 rfl rfl 9 (by decide) (hts _ fl_M_56) (fun _ h9 => h9) rfl d_M_late_43 ?_
      refine lv_icmp_ge (tgt := 82) hx hb d_M_late_46 (by decide) (fun hc => ?_) (fun hc => ?_)
      · have hf := fn_t hc hf
        exact J_82 _ _ _ _ _ _ _ _ _ _ _ _ _ _ _ _ _ _ hf hP hD hS (lv_sub hl [0, 1, 2, 3, 4, 5] rfl)
      · have hf := fn_f hc hf
        refine lv_iload_n hx hb d_M_late_49 rfl (lv_at hl 1 rfl) ?_
        refine lv_istore (lv' := [(7, .int v1), (0, .ref md), (1, .int v1), (2, .int v2), (3, .int v3), (4, .int v4), (5, .int v5), (6, .int v6)]) hx hb d_M_late_50 hl (by decide) rfl (fun ls hl => ?_)
        exact J_52 _ _ _ _ _ _ _ _ _ _ _ _ _ _ _ _ hf hP hD hS (lv_sub hl [1, 2, 3, 4, 5, 6, 7, 0] rfl)
  unfold f_M_late at hf
  refine lv_iload_n hx hb d_M_late_0 rfl (lv_at hl 2 rfl) ?_
  refine lv_iload_n hx hb d_M_late_1 rfl (lv_at hl 3 rfl) ?_
  refine lv_iload hx hb d_M_late_2 (lv_at hl 4 rfl) ?_
  obtain ⟨r_4, hcl, hf⟩ := fn_e1 hf
  refine cs_RdI (rest := []) ⟨hx, hb, hml, hown, hts⟩ (c_M_isTriple l D cK v2 v3 v4 r_4 hcl) (va_cwS 3 hts (zz_S ml_M_66 st_M_isTriple in_M co_M_isTriple) rfl rfl rfl hd_M_isTriple ⟨Nat.le_of_ble_eq_true rfl, Nat.le_of_ble_eq_true rfl⟩) hK hP [] rfl rfl hl.1 rfl (Nat.le_of_ble_eq_true rfl) d_M_late_4 ⟨Nat.zero_le _, Nat.zero_le _⟩ ?_
  refine lv_if_eq (tgt := 22) hx hb d_M_late_7 (by decide) (fun hc => ?_) (fun hc => ?_)
  · have hf := fn_t hc hf
    refine lv_iconst (v := (-1)) hx hb d_M_late_22 (by decide) ?_
    cases hf
    exact hret _ _ 23 _ hP hD hS rfl d_M_late_23
  · have hf := fn_f hc hf
    refine lv_iload_n hx hb d_M_late_10 rfl (lv_at hl 1 rfl) ?_
    refine lv_if_lt (tgt := 22) hx hb d_M_late_11 (by decide) (fun hc => ?_) (fun hc => ?_)
    · have hf := fn_t hc hf
      refine lv_iconst (v := (-1)) hx hb d_M_late_22 (by decide) ?_
      cases hf
      exact hret _ _ 23 _ hP hD hS rfl d_M_late_23
    · have hf := fn_f hc hf
      refine lv_iload_n hx hb d_M_late_14 rfl (lv_at hl 1 rfl) ?_
      refine lv_aload_n hx hb d_M_late_15 rfl (lv_at hl 0 rfl) ?_
      refine va_get (D := D) (ci := 6) (v := .int mdL) (C := RK6) (T := TK6) (N := 16) hx hb hts iwK6 hown hK hP 0 rfl rfl 1 (by decide) (hts _ fl_M_53) (fun _ h9 => h9) rfl d_M_late_16 ?_
      refine lv_icmp_lt (tgt := 24) hx hb d_M_late_19 (by decide) (fun hc => ?_) (fun hc => ?_)
      · have hf := fn_t hc hf
        refine lv_aload_n hx hb d_M_late_24 rfl (lv_at hl 0 rfl) ?_
        refine va_get (D := D) (ci := 6) (v := .int mdS) (C := RK6) (T := TK6) (N := 16) hx hb hts iwK6 hown hK hP 0 rfl rfl 5 (by decide) (hts _ fl_M_59) (fun _ h9 => h9) rfl d_M_late_25 ?_
        refine lv_sipush (v := 400) hx hb d_M_late_28 (by decide) ?_
        refine lv_icmp_ne (tgt := 37) hx hb d_M_late_31 (by decide) (fun hc => ?_) (fun hc => ?_)
        · have hf := fn_f hc hf
          refine lv_iconst (v := 0) hx hb d_M_late_37 (by decide) ?_
          refine lv_istore (lv' := [(6, .int 0), (0, .ref md), (1, .int v1), (2, .int v2), (3, .int v3), (4, .int v4), (5, .int v5)]) hx hb d_M_late_38 hl (by decide) rfl (fun ls hl => ?_)
          exact J_40 _ _ _ _ _ _ _ _ _ _ _ _ _ _ _ _ _ _ _ _ hf hP hD hS (lv_sub hl [1, 2, 3, 4, 5, 6, 0] rfl)
        · have hf := fn_t hc hf
          refine lv_bipush (v := (-3)) hx hb d_M_late_34 (by decide) ?_
          cases hf
          exact hret _ _ 36 _ hP hD hS rfl d_M_late_36
      · have hf := fn_f hc hf
        refine lv_iconst (v := (-1)) hx hb d_M_late_22 (by decide) ?_
        cases hf
        exact hret _ _ 23 _ hP hD hS rfl d_M_late_23

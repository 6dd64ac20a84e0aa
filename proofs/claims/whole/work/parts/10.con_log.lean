abbrev rm_Lg_isFull : Room := { frames := 0, cells := 0, slots := 0, locals := 0 }
set_option maxHeartbeats 4000000 in
set_option maxRecDepth 100000 in
theorem c_Lg_isFull (l : Launch) (D : va_G) (cK : Nat → ClassId) (lg lgA lgT lgC : Nat) (lgS : Int32)  (r : Int32) (hf : f_Lg_isFull lgS = some r) : RdI l y_Lg_isFull w_Lg_isFull rm_Lg_isFull D zz_cl (mt_ty cK RK2) [.ref lg] [(lg, .inr (0, [.ref lgA, .ref lgT, .ref lgC, .int lgS]))] r := by
  refine mk_RdI (cc := b_Lg_isFull) (maxL := 1) (ty := .boolean) (by decide +kernel) rfl (Nat.le_of_ble_eq_true rfl) ?_
  intro p e s m below meth c args Q ls hx hb hml hown hts hK hP hret hl
  have hl : lv_has ls 1 [(0, .ref lg)] := hl
  unfold f_Lg_isFull at hf
  refine lv_aload_n hx hb d_Lg_isFull_0 rfl (lv_at hl 0 rfl) ?_
  refine va_get (D := D) (ci := 0) (v := .int lgS) (C := RK0) (T := TK0) (N := 4) hx hb hts iwK0 hown hK hP 0 rfl rfl 3 (by decide) (hts _ fl_Lg_22) (fun _ h9 => h9) rfl d_Lg_isFull_1 ?_
  refine lv_sipush (v := 400) hx hb d_Lg_isFull_4 (by decide) ?_
  refine lv_icmp_lt (tgt := 14) hx hb d_Lg_isFull_7 (by decide) (fun hc => ?_) (fun hc => ?_)
  · have hf := fn_t hc hf
    refine lv_iconst (v := 0) hx hb d_Lg_isFull_14 (by decide) ?_
    cases hf
    exact hret 15 _ rfl d_Lg_isFull_15
  · have hf := fn_f hc hf
    refine lv_iconst (v := 1) hx hb d_Lg_isFull_10 (by decide) ?_
    refine lv_goto (tgt := 15) hx hb d_Lg_isFull_11 (by decide) ?_
    cases hf
    exact hret 15 _ rfl d_Lg_isFull_15
abbrev rm_Lg_say : Room := { frames := 1, cells := 0, slots := 0, locals := 20 }
set_option maxHeartbeats 4000000 in
set_option maxRecDepth 100000 in
theorem c_Lg_say (l : Launch) (D : va_G) (cK : Nat → ClassId) (lg lgA lgT lgC : Nat) (lgS : Int32) (lgAf : Nat → Int32) (lgTf : Nat → Int32) (lgCf : Nat → Int32) (N : Nat) (v1 : Int32) (v2 : Int32) (v3 : Int32) (r : Int32) (o_lgS : Int32) (o_lgAf : Nat → Int32) (o_lgTf : Nat → Int32) (o_lgCf : Nat → Int32) (hf : f_Lg_say N lgS lgAf lgTf lgCf v1 v2 v3 = some (r, o_lgS, o_lgAf, o_lgTf, o_lgCf)) : WrI l y_Lg_say w_Lg_say rm_Lg_say D zz_cl (mt_ty cK RK2) [.ref lg, .int v1, .int v2, .int v3] [(lg, .inr (0, [.ref lgA, .ref lgT, .ref lgC, .int lgS])), (lgA, .inl (cK 0, 400, .inl lgAf)), (lgT, .inl (cK 0, 400, .inl lgTf)), (lgC, .inl (cK 1, 400, .inl lgCf))] [(lg, .inr (0, [.ref lgA, .ref lgT, .ref lgC, .int o_lgS])), (lgA, .inl (cK 0, 400, .inl o_lgAf)), (lgT, .inl (cK 0, 400, .inl o_lgTf)), (lgC, .inl (cK 1, 400, .inl o_lgCf))] r := by
  refine mk_WrI (cc := b_Lg_say) (maxL := 5) (ty := .int) (by decide +kernel) rfl (Nat.le_of_ble_eq_true rfl) ?_
  intro p e s m below meth c args Q A ls hx hb hml hown hts hA hK hP hD hret hl
  have hS : va_S A s.heap s.heap [] := va_S.rf
  have hl : lv_has ls 5 [(0, .ref lg), (1, .int v1), (2, .int v2), (3, .int v3)] := hl
  have J_87 : ∀ (lgS : Int32) (lgAf : Nat → Int32) (lgTf : Nat → Int32) (lgCf : Nat → Int32) (v1 : Int32) (v2 : Int32) (v3 : Int32) (v4 : Int32) (H : Heap) (locs : List Loc) (ls : Array Slot), f_Lg_say_87 N lgS lgAf lgTf lgCf v1 v2 v3 v4 = some (r, o_lgS, o_lgAf, o_lgTf, o_lgCf) → va_P D zz_cl [(lg, .inr (0, [.ref lgA, .ref lgT, .ref lgC, .int lgS])), (lgA, .inl (cK 0, 400, .inl lgAf)), (lgT, .inl (cK 0, 400, .inl lgTf)), (lgC, .inl (cK 1, 400, .inl lgCf))] H → va_D A [(lg, .inr (0, [.ref lgA, .ref lgT, .ref lgC, .int lgS])), (lgA, .inl (cK 0, 400, .inl lgAf)), (lgT, .inl (cK 0, 400, .inl lgTf)), (lgC, .inl (cK 1, 400, .inl lgCf))] → va_S A s.heap H locs → lv_has ls 5 [(0, .ref lg), (1, .int v1), (2, .int v2), (3, .int v3), (4, .int v4)] → W p l e rm_Lg_say s m args below meth c H locs 0 0 Q (F0 m 87 ls []) := by
    intro lgS lgAf lgTf lgCf v1 v2 v3 v4 H locs ls hf hP hD hS hl
    unfold f_Lg_say_87 at hf
    refine lv_aload_n hx hb d_Lg_say_87 rfl (lv_at hl 0 rfl) ?_
    refine va_get (D := D) (ci := 0) (v := .ref lgA) (C := RK0) (T := TK0) (N := 4) hx hb hts iwK0 hown hK hP 0 rfl rfl 0 (by decide) (hts _ fl_Lg_9) (fun _ h9 => h9) rfl d_Lg_say_88 ?_
    refine lv_iload hx hb d_Lg_say_91 (lv_at hl 4 rfl) ?_
    refine lv_iload_n hx hb d_Lg_say_93 rfl (lv_at hl 1 rfl) ?_
    have hg := fn_g hf
    have hf := fn_t hg hf
    refine va_iast hx hb hK hP hD hS 1 0 rfl rfl (fn_v hg) d_Lg_say_94 (fun H locs hP hD hS => ?_)
    have hP : va_P D zz_cl [(lg, .inr (0, [.ref lgA, .ref lgT, .ref lgC, .int lgS])), (lgA, .inl (cK 0, 400, .inl (upd lgAf (Int32.toNatClampNeg v4) v1))), (lgT, .inl (cK 0, 400, .inl lgTf)), (lgC, .inl (cK 1, 400, .inl lgCf))] H := hP
    have hD : va_D A [(lg, .inr (0, [.ref lgA, .ref lgT, .ref lgC, .int lgS])), (lgA, .inl (cK 0, 400, .inl (upd lgAf (Int32.toNatClampNeg v4) v1))), (lgT, .inl (cK 0, 400, .inl lgTf)), (lgC, .inl (cK 1, 400, .inl lgCf))] := hD
    refine lv_aload_n hx hb d_Lg_say_95 rfl (lv_at hl 0 rfl) ?_
    refine va_get (D := D) (ci := 0) (v := .ref lgT) (C := RK0) (T := TK0) (N := 4) hx hb hts iwK0 hown hK hP 0 rfl rfl 1 (by decide) (hts _ fl_Lg_15) (fun _ h9 => h9) rfl d_Lg_say_96 ?_
    refine lv_iload hx hb d_Lg_say_99 (lv_at hl 4 rfl) ?_
    refine lv_iload_n hx hb d_Lg_say_101 rfl (lv_at hl 2 rfl) ?_
    have hg := fn_g hf
    have hf := fn_t hg hf
    refine va_iast hx hb hK hP hD hS 2 0 rfl rfl (fn_v hg) d_Lg_say_102 (fun H locs hP hD hS => ?_)
    have hP : va_P D zz_cl [(lg, .inr (0, [.ref lgA, .ref lgT, .ref lgC, .int lgS])), (lgA, .inl (cK 0, 400, .inl (upd lgAf (Int32.toNatClampNeg v4) v1))), (lgT, .inl (cK 0, 400, .inl (upd lgTf (Int32.toNatClampNeg v4) v2))), (lgC, .inl (cK 1, 400, .inl lgCf))] H := hP
    have hD : va_D A [(lg, .inr (0, [.ref lgA, .ref lgT, .ref lgC, .int lgS])), (lgA, .inl (cK 0, 400, .inl (upd lgAf (Int32.toNatClampNeg v4) v1))), (lgT, .inl (cK 0, 400, .inl (upd lgTf (Int32.toNatClampNeg v4) v2))), (lgC, .inl (cK 1, 400, .inl lgCf))] := hD
    refine lv_aload_n hx hb d_Lg_say_103 rfl (lv_at hl 0 rfl) ?_
    refine va_get (D := D) (ci := 0) (v := .ref lgC) (C := RK0) (T := TK0) (N := 4) hx hb hts iwK0 hown hK hP 0 rfl rfl 2 (by decide) (hts _ fl_Lg_18) (fun _ h9 => h9) rfl d_Lg_say_104 ?_
    refine lv_iload hx hb d_Lg_say_107 (lv_at hl 4 rfl) ?_
    refine lv_iload_n hx hb d_Lg_say_109 rfl (lv_at hl 3 rfl) ?_
    have hg := fn_g hf
    have hf := fn_t hg hf
    refine va_zast hx hb hK hP hD hS 3 1 rfl rfl (fn_v hg) d_Lg_say_110 (fun H locs hP hD hS => ?_)
    have hP : va_P D zz_cl [(lg, .inr (0, [.ref lgA, .ref lgT, .ref lgC, .int lgS])), (lgA, .inl (cK 0, 400, .inl (upd lgAf (Int32.toNatClampNeg v4) v1))), (lgT, .inl (cK 0, 400, .inl (upd lgTf (Int32.toNatClampNeg v4) v2))), (lgC, .inl (cK 1, 400, .inl (upd lgCf (Int32.toNatClampNeg v4) (vp_nar .boolean v3))))] H := hP
    have hD : va_D A [(lg, .inr (0, [.ref lgA, .ref lgT, .ref lgC, .int lgS])), (lgA, .inl (cK 0, 400, .inl (upd lgAf (Int32.toNatClampNeg v4) v1))), (lgT, .inl (cK 0, 400, .inl (upd lgTf (Int32.toNatClampNeg v4) v2))), (lgC, .inl (cK 1, 400, .inl (upd lgCf (Int32.toNatClampNeg v4) (vp_nar .boolean v3))))] := hD
    refine lv_aload_n hx hb d_Lg_say_111 rfl (lv_at hl 0 rfl) ?_
    refine lv_dup hx hb d_Lg_say_112 rfl ?_
    refine va_get (D := D) (ci := 0) (v := .int lgS) (C := RK0) (T := TK0) (N := 4) hx hb hts iwK0 hown hK hP 0 rfl rfl 3 (by decide) (hts _ fl_Lg_22) (fun _ h9 => h9) rfl d_Lg_say_113 ?_
    refine lv_iconst (v := 1) hx hb d_Lg_say_116 (by decide) ?_
    refine lv_iadd hx hb d_Lg_say_117 ?_
    refine va_put (D := D) (ci := 0) (v := .int (lgS + 1)) (ty := .int) (C := RK0) (T := TK0) (N := 4) hx hb hts iwK0 tyK0 tyK0_ok nmK0 hown hK hP hD hS 0 rfl rfl 3 (by decide) (hts _ fl_Lg_22) (fun _ h9 => h9) rfl (by decide +kernel) rfl rfl (Nat.le_of_ble_eq_true rfl) d_Lg_say_118 (fun H locs hP hD hS => ?_)
    have hP : va_P D zz_cl [(lg, .inr (0, [.ref lgA, .ref lgT, .ref lgC, .int (lgS + 1)])), (lgA, .inl (cK 0, 400, .inl (upd lgAf (Int32.toNatClampNeg v4) v1))), (lgT, .inl (cK 0, 400, .inl (upd lgTf (Int32.toNatClampNeg v4) v2))), (lgC, .inl (cK 1, 400, .inl (upd lgCf (Int32.toNatClampNeg v4) (vp_nar .boolean v3))))] H := hP
    have hD : va_D A [(lg, .inr (0, [.ref lgA, .ref lgT, .ref lgC, .int (lgS + 1)])), (lgA, .inl (cK 0, 400, .inl (upd lgAf (Int32.toNatClampNeg v4) v1))), (lgT, .inl (cK 0, 400, .inl (upd lgTf (Int32.toNatClampNeg v4) v2))), (lgC, .inl (cK 1, 400, .inl (upd lgCf (Int32.toNatClampNeg v4) (vp_nar .boolean v3))))] := hD
    refine lv_iload hx hb d_Lg_say_121 (lv_at hl 4 rfl) ?_
    cases hf
    exact hret _ _ 123 _ hP hD hS rfl d_Lg_say_123
  have J_15 : ∀ (v1 : Int32) (v2 : Int32) (v3 : Int32) (n_15 : Nat) (lgS : Int32) (lgAf : Nat → Int32) (lgTf : Nat → Int32) (lgCf : Nat → Int32) (v4 : Int32) (H : Heap) (locs : List Loc) (ls : Array Slot), f_Lg_say_15 N v1 v2 v3 n_15 lgS lgAf lgTf lgCf v4 = some (r, o_lgS, o_lgAf, o_lgTf, o_lgCf) → va_P D zz_cl [(lg, .inr (0, [.ref lgA, .ref lgT, .ref lgC, .int lgS])), (lgA, .inl (cK 0, 400, .inl lgAf)), (lgT, .inl (cK 0, 400, .inl lgTf)), (lgC, .inl (cK 1, 400, .inl lgCf))] H → va_D A [(lg, .inr (0, [.ref lgA, .ref lgT, .ref lgC, .int lgS])), (lgA, .inl (cK 0, 400, .inl lgAf)), (lgT, .inl (cK 0, 400, .inl lgTf)), (lgC, .inl (cK 1, 400, .inl lgCf))] → va_S A s.heap H locs → lv_has ls 5 [(0, .ref lg), (1, .int v1), (2, .int v2), (3, .int v3), (4, .int v4)] → W p l e rm_Lg_say s m args below meth c H locs 0 0 Q (F0 m 15 ls []) := by
    intro v1 v2 v3 n_15
    induction n_15 with
    | zero =>
      intro lgS lgAf lgTf lgCf v4 H locs ls hf hP hD hS hl
      exact fn_0 hf
    | succ n_15 ih_15 =>
      intro lgS lgAf lgTf lgCf v4 H locs ls hf hP hD hS hl
      rw [f_Lg_say_15.eq_2] at hf
      refine lv_iload hx hb d_Lg_say_15 (lv_at hl 4 rfl) ?_
      refine lv_if_le (tgt := 87) hx hb d_Lg_say_17 (by decide) (fun hc => ?_) (fun hc => ?_)
      · have hf := fn_t hc hf
        exact J_87 _ _ _ _ _ _ _ _ _ _ _ hf hP hD hS (lv_sub hl [0, 1, 2, 3, 4] rfl)
      · have hf := fn_f hc hf
        refine lv_aload_n hx hb d_Lg_say_20 rfl (lv_at hl 0 rfl) ?_
        refine va_get (D := D) (ci := 0) (v := .ref lgA) (C := RK0) (T := TK0) (N := 4) hx hb hts iwK0 hown hK hP 0 rfl rfl 0 (by decide) (hts _ fl_Lg_9) (fun _ h9 => h9) rfl d_Lg_say_21 ?_
        refine lv_iload hx hb d_Lg_say_24 (lv_at hl 4 rfl) ?_
        refine lv_iconst (v := 1) hx hb d_Lg_say_26 (by decide) ?_
        refine lv_isub hx hb d_Lg_say_27 ?_
        have hg := fn_g hf
        have hf := fn_t hg hf
        refine va_iald hx hb hK hP 1 0 rfl rfl (fn_v hg) d_Lg_say_28 ?_
        refine lv_iload_n hx hb d_Lg_say_29 rfl (lv_at hl 1 rfl) ?_
        refine lv_icmp_le (tgt := 87) hx hb d_Lg_say_30 (by decide) (fun hc => ?_) (fun hc => ?_)
        · have hf := fn_t hc hf
          exact J_87 _ _ _ _ _ _ _ _ _ _ _ hf hP hD hS (lv_sub hl [0, 1, 2, 3, 4] rfl)
        · have hf := fn_f hc hf
          refine lv_aload_n hx hb d_Lg_say_33 rfl (lv_at hl 0 rfl) ?_
          refine va_get (D := D) (ci := 0) (v := .ref lgA) (C := RK0) (T := TK0) (N := 4) hx hb hts iwK0 hown hK hP 0 rfl rfl 0 (by decide) (hts _ fl_Lg_9) (fun _ h9 => h9) rfl d_Lg_say_34 ?_
          refine lv_iload hx hb d_Lg_say_37 (lv_at hl 4 rfl) ?_
          refine lv_aload_n hx hb d_Lg_say_39 rfl (lv_at hl 0 rfl) ?_
          refine va_get (D := D) (ci := 0) (v := .ref lgA) (C := RK0) (T := TK0) (N := 4) hx hb hts iwK0 hown hK hP 0 rfl rfl 0 (by decide) (hts _ fl_Lg_9) (fun _ h9 => h9) rfl d_Lg_say_40 ?_
          refine lv_iload hx hb d_Lg_say_43 (lv_at hl 4 rfl) ?_
          refine lv_iconst (v := 1) hx hb d_Lg_say_45 (by decide) ?_
          refine lv_isub hx hb d_Lg_say_46 ?_
          have hg := fn_g hf
          have hf := fn_t hg hf
          refine va_iald hx hb hK hP 1 0 rfl rfl (fn_v hg) d_Lg_say_47 ?_
          have hg := fn_g hf
          have hf := fn_t hg hf
          refine va_iast hx hb hK hP hD hS 1 0 rfl rfl (fn_v hg) d_Lg_say_48 (fun H locs hP hD hS => ?_)
          have hP : va_P D zz_cl [(lg, .inr (0, [.ref lgA, .ref lgT, .ref lgC, .int lgS])), (lgA, .inl (cK 0, 400, .inl (upd lgAf (Int32.toNatClampNeg v4) (lgAf (Int32.toNatClampNeg (v4 - 1)))))), (lgT, .inl (cK 0, 400, .inl lgTf)), (lgC, .inl (cK 1, 400, .inl lgCf))] H := hP
          have hD : va_D A [(lg, .inr (0, [.ref lgA, .ref lgT, .ref lgC, .int lgS])), (lgA, .inl (cK 0, 400, .inl (upd lgAf (Int32.toNatClampNeg v4) (lgAf (Int32.toNatClampNeg (v4 - 1)))))), (lgT, .inl (cK 0, 400, .inl lgTf)), (lgC, .inl (cK 1, 400, .inl lgCf))] := hD
          refine lv_aload_n hx hb d_Lg_say_49 rfl (lv_at hl 0 rfl) ?_
          refine va_get (D := D) (ci := 0) (v := .ref lgT) (C := RK0) (T := TK0) (N := 4) hx hb hts iwK0 hown hK hP 0 rfl rfl 1 (by decide) (hts _ fl_Lg_15) (fun _ h9 => h9) rfl d_Lg_say_50 ?_
          refine lv_iload hx hb d_Lg_say_53 (lv_at hl 4 rfl) ?_
          refine lv_aload_n hx hb d_Lg_say_55 rfl (lv_at hl 0 rfl) ?_
          refine va_get (D := D) (ci := 0) (v := .ref lgT) (C := RK0) (T := TK0) (N := 4) hx hb hts iwK0 hown hK hP 0 rfl rfl 1 (by decide) (hts _ fl_Lg_15) (fun _ h9 => h9) rfl d_Lg_say_56 ?_
          refine lv_iload hx hb d_Lg_say_59 (lv_at hl 4 rfl) ?_
          refine lv_iconst (v := 1) hx hb d_Lg_say_61 (by decide) ?_
          refine lv_isub hx hb d_Lg_say_62 ?_
          have hg := fn_g hf
          have hf := fn_t hg hf
          refine va_iald hx hb hK hP 2 0 rfl rfl (fn_v hg) d_Lg_say_63 ?_
          have hg := fn_g hf
          have hf := fn_t hg hf
          refine va_iast hx hb hK hP hD hS 2 0 rfl rfl (fn_v hg) d_Lg_say_64 (fun H locs hP hD hS => ?_)
          have hP : va_P D zz_cl [(lg, .inr (0, [.ref lgA, .ref lgT, .ref lgC, .int lgS])), (lgA, .inl (cK 0, 400, .inl (upd lgAf (Int32.toNatClampNeg v4) (lgAf (Int32.toNatClampNeg (v4 - 1)))))), (lgT, .inl (cK 0, 400, .inl (upd lgTf (Int32.toNatClampNeg v4) (lgTf (Int32.toNatClampNeg (v4 - 1)))))), (lgC, .inl (cK 1, 400, .inl lgCf))] H := hP
          have hD : va_D A [(lg, .inr (0, [.ref lgA, .ref lgT, .ref lgC, .int lgS])), (lgA, .inl (cK 0, 400, .inl (upd lgAf (Int32.toNatClampNeg v4) (lgAf (Int32.toNatClampNeg (v4 - 1)))))), (lgT, .inl (cK 0, 400, .inl (upd lgTf (Int32.toNatClampNeg v4) (lgTf (Int32.toNatClampNeg (v4 - 1)))))), (lgC, .inl (cK 1, 400, .inl lgCf))] := hD
          refine lv_aload_n hx hb d_Lg_say_65 rfl (lv_at hl 0 rfl) ?_
          refine va_get (D := D) (ci := 0) (v := .ref lgC) (C := RK0) (T := TK0) (N := 4) hx hb hts iwK0 hown hK hP 0 rfl rfl 2 (by decide) (hts _ fl_Lg_18) (fun _ h9 => h9) rfl d_Lg_say_66 ?_
          refine lv_iload hx hb d_Lg_say_69 (lv_at hl 4 rfl) ?_
          refine lv_aload_n hx hb d_Lg_say_71 rfl (lv_at hl 0 rfl) ?_
          refine va_get (D := D) (ci := 0) (v := .ref lgC) (C := RK0) (T := TK0) (N := 4) hx hb hts iwK0 hown hK hP 0 rfl rfl 2 (by decide) (hts _ fl_Lg_18) (fun _ h9 => h9) rfl d_Lg_say_72 ?_
          refine lv_iload hx hb d_Lg_say_75 (lv_at hl 4 rfl) ?_
          refine lv_iconst (v := 1) hx hb d_Lg_say_77 (by decide) ?_
          refine lv_isub hx hb d_Lg_say_78 ?_
          have hg := fn_g hf
          have hf := fn_t hg hf
          refine va_zald hx hb hK hP 3 1 rfl rfl (fn_v hg) d_Lg_say_79 ?_
          have hg := fn_g hf
          have hf := fn_t hg hf
          refine va_zast hx hb hK hP hD hS 3 1 rfl rfl (fn_v hg) d_Lg_say_80 (fun H locs hP hD hS => ?_)
          have hP : va_P D zz_cl [(lg, .inr (0, [.ref lgA, .ref lgT, .ref lgC, .int lgS])), (lgA, .inl (cK 0, 400, .inl (upd lgAf (Int32.toNatClampNeg v4) (lgAf (Int32.toNatClampNeg (v4 - 1)))))), (lgT, .inl (cK 0, 400, .inl (upd lgTf (Int32.toNatClampNeg v4) (lgTf (Int32.toNatClampNeg (v4 - 1)))))), (lgC, .inl (cK 1, 400, .inl (upd lgCf (Int32.toNatClampNeg v4) (vp_nar .boolean (lgCf (Int32.toNatClampNeg (v4 - 1)))))))] H := hP
          have hD : va_D A [(lg, .inr (0, [.ref lgA, .ref lgT, .ref lgC, .int lgS])), (lgA, .inl (cK 0, 400, .inl (upd lgAf (Int32.toNatClampNeg v4) (lgAf (Int32.toNatClampNeg (v4 - 1)))))), (lgT, .inl (cK 0, 400, .inl (upd lgTf (Int32.toNatClampNeg v4) (lgTf (Int32.toNatClampNeg (v4 - 1)))))), (lgC, .inl (cK 1, 400, .inl (upd lgCf (Int32.toNatClampNeg v4) (vp_nar .boolean (lgCf (Int32.toNatClampNeg (v4 - 1)))))))] := hD
          refine lv_iinc (v := (v4 + (-1))) (lv' := [(4, .int (v4 + (-1))), (0, .ref lg), (1, .int v1), (2, .int v2), (3, .int v3)]) hx hb d_Lg_say_81 hl (k := 4) rfl rfl (by decide) rfl (fun ls hl => ?_)
          refine lv_goto (tgt := 15) hx hb d_Lg_say_84 (by decide) ?_
          exact ih_15 _ _ _ _ _ _ _ _ hf hP hD hS (lv_sub hl [1, 2, 3, 4, 0] rfl)
  unfold f_Lg_say at hf
  refine lv_aload_n hx hb d_Lg_say_0 rfl (lv_at hl 0 rfl) ?_
  obtain ⟨r_1, hcl, hf⟩ := fn_e1 hf
  refine cv_RdI (rest := []) ⟨hx, hb, hml, hown, hts⟩ (c_Lg_isFull l D cK lg lgA lgT lgC lgS r_1 hcl) (cwV 0 hts (zz_V ml_Lg_26 im_Lg_isFull se_Lg_isFull in_Lg co_Lg_isFull) rfl rfl rfl ⟨rfl, hd_Lg_isFull⟩ ⟨Nat.le_of_ble_eq_true rfl, Nat.le_of_ble_eq_true rfl⟩) hK hP [0] rfl 0 rfl rfl rfl rfl hl.1 rfl (Nat.le_of_ble_eq_true rfl) d_Lg_say_1 ⟨Nat.zero_le _, Nat.zero_le _⟩ ?_
  refine lv_if_eq (tgt := 9) hx hb d_Lg_say_4 (by decide) (fun hc => ?_) (fun hc => ?_)
  · have hf := fn_t hc hf
    refine lv_aload_n hx hb d_Lg_say_9 rfl (lv_at hl 0 rfl) ?_
    refine va_get (D := D) (ci := 0) (v := .int lgS) (C := RK0) (T := TK0) (N := 4) hx hb hts iwK0 hown hK hP 0 rfl rfl 3 (by decide) (hts _ fl_Lg_22) (fun _ h9 => h9) rfl d_Lg_say_10 ?_
    refine lv_istore (lv' := [(4, .int lgS), (0, .ref lg), (1, .int v1), (2, .int v2), (3, .int v3)]) hx hb d_Lg_say_13 hl (by decide) rfl (fun ls hl => ?_)
    exact J_15 _ _ _ _ _ _ _ _ _ _ _ _ hf hP hD hS (lv_sub hl [1, 2, 3, 4, 0] rfl)
  · have hf := fn_f hc hf
    refine lv_iconst (v := (-1)) hx hb d_Lg_say_7 (by decide) ?_
    cases hf
    exact hret _ _ 8 _ hP hD hS rfl d_Lg_say_8
abbrev rm_Lg_lastOf : Room := { frames := 0, cells := 0, slots := 0, locals := 0 }
set_option maxHeartbeats 4000000 in
set_option maxRecDepth 100000 in
theorem c_Lg_lastOf (l : Launch) (D : va_G) (cK : Nat → ClassId) (lg lgA lgT lgC : Nat) (lgS : Int32) (lgAf : Nat → Int32) (lgTf : Nat → Int32) (N : Nat) (v1 : Int32) (v2 : Int32) (r : Int32) (hf : f_Lg_lastOf N lgS lgAf lgTf v1 v2 = some r) : RdI l y_Lg_lastOf w_Lg_lastOf rm_Lg_lastOf D zz_cl (mt_ty cK RK2) [.ref lg, .int v1, .int v2] [(lg, .inr (0, [.ref lgA, .ref lgT, .ref lgC, .int lgS])), (lgA, .inl (cK 0, 400, .inl lgAf)), (lgT, .inl (cK 0, 400, .inl lgTf))] r := by
  refine mk_RdI (cc := b_Lg_lastOf) (maxL := 4) (ty := .int) (by decide +kernel) rfl (Nat.le_of_ble_eq_true rfl) ?_
  intro p e s m below meth c args Q ls hx hb hml hown hts hK hP hret hl
  have hl : lv_has ls 4 [(0, .ref lg), (1, .int v1), (2, .int v2)] := hl
  have J_7 : ∀ (v1 : Int32) (v2 : Int32) (n_7 : Nat)  (v3 : Int32) (ls : Array Slot), f_Lg_lastOf_7 N lgS lgAf lgTf v1 v2 n_7 v3 = some r → lv_has ls 4 [(0, .ref lg), (1, .int v1), (2, .int v2), (3, .int v3)] → W p l e rm_Lg_lastOf s m args below meth c s.heap [] 0 0 Q (F0 m 7 ls []) := by
    intro v1 v2 n_7
    induction n_7 with
    | zero =>
      intro v3 ls hf hl
      exact fn_0 hf
    | succ n_7 ih_7 =>
      intro v3 ls hf hl
      rw [f_Lg_lastOf_7.eq_2] at hf
      refine lv_iload_n hx hb d_Lg_lastOf_7 rfl (lv_at hl 3 rfl) ?_
      refine lv_if_lt (tgt := 39) hx hb d_Lg_lastOf_8 (by decide) (fun hc => ?_) (fun hc => ?_)
      · have hf := fn_t hc hf
        refine lv_iconst (v := (-1)) hx hb d_Lg_lastOf_39 (by decide) ?_
        cases hf
        exact hret 40 _ rfl d_Lg_lastOf_40
      · have hf := fn_f hc hf
        refine lv_aload_n hx hb d_Lg_lastOf_11 rfl (lv_at hl 0 rfl) ?_
        refine va_get (D := D) (ci := 0) (v := .ref lgA) (C := RK0) (T := TK0) (N := 4) hx hb hts iwK0 hown hK hP 0 rfl rfl 0 (by decide) (hts _ fl_Lg_9) (fun _ h9 => h9) rfl d_Lg_lastOf_12 ?_
        refine lv_iload_n hx hb d_Lg_lastOf_15 rfl (lv_at hl 3 rfl) ?_
        have hg := fn_g hf
        have hf := fn_t hg hf
        refine va_iald hx hb hK hP 1 0 rfl rfl (fn_v hg) d_Lg_lastOf_16 ?_
        refine lv_iload_n hx hb d_Lg_lastOf_17 rfl (lv_at hl 2 rfl) ?_
        refine lv_icmp_gt (tgt := 33) hx hb d_Lg_lastOf_18 (by decide) (fun hc => ?_) (fun hc => ?_)
        · have hf := fn_t hc hf
          refine lv_iinc (v := (v3 + (-1))) (lv' := [(3, .int (v3 + (-1))), (0, .ref lg), (1, .int v1), (2, .int v2)]) hx hb d_Lg_lastOf_33 hl (k := 3) rfl rfl (by decide) rfl (fun ls hl => ?_)
          refine lv_goto (tgt := 7) hx hb d_Lg_lastOf_36 (by decide) ?_
          exact ih_7 _ _ hf (lv_sub hl [1, 2, 3, 0] rfl)
        · have hf := fn_f hc hf
          refine lv_aload_n hx hb d_Lg_lastOf_21 rfl (lv_at hl 0 rfl) ?_
          refine va_get (D := D) (ci := 0) (v := .ref lgT) (C := RK0) (T := TK0) (N := 4) hx hb hts iwK0 hown hK hP 0 rfl rfl 1 (by decide) (hts _ fl_Lg_15) (fun _ h9 => h9) rfl d_Lg_lastOf_22 ?_
          refine lv_iload_n hx hb d_Lg_lastOf_25 rfl (lv_at hl 3 rfl) ?_
          have hg := fn_g hf
          have hf := fn_t hg hf
          refine va_iald hx hb hK hP 2 0 rfl rfl (fn_v hg) d_Lg_lastOf_26 ?_
          refine lv_iload_n hx hb d_Lg_lastOf_27 rfl (lv_at hl 1 rfl) ?_
          refine lv_icmp_ne (tgt := 33) hx hb d_Lg_lastOf_28 (by decide) (fun hc => ?_) (fun hc => ?_)
          · have hf := fn_f hc hf
            refine lv_iinc (v := (v3 + (-1))) (lv' := [(3, .int (v3 + (-1))), (0, .ref lg), (1, .int v1), (2, .int v2)]) hx hb d_Lg_lastOf_33 hl (k := 3) rfl rfl (by decide) rfl (fun ls hl => ?_)
            refine lv_goto (tgt := 7) hx hb d_Lg_lastOf_36 (by decide) ?_
            exact ih_7 _ _ hf (lv_sub hl [1, 2, 3, 0] rfl)
          · have hf := fn_t hc hf
            refine lv_iload_n hx hb d_Lg_lastOf_31 rfl (lv_at hl 3 rfl) ?_
            cases hf
            exact hret 32 _ rfl d_Lg_lastOf_32
  unfold f_Lg_lastOf at hf
  refine lv_aload_n hx hb d_Lg_lastOf_0 rfl (lv_at hl 0 rfl) ?_
  refine va_get (D := D) (ci := 0) (v := .int lgS) (C := RK0) (T := TK0) (N := 4) hx hb hts iwK0 hown hK hP 0 rfl rfl 3 (by decide) (hts _ fl_Lg_22) (fun _ h9 => h9) rfl d_Lg_lastOf_1 ?_
  refine lv_iconst (v := 1) hx hb d_Lg_lastOf_4 (by decide) ?_
  refine lv_isub hx hb d_Lg_lastOf_5 ?_
  refine lv_istore_n (lv' := [(3, .int (lgS - 1)), (0, .ref lg), (1, .int v1), (2, .int v2)]) hx hb d_Lg_lastOf_6 rfl hl (by decide) rfl (fun ls hl => ?_)
  exact J_7 _ _ _ _ _ hf (lv_sub hl [1, 2, 3, 0] rfl)
abbrev rm_Lg_isPlace : Room := { frames := 0, cells := 0, slots := 0, locals := 0 }
set_option maxHeartbeats 4000000 in
set_option maxRecDepth 100000 in
theorem c_Lg_isPlace (l : Launch) (D : va_G) (cK : Nat → ClassId) (lg lgA lgT lgC : Nat) (lgS : Int32) (v1 : Int32) (r : Int32) (hf : f_Lg_isPlace lgS v1 = some r) : RdI l y_Lg_isPlace w_Lg_isPlace rm_Lg_isPlace D zz_cl (mt_ty cK RK2) [.ref lg, .int v1] [(lg, .inr (0, [.ref lgA, .ref lgT, .ref lgC, .int lgS]))] r := by
  refine mk_RdI (cc := b_Lg_isPlace) (maxL := 2) (ty := .boolean) (by decide +kernel) rfl (Nat.le_of_ble_eq_true rfl) ?_
  intro p e s m below meth c args Q ls hx hb hml hown hts hK hP hret hl
  have hl : lv_has ls 2 [(0, .ref lg), (1, .int v1)] := hl
  unfold f_Lg_isPlace at hf
  refine lv_iload_n hx hb d_Lg_isPlace_0 rfl (lv_at hl 1 rfl) ?_
  refine lv_if_lt (tgt := 16) hx hb d_Lg_isPlace_1 (by decide) (fun hc => ?_) (fun hc => ?_)
  · have hf := fn_t hc hf
    refine lv_iconst (v := 0) hx hb d_Lg_isPlace_16 (by decide) ?_
    cases hf
    exact hret 17 _ rfl d_Lg_isPlace_17
  · have hf := fn_f hc hf
    refine lv_iload_n hx hb d_Lg_isPlace_4 rfl (lv_at hl 1 rfl) ?_
    refine lv_aload_n hx hb d_Lg_isPlace_5 rfl (lv_at hl 0 rfl) ?_
    refine va_get (D := D) (ci := 0) (v := .int lgS) (C := RK0) (T := TK0) (N := 4) hx hb hts iwK0 hown hK hP 0 rfl rfl 3 (by decide) (hts _ fl_Lg_22) (fun _ h9 => h9) rfl d_Lg_isPlace_6 ?_
    refine lv_icmp_ge (tgt := 16) hx hb d_Lg_isPlace_9 (by decide) (fun hc => ?_) (fun hc => ?_)
    · have hf := fn_t hc hf
      refine lv_iconst (v := 0) hx hb d_Lg_isPlace_16 (by decide) ?_
      cases hf
      exact hret 17 _ rfl d_Lg_isPlace_17
    · have hf := fn_f hc hf
      refine lv_iconst (v := 1) hx hb d_Lg_isPlace_12 (by decide) ?_
      refine lv_goto (tgt := 17) hx hb d_Lg_isPlace_13 (by decide) ?_
      cases hf
      exact hret 17 _ rfl d_Lg_isPlace_17
abbrev rm_Jm_max : Room := { frames := 0, cells := 0, slots := 0, locals := 0 }
set_option maxHeartbeats 4000000 in
set_option maxRecDepth 100000 in
theorem c_Jm_max (l : Launch) (D : va_G) (cK : Nat → ClassId)  (v0 : Int32) (v1 : Int32) (r : Int32) (hf : f_Jm_max v0 v1 = some r) : RdI l y_Jm_max w_Jm_max rm_Jm_max D zz_cl (mt_ty cK RK2) [.int v0, .int v1] [] r := by
  refine mk_RdI (cc := b_Jm_max) (maxL := 2) (ty := .int) (by decide +kernel) rfl (Nat.le_of_ble_eq_true rfl) ?_
  intro p e s m below meth c args Q ls hx hb hml hown hts hK hP hret hl
  have hl : lv_has ls 2 [(0, .int v0), (1, .int v1)] := hl
  unfold f_Jm_max at hf
  refine lv_iload_n hx hb d_Jm_max_0 rfl (lv_at hl 0 rfl) ?_
  refine lv_iload_n hx hb d_Jm_max_1 rfl (lv_at hl 1 rfl) ?_
  refine lv_icmp_lt (tgt := 9) hx hb d_Jm_max_2 (by decide) (fun hc => ?_) (fun hc => ?_)
  · have hf := fn_t hc hf
    refine lv_iload_n hx hb d_Jm_max_9 rfl (lv_at hl 1 rfl) ?_
    cases hf
    exact hret 10 _ rfl d_Jm_max_10
  · have hf := fn_f hc hf
    refine lv_iload_n hx hb d_Jm_max_5 rfl (lv_at hl 0 rfl) ?_
    refine lv_goto (tgt := 10) hx hb d_Jm_max_6 (by decide) ?_
    cases hf
    exact hret 10 _ rfl d_Jm_max_10
abbrev rm_Jm_floorMod : Room := { frames := 0, cells := 0, slots := 0, locals := 0 }
set_option maxHeartbeats 4000000 in
set_option maxRecDepth 100000 in
theorem c_Jm_floorMod (l : Launch) (D : va_G) (cK : Nat → ClassId)  (v0 : Int32) (v1 : Int32) (r : Int32) (hf : f_Jm_floorMod v0 v1 = some r) : RdI l y_Jm_floorMod w_Jm_floorMod rm_Jm_floorMod D zz_cl (mt_ty cK RK2) [.int v0, .int v1] [] r := by
  refine mk_RdI (cc := b_Jm_floorMod) (maxL := 3) (ty := .int) (by decide +kernel) rfl (Nat.le_of_ble_eq_true rfl) ?_
  intro p e s m below meth c args Q ls hx hb hml hown hts hK hP hret hl
  have hl : lv_has ls 3 [(0, .int v0), (1, .int v1)] := hl
  unfold f_Jm_floorMod at hf
  refine lv_iload_n hx hb d_Jm_floorMod_0 rfl (lv_at hl 0 rfl) ?_
  refine lv_iload_n hx hb d_Jm_floorMod_1 rfl (lv_at hl 1 rfl) ?_
  have hg := fn_g hf
  have hf := fn_t hg hf
  refine lv_irem hx hb d_Jm_floorMod_2 hg ?_
  refine lv_istore_n (lv' := [(2, .int (v0 - v0 / v1 * v1)), (0, .int v0), (1, .int v1)]) hx hb d_Jm_floorMod_3 rfl hl (by decide) rfl (fun ls hl => ?_)
  refine lv_iload_n hx hb d_Jm_floorMod_4 rfl (lv_at hl 1 rfl) ?_
  refine lv_iload_n hx hb d_Jm_floorMod_5 rfl (lv_at hl 2 rfl) ?_
  refine lv_ixor hx hb d_Jm_floorMod_6 ?_
  refine lv_if_ge (tgt := 18) hx hb d_Jm_floorMod_7 (by decide) (fun hc => ?_) (fun hc => ?_)
  · have hf := fn_t hc hf
    refine lv_iload_n hx hb d_Jm_floorMod_18 rfl (lv_at hl 0 rfl) ?_
    cases hf
    exact hret 19 _ rfl d_Jm_floorMod_19
  · have hf := fn_f hc hf
    refine lv_iload_n hx hb d_Jm_floorMod_10 rfl (lv_at hl 0 rfl) ?_
    refine lv_if_eq (tgt := 18) hx hb d_Jm_floorMod_11 (by decide) (fun hc => ?_) (fun hc => ?_)
    · have hf := fn_t hc hf
      refine lv_iload_n hx hb d_Jm_floorMod_18 rfl (lv_at hl 0 rfl) ?_
      cases hf
      exact hret 19 _ rfl d_Jm_floorMod_19
    · have hf := fn_f hc hf
      refine lv_iload_n hx hb d_Jm_floorMod_14 rfl (lv_at hl 0 rfl) ?_
      refine lv_iload_n hx hb d_Jm_floorMod_15 rfl (lv_at hl 2 rfl) ?_
      refine lv_iadd hx hb d_Jm_floorMod_16 ?_
      cases hf
      exact hret 17 _ rfl d_Jm_floorMod_17
abbrev rm_Jm_min : Room := { frames := 0, cells := 0, slots := 0, locals := 0 }
set_option maxHeartbeats 4000000 in
set_option maxRecDepth 100000 in
theorem c_Jm_min (l : Launch) (D : va_G) (cK : Nat → ClassId)  (v0 : Int32) (v1 : Int32) (r : Int32) (hf : f_Jm_min v0 v1 = some r) : RdI l y_Jm_min w_Jm_min rm_Jm_min D zz_cl (mt_ty cK RK2) [.int v0, .int v1] [] r := by
  refine mk_RdI (cc := b_Jm_min) (maxL := 2) (ty := .int) (by decide +kernel) rfl (Nat.le_of_ble_eq_true rfl) ?_
  intro p e s m below meth c args Q ls hx hb hml hown hts hK hP hret hl
  have hl : lv_has ls 2 [(0, .int v0), (1, .int v1)] := hl
  unfold f_Jm_min at hf
  refine lv_iload_n hx hb d_Jm_min_0 rfl (lv_at hl 0 rfl) ?_
  refine lv_iload_n hx hb d_Jm_min_1 rfl (lv_at hl 1 rfl) ?_
  refine lv_icmp_gt (tgt := 9) hx hb d_Jm_min_2 (by decide) (fun hc => ?_) (fun hc => ?_)
  · have hf := fn_t hc hf
    refine lv_iload_n hx hb d_Jm_min_9 rfl (lv_at hl 1 rfl) ?_
    cases hf
    exact hret 10 _ rfl d_Jm_min_10
  · have hf := fn_f hc hf
    refine lv_iload_n hx hb d_Jm_min_5 rfl (lv_at hl 0 rfl) ?_
    refine lv_goto (tgt := 10) hx hb d_Jm_min_6 (by decide) ?_
    cases hf
    exact hret 10 _ rfl d_Jm_min_10
abbrev rm_Ja_fill : Room := { frames := 0, cells := 0, slots := 0, locals := 0 }
set_option maxHeartbeats 4000000 in
set_option maxRecDepth 100000 in
theorem c_Ja_fill (l : Launch) (D : va_G) (cK : Nat → ClassId) (ar : Nat) (arM : Nat) (arf : Nat → Int32) (N : Nat) (v1 : Int32) (o_arf : Nat → Int32) (hf : f_Ja_fill N arM arf v1 = some o_arf) : WrV l y_Ja_fill w_Ja_fill rm_Ja_fill D zz_cl (mt_ty cK RK2) [.ref ar, .int v1] [(ar, .inl (cK 0, arM, .inl arf))] [(ar, .inl (cK 0, arM, .inl o_arf))] := by
  refine mk_WrV (cc := b_Ja_fill) (maxL := 4) (by decide +kernel) rfl (Nat.le_of_ble_eq_true rfl) ?_
  intro p e s m below meth c args Q A ls hx hb hml hown hts hA hK hP hD hret hl
  have hS : va_S A s.heap s.heap [] := va_S.rf
  have hl : lv_has ls 4 [(0, .ref ar), (1, .int v1)] := hl
  have J_5 : ∀ (v1 : Int32) (v3 : Int32) (n_5 : Nat) (arf : Nat → Int32) (v2 : Int32) (H : Heap) (locs : List Loc) (ls : Array Slot), f_Ja_fill_5 N arM v1 v3 n_5 arf v2 = some o_arf → va_P D zz_cl [(ar, .inl (cK 0, arM, .inl arf))] H → va_D A [(ar, .inl (cK 0, arM, .inl arf))] → va_S A s.heap H locs → lv_has ls 4 [(0, .ref ar), (1, .int v1), (2, .int v2), (3, .int v3)] → W p l e rm_Ja_fill s m args below meth c H locs 0 0 Q (F0 m 5 ls []) := by
    intro v1 v3 n_5
    induction n_5 with
    | zero =>
      intro arf v2 H locs ls hf hP hD hS hl
      exact fn_0 hf
    | succ n_5 ih_5 =>
      intro arf v2 H locs ls hf hP hD hS hl
      rw [f_Ja_fill_5.eq_2] at hf
      refine lv_iload_n hx hb d_Ja_fill_5 rfl (lv_at hl 2 rfl) ?_
      refine lv_iload_n hx hb d_Ja_fill_6 rfl (lv_at hl 3 rfl) ?_
      refine lv_icmp_ge (tgt := 20) hx hb d_Ja_fill_7 (by decide) (fun hc => ?_) (fun hc => ?_)
      · have hf := fn_t hc hf
        cases hf
        exact hret _ _ 20 _ hP hD hS d_Ja_fill_20
      · have hf := fn_f hc hf
        refine lv_aload_n hx hb d_Ja_fill_10 rfl (lv_at hl 0 rfl) ?_
        refine lv_iload_n hx hb d_Ja_fill_11 rfl (lv_at hl 2 rfl) ?_
        refine lv_iload_n hx hb d_Ja_fill_12 rfl (lv_at hl 1 rfl) ?_
        have hg := fn_g hf
        have hf := fn_t hg hf
        refine va_iast hx hb hK hP hD hS 0 0 rfl rfl (fn_v hg) d_Ja_fill_13 (fun H locs hP hD hS => ?_)
        have hP : va_P D zz_cl [(ar, .inl (cK 0, arM, .inl (upd arf (Int32.toNatClampNeg v2) v1)))] H := hP
        have hD : va_D A [(ar, .inl (cK 0, arM, .inl (upd arf (Int32.toNatClampNeg v2) v1)))] := hD
        refine lv_iinc (v := (v2 + 1)) (lv' := [(2, .int (v2 + 1)), (0, .ref ar), (1, .int v1), (3, .int v3)]) hx hb d_Ja_fill_14 hl (k := 2) rfl rfl (by decide) rfl (fun ls hl => ?_)
        refine lv_goto (tgt := 5) hx hb d_Ja_fill_17 (by decide) ?_
        exact ih_5 _ _ _ _ _ hf hP hD hS (lv_sub hl [1, 2, 0, 3] rfl)
  unfold f_Ja_fill at hf
  refine lv_iconst (v := 0) hx hb d_Ja_fill_0 (by decide) ?_
  refine lv_istore_n (lv' := [(2, .int 0), (0, .ref ar), (1, .int v1)]) hx hb d_Ja_fill_1 rfl hl (by decide) rfl (fun ls hl => ?_)
  refine lv_aload_n hx hb d_Ja_fill_2 rfl (lv_at hl 1 rfl) ?_
  refine va_alen hx hb hK hP 0 0 rfl rfl rfl d_Ja_fill_3 ?_
  refine lv_istore_n (lv' := [(3, .int (Int32.ofNat arM)), (2, .int 0), (0, .ref ar), (1, .int v1)]) hx hb d_Ja_fill_4 rfl hl (by decide) rfl (fun ls hl => ?_)
  exact J_5 _ _ _ _ _ _ _ _ hf hP hD hS (lv_sub hl [2, 3, 1, 0] rfl)
abbrev rm_Ji_bitCount : Room := { frames := 0, cells := 0, slots := 0, locals := 0 }
set_option maxHeartbeats 4000000 in
set_option maxRecDepth 100000 in
theorem c_Ji_bitCount (l : Launch) (D : va_G) (cK : Nat → ClassId)  (v0 : Int32) (r : Int32) (hf : f_Ji_bitCount v0 = some r) : RdI l y_Ji_bitCount w_Ji_bitCount rm_Ji_bitCount D zz_cl (mt_ty cK RK2) [.int v0] [] r := by
  refine mk_RdI (cc := b_Ji_bitCount) (maxL := 1) (ty := .int) (by decide +kernel) rfl (Nat.le_of_ble_eq_true rfl) ?_
  intro p e s m below meth c args Q ls hx hb hml hown hts hK hP hret hl
  have hl : lv_has ls 1 [(0, .int v0)] := hl
  unfold f_Ji_bitCount at hf
  refine lv_iload_n hx hb d_Ji_bitCount_0 rfl (lv_at hl 0 rfl) ?_
  refine lv_iload_n hx hb d_Ji_bitCount_1 rfl (lv_at hl 0 rfl) ?_
  refine lv_iconst (v := 1) hx hb d_Ji_bitCount_2 (by decide) ?_
  refine lv_iushr hx hb d_Ji_bitCount_3 rfl ?_
  refine lv_ldcw (v := 1431655765) hx hb hown (hts _ kn_Ji_265) d_Ji_bitCount_4 ?_
  refine lv_iand hx hb d_Ji_bitCount_7 ?_
  refine lv_isub hx hb d_Ji_bitCount_8 ?_
  refine lv_istore_n (lv' := [(0, .int (v0 - ((Int32.toUInt32 v0 >>> (Int32.toUInt32 1 &&& Int32.toUInt32 31)).toInt32 &&& 1431655765)))]) hx hb d_Ji_bitCount_9 rfl hl (by decide) rfl (fun ls hl => ?_)
  refine lv_iload_n hx hb d_Ji_bitCount_10 rfl (lv_at hl 0 rfl) ?_
  refine lv_ldcw (v := 858993459) hx hb hown (hts _ kn_Ji_266) d_Ji_bitCount_11 ?_
  refine lv_iand hx hb d_Ji_bitCount_14 ?_
  refine lv_iload_n hx hb d_Ji_bitCount_15 rfl (lv_at hl 0 rfl) ?_
  refine lv_iconst (v := 2) hx hb d_Ji_bitCount_16 (by decide) ?_
  refine lv_iushr hx hb d_Ji_bitCount_17 rfl ?_
  refine lv_ldcw (v := 858993459) hx hb hown (hts _ kn_Ji_266) d_Ji_bitCount_18 ?_
  refine lv_iand hx hb d_Ji_bitCount_21 ?_
  refine lv_iadd hx hb d_Ji_bitCount_22 ?_
  refine lv_istore_n (lv' := [(0, .int (((v0 - ((Int32.toUInt32 v0 >>> (Int32.toUInt32 1 &&& Int32.toUInt32 31)).toInt32 &&& 1431655765)) &&& 858993459) + ((Int32.toUInt32 (v0 - ((Int32.toUInt32 v0 >>> (Int32.toUInt32 1 &&& Int32.toUInt32 31)).toInt32 &&& 1431655765)) >>> (Int32.toUInt32 2 &&& Int32.toUInt32 31)).toInt32 &&& 858993459)))]) hx hb d_Ji_bitCount_23 rfl hl (by decide) rfl (fun ls hl => ?_)
  refine lv_iload_n hx hb d_Ji_bitCount_24 rfl (lv_at hl 0 rfl) ?_
  refine lv_iload_n hx hb d_Ji_bitCount_25 rfl (lv_at hl 0 rfl) ?_
  refine lv_iconst (v := 4) hx hb d_Ji_bitCount_26 (by decide) ?_
  refine lv_iushr hx hb d_Ji_bitCount_27 rfl ?_
  refine lv_iadd hx hb d_Ji_bitCount_28 ?_
  refine lv_ldcw (v := 252645135) hx hb hown (hts _ kn_Ji_267) d_Ji_bitCount_29 ?_
  refine lv_iand hx hb d_Ji_bitCount_32 ?_
  refine lv_istore_n (lv' := [(0, .int (((((v0 - ((Int32.toUInt32 v0 >>> (Int32.toUInt32 1 &&& Int32.toUInt32 31)).toInt32 &&& 1431655765)) &&& 858993459) + ((Int32.toUInt32 (v0 - ((Int32.toUInt32 v0 >>> (Int32.toUInt32 1 &&& Int32.toUInt32 31)).toInt32 &&& 1431655765)) >>> (Int32.toUInt32 2 &&& Int32.toUInt32 31)).toInt32 &&& 858993459)) + (Int32.toUInt32 (((v0 - ((Int32.toUInt32 v0 >>> (Int32.toUInt32 1 &&& Int32.toUInt32 31)).toInt32 &&& 1431655765)) &&& 858993459) + ((Int32.toUInt32 (v0 - ((Int32.toUInt32 v0 >>> (Int32.toUInt32 1 &&& Int32.toUInt32 31)).toInt32 &&& 1431655765)) >>> (Int32.toUInt32 2 &&& Int32.toUInt32 31)).toInt32 &&& 858993459)) >>> (Int32.toUInt32 4 &&& Int32.toUInt32 31)).toInt32) &&& 252645135))]) hx hb d_Ji_bitCount_33 rfl hl (by decide) rfl (fun ls hl => ?_)
  refine lv_iload_n hx hb d_Ji_bitCount_34 rfl (lv_at hl 0 rfl) ?_
  refine lv_iload_n hx hb d_Ji_bitCount_35 rfl (lv_at hl 0 rfl) ?_
  refine lv_bipush (v := 8) hx hb d_Ji_bitCount_36 (by decide) ?_
  refine lv_iushr hx hb d_Ji_bitCount_38 rfl ?_
  refine lv_iadd hx hb d_Ji_bitCount_39 ?_
  refine lv_istore_n (lv' := [(0, .int ((((((v0 - ((Int32.toUInt32 v0 >>> (Int32.toUInt32 1 &&& Int32.toUInt32 31)).toInt32 &&& 1431655765)) &&& 858993459) + ((Int32.toUInt32 (v0 - ((Int32.toUInt32 v0 >>> (Int32.toUInt32 1 &&& Int32.toUInt32 31)).toInt32 &&& 1431655765)) >>> (Int32.toUInt32 2 &&& Int32.toUInt32 31)).toInt32 &&& 858993459)) + (Int32.toUInt32 (((v0 - ((Int32.toUInt32 v0 >>> (Int32.toUInt32 1 &&& Int32.toUInt32 31)).toInt32 &&& 1431655765)) &&& 858993459) + ((Int32.toUInt32 (v0 - ((Int32.toUInt32 v0 >>> (Int32.toUInt32 1 &&& Int32.toUInt32 31)).toInt32 &&& 1431655765)) >>> (Int32.toUInt32 2 &&& Int32.toUInt32 31)).toInt32 &&& 858993459)) >>> (Int32.toUInt32 4 &&& Int32.toUInt32 31)).toInt32) &&& 252645135) + (Int32.toUInt32 (((((v0 - ((Int32.toUInt32 v0 >>> (Int32.toUInt32 1 &&& Int32.toUInt32 31)).toInt32 &&& 1431655765)) &&& 858993459) + ((Int32.toUInt32 (v0 - ((Int32.toUInt32 v0 >>> (Int32.toUInt32 1 &&& Int32.toUInt32 31)).toInt32 &&& 1431655765)) >>> (Int32.toUInt32 2 &&& Int32.toUInt32 31)).toInt32 &&& 858993459)) + (Int32.toUInt32 (((v0 - ((Int32.toUInt32 v0 >>> (Int32.toUInt32 1 &&& Int32.toUInt32 31)).toInt32 &&& 1431655765)) &&& 858993459) + ((Int32.toUInt32 (v0 - ((Int32.toUInt32 v0 >>> (Int32.toUInt32 1 &&& Int32.toUInt32 31)).toInt32 &&& 1431655765)) >>> (Int32.toUInt32 2 &&& Int32.toUInt32 31)).toInt32 &&& 858993459)) >>> (Int32.toUInt32 4 &&& Int32.toUInt32 31)).toInt32) &&& 252645135) >>> (Int32.toUInt32 8 &&& Int32.toUInt32 31)).toInt32))]) hx hb d_Ji_bitCount_40 rfl hl (by decide) rfl (fun ls hl => ?_)
  refine lv_iload_n hx hb d_Ji_bitCount_41 rfl (lv_at hl 0 rfl) ?_
  refine lv_iload_n hx hb d_Ji_bitCount_42 rfl (lv_at hl 0 rfl) ?_
  refine lv_bipush (v := 16) hx hb d_Ji_bitCount_43 (by decide) ?_
  refine lv_iushr hx hb d_Ji_bitCount_45 rfl ?_
  refine lv_iadd hx hb d_Ji_bitCount_46 ?_
  refine lv_istore_n (lv' := [(0, .int (((((((v0 - ((Int32.toUInt32 v0 >>> (Int32.toUInt32 1 &&& Int32.toUInt32 31)).toInt32 &&& 1431655765)) &&& 858993459) + ((Int32.toUInt32 (v0 - ((Int32.toUInt32 v0 >>> (Int32.toUInt32 1 &&& Int32.toUInt32 31)).toInt32 &&& 1431655765)) >>> (Int32.toUInt32 2 &&& Int32.toUInt32 31)).toInt32 &&& 858993459)) + (Int32.toUInt32 (((v0 - ((Int32.toUInt32 v0 >>> (Int32.toUInt32 1 &&& Int32.toUInt32 31)).toInt32 &&& 1431655765)) &&& 858993459) + ((Int32.toUInt32 (v0 - ((Int32.toUInt32 v0 >>> (Int32.toUInt32 1 &&& Int32.toUInt32 31)).toInt32 &&& 1431655765)) >>> (Int32.toUInt32 2 &&& Int32.toUInt32 31)).toInt32 &&& 858993459)) >>> (Int32.toUInt32 4 &&& Int32.toUInt32 31)).toInt32) &&& 252645135) + (Int32.toUInt32 (((((v0 - ((Int32.toUInt32 v0 >>> (Int32.toUInt32 1 &&& Int32.toUInt32 31)).toInt32 &&& 1431655765)) &&& 858993459) + ((Int32.toUInt32 (v0 - ((Int32.toUInt32 v0 >>> (Int32.toUInt32 1 &&& Int32.toUInt32 31)).toInt32 &&& 1431655765)) >>> (Int32.toUInt32 2 &&& Int32.toUInt32 31)).toInt32 &&& 858993459)) + (Int32.toUInt32 (((v0 - ((Int32.toUInt32 v0 >>> (Int32.toUInt32 1 &&& Int32.toUInt32 31)).toInt32 &&& 1431655765)) &&& 858993459) + ((Int32.toUInt32 (v0 - ((Int32.toUInt32 v0 >>> (Int32.toUInt32 1 &&& Int32.toUInt32 31)).toInt32 &&& 1431655765)) >>> (Int32.toUInt32 2 &&& Int32.toUInt32 31)).toInt32 &&& 858993459)) >>> (Int32.toUInt32 4 &&& Int32.toUInt32 31)).toInt32) &&& 252645135) >>> (Int32.toUInt32 8 &&& Int32.toUInt32 31)).toInt32) + (Int32.toUInt32 ((((((v0 - ((Int32.toUInt32 v0 >>> (Int32.toUInt32 1 &&& Int32.toUInt32 31)).toInt32 &&& 1431655765)) &&& 858993459) + ((Int32.toUInt32 (v0 - ((Int32.toUInt32 v0 >>> (Int32.toUInt32 1 &&& Int32.toUInt32 31)).toInt32 &&& 1431655765)) >>> (Int32.toUInt32 2 &&& Int32.toUInt32 31)).toInt32 &&& 858993459)) + (Int32.toUInt32 (((v0 - ((Int32.toUInt32 v0 >>> (Int32.toUInt32 1 &&& Int32.toUInt32 31)).toInt32 &&& 1431655765)) &&& 858993459) + ((Int32.toUInt32 (v0 - ((Int32.toUInt32 v0 >>> (Int32.toUInt32 1 &&& Int32.toUInt32 31)).toInt32 &&& 1431655765)) >>> (Int32.toUInt32 2 &&& Int32.toUInt32 31)).toInt32 &&& 858993459)) >>> (Int32.toUInt32 4 &&& Int32.toUInt32 31)).toInt32) &&& 252645135) + (Int32.toUInt32 (((((v0 - ((Int32.toUInt32 v0 >>> (Int32.toUInt32 1 &&& Int32.toUInt32 31)).toInt32 &&& 1431655765)) &&& 858993459) + ((Int32.toUInt32 (v0 - ((Int32.toUInt32 v0 >>> (Int32.toUInt32 1 &&& Int32.toUInt32 31)).toInt32 &&& 1431655765)) >>> (Int32.toUInt32 2 &&& Int32.toUInt32 31)).toInt32 &&& 858993459)) + (Int32.toUInt32 (((v0 - ((Int32.toUInt32 v0 >>> (Int32.toUInt32 1 &&& Int32.toUInt32 31)).toInt32 &&& 1431655765)) &&& 858993459) + ((Int32.toUInt32 (v0 - ((Int32.toUInt32 v0 >>> (Int32.toUInt32 1 &&& Int32.toUInt32 31)).toInt32 &&& 1431655765)) >>> (Int32.toUInt32 2 &&& Int32.toUInt32 31)).toInt32 &&& 858993459)) >>> (Int32.toUInt32 4 &&& Int32.toUInt32 31)).toInt32) &&& 252645135) >>> (Int32.toUInt32 8 &&& Int32.toUInt32 31)).toInt32) >>> (Int32.toUInt32 16 &&& Int32.toUInt32 31)).toInt32))]) hx hb d_Ji_bitCount_47 rfl hl (by decide) rfl (fun ls hl => ?_)
  refine lv_iload_n hx hb d_Ji_bitCount_48 rfl (lv_at hl 0 rfl) ?_
  refine lv_bipush (v := 63) hx hb d_Ji_bitCount_49 (by decide) ?_
  refine lv_iand hx hb d_Ji_bitCount_51 ?_
  cases hf
  exact hret 52 _ rfl d_Ji_bitCount_52
abbrev rm_Lg_heldUntil : Room := { frames := 1, cells := 0, slots := 0, locals := 21 }
set_option maxHeartbeats 4000000 in
set_option maxRecDepth 100000 in
theorem c_Lg_heldUntil (l : Launch) (D : va_G) (cK : Nat → ClassId) (lg lgA lgT lgC : Nat) (lgS : Int32) (lgAf : Nat → Int32) (lgTf : Nat → Int32) (N : Nat) (v1 : Int32) (r : Int32) (hf : f_Lg_heldUntil N lgS lgAf lgTf v1 = some r) : RdI l y_Lg_heldUntil w_Lg_heldUntil rm_Lg_heldUntil D zz_cl (mt_ty cK RK2) [.ref lg, .int v1] [(lg, .inr (0, [.ref lgA, .ref lgT, .ref lgC, .int lgS])), (lgA, .inl (cK 0, 400, .inl lgAf)), (lgT, .inl (cK 0, 400, .inl lgTf))] r := by
  refine mk_RdI (cc := b_Lg_heldUntil) (maxL := 3) (ty := .int) (by decide +kernel) rfl (Nat.le_of_ble_eq_true rfl) ?_
  intro p e s m below meth c args Q ls hx hb hml hown hts hK hP hret hl
  have hl : lv_has ls 3 [(0, .ref lg), (1, .int v1)] := hl
  have J_14 : ∀ (v1 : Int32) (n_14 : Nat)  (v2 : Int32) (ls : Array Slot), f_Lg_heldUntil_14 N lgS lgAf lgTf v1 n_14 v2 = some r → lv_has ls 3 [(0, .ref lg), (1, .int v1), (2, .int v2)] → W p l e rm_Lg_heldUntil s m args below meth c s.heap [] 0 0 Q (F0 m 14 ls []) := by
    intro v1 n_14
    induction n_14 with
    | zero =>
      intro v2 ls hf hl
      exact fn_0 hf
    | succ n_14 ih_14 =>
      intro v2 ls hf hl
      rw [f_Lg_heldUntil_14.eq_2] at hf
      refine lv_iload_n hx hb d_Lg_heldUntil_14 rfl (lv_at hl 2 rfl) ?_
      refine lv_aload_n hx hb d_Lg_heldUntil_15 rfl (lv_at hl 0 rfl) ?_
      refine va_get (D := D) (ci := 0) (v := .int lgS) (C := RK0) (T := TK0) (N := 4) hx hb hts iwK0 hown hK hP 0 rfl rfl 3 (by decide) (hts _ fl_Lg_22) (fun _ h9 => h9) rfl d_Lg_heldUntil_16 ?_
      refine lv_icmp_ge (tgt := 50) hx hb d_Lg_heldUntil_19 (by decide) (fun hc => ?_) (fun hc => ?_)
      · have hf := fn_t hc hf
        refine lv_bipush (v := 62) hx hb d_Lg_heldUntil_50 (by decide) ?_
        cases hf
        exact hret 52 _ rfl d_Lg_heldUntil_52
      · have hf := fn_f hc hf
        refine lv_aload_n hx hb d_Lg_heldUntil_22 rfl (lv_at hl 0 rfl) ?_
        refine va_get (D := D) (ci := 0) (v := .ref lgT) (C := RK0) (T := TK0) (N := 4) hx hb hts iwK0 hown hK hP 0 rfl rfl 1 (by decide) (hts _ fl_Lg_15) (fun _ h9 => h9) rfl d_Lg_heldUntil_23 ?_
        refine lv_iload_n hx hb d_Lg_heldUntil_26 rfl (lv_at hl 2 rfl) ?_
        have hg := fn_g hf
        have hf := fn_t hg hf
        refine va_iald hx hb hK hP 2 0 rfl rfl (fn_v hg) d_Lg_heldUntil_27 ?_
        refine lv_aload_n hx hb d_Lg_heldUntil_28 rfl (lv_at hl 0 rfl) ?_
        refine va_get (D := D) (ci := 0) (v := .ref lgT) (C := RK0) (T := TK0) (N := 4) hx hb hts iwK0 hown hK hP 0 rfl rfl 1 (by decide) (hts _ fl_Lg_15) (fun _ h9 => h9) rfl d_Lg_heldUntil_29 ?_
        refine lv_iload_n hx hb d_Lg_heldUntil_32 rfl (lv_at hl 1 rfl) ?_
        have hg := fn_g hf
        have hf := fn_t hg hf
        refine va_iald hx hb hK hP 2 0 rfl rfl (fn_v hg) d_Lg_heldUntil_33 ?_
        refine lv_icmp_ne (tgt := 44) hx hb d_Lg_heldUntil_34 (by decide) (fun hc => ?_) (fun hc => ?_)
        · have hf := fn_f hc hf
          refine lv_iinc (v := (v2 + 1)) (lv' := [(2, .int (v2 + 1)), (0, .ref lg), (1, .int v1)]) hx hb d_Lg_heldUntil_44 hl (k := 2) rfl rfl (by decide) rfl (fun ls hl => ?_)
          refine lv_goto (tgt := 14) hx hb d_Lg_heldUntil_47 (by decide) ?_
          exact ih_14 _ _ hf (lv_sub hl [1, 2, 0] rfl)
        · have hf := fn_t hc hf
          refine lv_aload_n hx hb d_Lg_heldUntil_37 rfl (lv_at hl 0 rfl) ?_
          refine va_get (D := D) (ci := 0) (v := .ref lgA) (C := RK0) (T := TK0) (N := 4) hx hb hts iwK0 hown hK hP 0 rfl rfl 0 (by decide) (hts _ fl_Lg_9) (fun _ h9 => h9) rfl d_Lg_heldUntil_38 ?_
          refine lv_iload_n hx hb d_Lg_heldUntil_41 rfl (lv_at hl 2 rfl) ?_
          have hg := fn_g hf
          have hf := fn_t hg hf
          refine va_iald hx hb hK hP 1 0 rfl rfl (fn_v hg) d_Lg_heldUntil_42 ?_
          cases hf
          exact hret 43 _ rfl d_Lg_heldUntil_43
  unfold f_Lg_heldUntil at hf
  refine lv_aload_n hx hb d_Lg_heldUntil_0 rfl (lv_at hl 0 rfl) ?_
  refine lv_iload_n hx hb d_Lg_heldUntil_1 rfl (lv_at hl 1 rfl) ?_
  obtain ⟨r_2, hcl, hf⟩ := fn_e1 hf
  refine cv_RdI (rest := []) ⟨hx, hb, hml, hown, hts⟩ (c_Lg_isPlace l D cK lg lgA lgT lgC lgS v1 r_2 hcl) (cwV 1 hts (zz_V ml_Lg_30 im_Lg_isPlace se_Lg_isPlace in_Lg co_Lg_isPlace) rfl rfl rfl ⟨rfl, hd_Lg_isPlace⟩ ⟨Nat.le_of_ble_eq_true rfl, Nat.le_of_ble_eq_true rfl⟩) hK hP [0] rfl 0 rfl rfl rfl rfl hl.1 rfl (Nat.le_of_ble_eq_true rfl) d_Lg_heldUntil_2 ⟨Nat.zero_le _, Nat.zero_le _⟩ ?_
  refine lv_if_ne (tgt := 10) hx hb d_Lg_heldUntil_5 (by decide) (fun hc => ?_) (fun hc => ?_)
  · have hf := fn_f hc hf
    refine lv_iload_n hx hb d_Lg_heldUntil_10 rfl (lv_at hl 1 rfl) ?_
    refine lv_iconst (v := 1) hx hb d_Lg_heldUntil_11 (by decide) ?_
    refine lv_iadd hx hb d_Lg_heldUntil_12 ?_
    refine lv_istore_n (lv' := [(2, .int (v1 + 1)), (0, .ref lg), (1, .int v1)]) hx hb d_Lg_heldUntil_13 rfl hl (by decide) rfl (fun ls hl => ?_)
    exact J_14 _ _ _ _ hf (lv_sub hl [1, 2, 0] rfl)
  · have hf := fn_t hc hf
    refine lv_iconst (v := 0) hx hb d_Lg_heldUntil_8 (by decide) ?_
    cases hf
    exact hret 9 _ rfl d_Lg_heldUntil_9
abbrev rm_Lg_comesAt : Room := { frames := 1, cells := 0, slots := 0, locals := 21 }
set_option maxHeartbeats 4000000 in
set_option maxRecDepth 100000 in
theorem c_Lg_comesAt (l : Launch) (D : va_G) (cK : Nat → ClassId) (lg lgA lgT lgC : Nat) (lgS : Int32) (lgCf : Nat → Int32) (v1 : Int32) (r : Int32) (hf : f_Lg_comesAt lgS lgCf v1 = some r) : RdI l y_Lg_comesAt w_Lg_comesAt rm_Lg_comesAt D zz_cl (mt_ty cK RK2) [.ref lg, .int v1] [(lg, .inr (0, [.ref lgA, .ref lgT, .ref lgC, .int lgS])), (lgC, .inl (cK 1, 400, .inl lgCf))] r := by
  refine mk_RdI (cc := b_Lg_comesAt) (maxL := 2) (ty := .boolean) (by decide +kernel) rfl (Nat.le_of_ble_eq_true rfl) ?_
  intro p e s m below meth c args Q ls hx hb hml hown hts hK hP hret hl
  have hl : lv_has ls 2 [(0, .ref lg), (1, .int v1)] := hl
  unfold f_Lg_comesAt at hf
  refine lv_aload_n hx hb d_Lg_comesAt_0 rfl (lv_at hl 0 rfl) ?_
  refine lv_iload_n hx hb d_Lg_comesAt_1 rfl (lv_at hl 1 rfl) ?_
  obtain ⟨r_2, hcl, hf⟩ := fn_e1 hf
  refine cv_RdI (rest := []) ⟨hx, hb, hml, hown, hts⟩ (c_Lg_isPlace l D cK lg lgA lgT lgC lgS v1 r_2 hcl) (cwV 1 hts (zz_V ml_Lg_30 im_Lg_isPlace se_Lg_isPlace in_Lg co_Lg_isPlace) rfl rfl rfl ⟨rfl, hd_Lg_isPlace⟩ ⟨Nat.le_of_ble_eq_true rfl, Nat.le_of_ble_eq_true rfl⟩) hK hP [0] rfl 0 rfl rfl rfl rfl hl.1 rfl (Nat.le_of_ble_eq_true rfl) d_Lg_comesAt_2 ⟨Nat.zero_le _, Nat.zero_le _⟩ ?_
  refine lv_if_eq (tgt := 21) hx hb d_Lg_comesAt_5 (by decide) (fun hc => ?_) (fun hc => ?_)
  · have hf := fn_t hc hf
    refine lv_iconst (v := 0) hx hb d_Lg_comesAt_21 (by decide) ?_
    cases hf
    exact hret 22 _ rfl d_Lg_comesAt_22
  · have hf := fn_f hc hf
    refine lv_aload_n hx hb d_Lg_comesAt_8 rfl (lv_at hl 0 rfl) ?_
    refine va_get (D := D) (ci := 0) (v := .ref lgC) (C := RK0) (T := TK0) (N := 4) hx hb hts iwK0 hown hK hP 0 rfl rfl 2 (by decide) (hts _ fl_Lg_18) (fun _ h9 => h9) rfl d_Lg_comesAt_9 ?_
    refine lv_iload_n hx hb d_Lg_comesAt_12 rfl (lv_at hl 1 rfl) ?_
    have hg := fn_g hf
    have hf := fn_t hg hf
    refine va_zald hx hb hK hP 1 1 rfl rfl (fn_v hg) d_Lg_comesAt_13 ?_
    refine lv_if_eq (tgt := 21) hx hb d_Lg_comesAt_14 (by decide) (fun hc => ?_) (fun hc => ?_)
    · have hf := fn_t hc hf
      refine lv_iconst (v := 0) hx hb d_Lg_comesAt_21 (by decide) ?_
      cases hf
      exact hret 22 _ rfl d_Lg_comesAt_22
    · have hf := fn_f hc hf
      refine lv_iconst (v := 1) hx hb d_Lg_comesAt_17 (by decide) ?_
      refine lv_goto (tgt := 22) hx hb d_Lg_comesAt_18 (by decide) ?_
      cases hf
      exact hret 22 _ rfl d_Lg_comesAt_22
abbrev rm_Lg_numberAt : Room := { frames := 1, cells := 0, slots := 0, locals := 21 }
set_option maxHeartbeats 4000000 in
set_option maxRecDepth 100000 in
theorem c_Lg_numberAt (l : Launch) (D : va_G) (cK : Nat → ClassId) (lg lgA lgT lgC : Nat) (lgS : Int32) (lgAf : Nat → Int32) (v1 : Int32) (r : Int32) (hf : f_Lg_numberAt lgS lgAf v1 = some r) : RdI l y_Lg_numberAt w_Lg_numberAt rm_Lg_numberAt D zz_cl (mt_ty cK RK2) [.ref lg, .int v1] [(lg, .inr (0, [.ref lgA, .ref lgT, .ref lgC, .int lgS])), (lgA, .inl (cK 0, 400, .inl lgAf))] r := by
  refine mk_RdI (cc := b_Lg_numberAt) (maxL := 2) (ty := .int) (by decide +kernel) rfl (Nat.le_of_ble_eq_true rfl) ?_
  intro p e s m below meth c args Q ls hx hb hml hown hts hK hP hret hl
  have hl : lv_has ls 2 [(0, .ref lg), (1, .int v1)] := hl
  unfold f_Lg_numberAt at hf
  refine lv_aload_n hx hb d_Lg_numberAt_0 rfl (lv_at hl 0 rfl) ?_
  refine lv_iload_n hx hb d_Lg_numberAt_1 rfl (lv_at hl 1 rfl) ?_
  obtain ⟨r_2, hcl, hf⟩ := fn_e1 hf
  refine cv_RdI (rest := []) ⟨hx, hb, hml, hown, hts⟩ (c_Lg_isPlace l D cK lg lgA lgT lgC lgS v1 r_2 hcl) (cwV 1 hts (zz_V ml_Lg_30 im_Lg_isPlace se_Lg_isPlace in_Lg co_Lg_isPlace) rfl rfl rfl ⟨rfl, hd_Lg_isPlace⟩ ⟨Nat.le_of_ble_eq_true rfl, Nat.le_of_ble_eq_true rfl⟩) hK hP [0] rfl 0 rfl rfl rfl rfl hl.1 rfl (Nat.le_of_ble_eq_true rfl) d_Lg_numberAt_2 ⟨Nat.zero_le _, Nat.zero_le _⟩ ?_
  refine lv_if_eq (tgt := 17) hx hb d_Lg_numberAt_5 (by decide) (fun hc => ?_) (fun hc => ?_)
  · have hf := fn_t hc hf
    refine lv_iconst (v := 0) hx hb d_Lg_numberAt_17 (by decide) ?_
    cases hf
    exact hret 18 _ rfl d_Lg_numberAt_18
  · have hf := fn_f hc hf
    refine lv_aload_n hx hb d_Lg_numberAt_8 rfl (lv_at hl 0 rfl) ?_
    refine va_get (D := D) (ci := 0) (v := .ref lgA) (C := RK0) (T := TK0) (N := 4) hx hb hts iwK0 hown hK hP 0 rfl rfl 0 (by decide) (hts _ fl_Lg_9) (fun _ h9 => h9) rfl d_Lg_numberAt_9 ?_
    refine lv_iload_n hx hb d_Lg_numberAt_12 rfl (lv_at hl 1 rfl) ?_
    have hg := fn_g hf
    have hf := fn_t hg hf
    refine va_iald hx hb hK hP 1 0 rfl rfl (fn_v hg) d_Lg_numberAt_13 ?_
    refine lv_goto (tgt := 18) hx hb d_Lg_numberAt_14 (by decide) ?_
    cases hf
    exact hret 18 _ rfl d_Lg_numberAt_18
abbrev rm_Lg_shows : Room := { frames := 1, cells := 0, slots := 0, locals := 21 }
set_option maxHeartbeats 4000000 in
set_option maxRecDepth 100000 in
theorem c_Lg_shows (l : Launch) (D : va_G) (cK : Nat → ClassId) (lg lgA lgT lgC : Nat) (lgS : Int32) (lgAf : Nat → Int32) (lgCf : Nat → Int32) (v1 : Int32) (v2 : Int32) (v3 : Int32) (r : Int32) (hf : f_Lg_shows lgS lgAf lgCf v1 v2 v3 = some r) : RdI l y_Lg_shows w_Lg_shows rm_Lg_shows D zz_cl (mt_ty cK RK2) [.ref lg, .int v1, .int v2, .int v3] [(lg, .inr (0, [.ref lgA, .ref lgT, .ref lgC, .int lgS])), (lgA, .inl (cK 0, 400, .inl lgAf)), (lgC, .inl (cK 1, 400, .inl lgCf))] r := by
  refine mk_RdI (cc := b_Lg_shows) (maxL := 4) (ty := .boolean) (by decide +kernel) rfl (Nat.le_of_ble_eq_true rfl) ?_
  intro p e s m below meth c args Q ls hx hb hml hown hts hK hP hret hl
  have hl : lv_has ls 4 [(0, .ref lg), (1, .int v1), (2, .int v2), (3, .int v3)] := hl
  unfold f_Lg_shows at hf
  refine lv_aload_n hx hb d_Lg_shows_0 rfl (lv_at hl 0 rfl) ?_
  refine lv_iload_n hx hb d_Lg_shows_1 rfl (lv_at hl 1 rfl) ?_
  obtain ⟨r_2, hcl, hf⟩ := fn_e1 hf
  refine cv_RdI (rest := []) ⟨hx, hb, hml, hown, hts⟩ (c_Lg_isPlace l D cK lg lgA lgT lgC lgS v1 r_2 hcl) (cwV 1 hts (zz_V ml_Lg_30 im_Lg_isPlace se_Lg_isPlace in_Lg co_Lg_isPlace) rfl rfl rfl ⟨rfl, hd_Lg_isPlace⟩ ⟨Nat.le_of_ble_eq_true rfl, Nat.le_of_ble_eq_true rfl⟩) hK hP [0] rfl 0 rfl rfl rfl rfl hl.1 rfl (Nat.le_of_ble_eq_true rfl) d_Lg_shows_2 ⟨Nat.zero_le _, Nat.zero_le _⟩ ?_
  refine lv_if_eq (tgt := 37) hx hb d_Lg_shows_5 (by decide) (fun hc => ?_) (fun hc => ?_)
  · have hf := fn_t hc hf
    refine lv_iconst (v := 0) hx hb d_Lg_shows_37 (by decide) ?_
    cases hf
    exact hret 38 _ rfl d_Lg_shows_38
  · have hf := fn_f hc hf
    refine lv_aload_n hx hb d_Lg_shows_8 rfl (lv_at hl 0 rfl) ?_
    refine va_get (D := D) (ci := 0) (v := .ref lgC) (C := RK0) (T := TK0) (N := 4) hx hb hts iwK0 hown hK hP 0 rfl rfl 2 (by decide) (hts _ fl_Lg_18) (fun _ h9 => h9) rfl d_Lg_shows_9 ?_
    refine lv_iload_n hx hb d_Lg_shows_12 rfl (lv_at hl 1 rfl) ?_
    have hg := fn_g hf
    have hf := fn_t hg hf
    refine va_zald hx hb hK hP 2 1 rfl rfl (fn_v hg) d_Lg_shows_13 ?_
    refine lv_if_eq (tgt := 37) hx hb d_Lg_shows_14 (by decide) (fun hc => ?_) (fun hc => ?_)
    · have hf := fn_t hc hf
      refine lv_iconst (v := 0) hx hb d_Lg_shows_37 (by decide) ?_
      cases hf
      exact hret 38 _ rfl d_Lg_shows_38
    · have hf := fn_f hc hf
      refine lv_iload_n hx hb d_Lg_shows_17 rfl (lv_at hl 3 rfl) ?_
      refine lv_if_eq (tgt := 33) hx hb d_Lg_shows_18 (by decide) (fun hc => ?_) (fun hc => ?_)
      · have hf := fn_t hc hf
        refine lv_iconst (v := 1) hx hb d_Lg_shows_33 (by decide) ?_
        refine lv_goto (tgt := 38) hx hb d_Lg_shows_34 (by decide) ?_
        cases hf
        exact hret 38 _ rfl d_Lg_shows_38
      · have hf := fn_f hc hf
        refine lv_iload_n hx hb d_Lg_shows_21 rfl (lv_at hl 2 rfl) ?_
        refine lv_aload_n hx hb d_Lg_shows_22 rfl (lv_at hl 0 rfl) ?_
        refine va_get (D := D) (ci := 0) (v := .ref lgA) (C := RK0) (T := TK0) (N := 4) hx hb hts iwK0 hown hK hP 0 rfl rfl 0 (by decide) (hts _ fl_Lg_9) (fun _ h9 => h9) rfl d_Lg_shows_23 ?_
        refine lv_iload_n hx hb d_Lg_shows_26 rfl (lv_at hl 1 rfl) ?_
        have hg := fn_g hf
        have hf := fn_t hg hf
        refine va_iald hx hb hK hP 1 0 rfl rfl (fn_v hg) d_Lg_shows_27 ?_
        refine lv_isub hx hb d_Lg_shows_28 ?_
        refine lv_iload_n hx hb d_Lg_shows_29 rfl (lv_at hl 3 rfl) ?_
        refine lv_icmp_ge (tgt := 37) hx hb d_Lg_shows_30 (by decide) (fun hc => ?_) (fun hc => ?_)
        · have hf := fn_t hc hf
          refine lv_iconst (v := 0) hx hb d_Lg_shows_37 (by decide) ?_
          cases hf
          exact hret 38 _ rfl d_Lg_shows_38
        · have hf := fn_f hc hf
          refine lv_iconst (v := 1) hx hb d_Lg_shows_33 (by decide) ?_
          refine lv_goto (tgt := 38) hx hb d_Lg_shows_34 (by decide) ?_
          cases hf
          exact hret 38 _ rfl d_Lg_shows_38

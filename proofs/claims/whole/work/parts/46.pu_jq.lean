/-! PURE ROWS 27: start, question, window, pattern -/
theorem in_rem (v : Int32) : (v - v / 62 * 62).toInt = v.toInt.tmod 62 := by
  have h1 := Int32.le_toInt v
  have h2 := Int32.toInt_lt v
  have e62 : (62 : Int32).toInt = 62 := by decide
  rw [Int32.toInt_sub, Int32.toInt_mul, Int32.toInt_div, e62]
  have key : v.toInt.tdiv 62 * 62 + v.toInt.tmod 62 = v.toInt := Int.tdiv_mul_add_tmod _ _
  have b : -34636834 ≤ v.toInt.tdiv 62 ∧ v.toInt.tdiv 62 ≤ 34636833 := by
    by_cases h : 0 ≤ v.toInt
    · rw [Int.tdiv_eq_ediv_of_nonneg h]; omega
    · obtain ⟨b, hb⟩ : ∃ b : Int, v.toInt = -b := ⟨-v.toInt, by omega⟩
      rw [hb, Int.neg_tdiv, Int.tdiv_eq_ediv_of_nonneg (by omega)]
      omega
  have c : -62 < v.toInt.tmod 62 ∧ v.toInt.tmod 62 < 62 ∧ (0 ≤ v.toInt → 0 ≤ v.toInt.tmod 62) ∧ (v.toInt < 0 → v.toInt.tmod 62 ≤ 0) := by
    by_cases h : 0 ≤ v.toInt
    · rw [Int.tmod_eq_emod_of_nonneg h]; omega
    · obtain ⟨b, hb⟩ : ∃ b : Int, v.toInt = -b := ⟨-v.toInt, by omega⟩
      rw [hb, Int.neg_tmod, Int.tmod_eq_emod_of_nonneg (by omega)]
      omega
  have s1 : (v.toInt.tdiv 62).bmod (2 ^ 32) = v.toInt.tdiv 62 := Int.bmod_eq_of_le (by omega) (by omega)
  have s2 : (v.toInt.tdiv 62 * 62).bmod (2 ^ 32) = v.toInt.tdiv 62 * 62 := Int.bmod_eq_of_le (by omega) (by omega)
  rw [s1, s2]
  rw [show v.toInt - v.toInt.tdiv 62 * 62 = v.toInt.tmod 62 by omega]
  exact Int.bmod_eq_of_le (by omega) (by omega)
theorem in_sgn (v : Int32) : 0 ≤ (v ^^^ 62) ↔ 0 ≤ v := by
  rw [Int32.le_iff_toInt_le, Int32.le_iff_toInt_le]
  have a : ∀ x : Int32, ((0 : Int32).toInt ≤ x.toInt) ↔ x.toBitVec.msb = false := fun x => by
    have : x.toInt = x.toBitVec.toInt := rfl
    rw [this, BitVec.msb_eq_toInt, show (0 : Int32).toInt = 0 from rfl]
    simp
  rw [a, a, Int32.toBitVec_xor, BitVec.msb_xor, show (62 : Int32).toBitVec.msb = false by decide, Bool.xor_false]
theorem in_pos {x : Int32} (h0 : 0 ≤ x.toInt) : x = nI x.toInt.toNat := by
  have h2 := Int32.toInt_lt x
  apply Int32.toInt_inj.mp
  rw [nI_toInt (by omega)]
  omega
theorem j_num (v : Int32) : ∃ num, 0 < num ∧ num ≤ 62 ∧ f_C_init v = some (nI num) ∧ f_M_init v = some (nI num) := by
  unfold f_C_init f_M_init f_Jm_floorMod
  have hr := in_rem v
  generalize v - v / 62 * 62 = r at hr
  rw [if_pos (by decide)]
  by_cases h : 0 ≤ v
  · have h' : 0 ≤ v.toInt := (Int32.le_iff_toInt_le (x := 0)).mp h
    rw [Int.tmod_eq_emod_of_nonneg h'] at hr
    have hr0 : 0 ≤ r := (Int32.le_iff_toInt_le (x := 0)).mpr (by rw [hr]; show (0 : Int) ≤ _; omega)
    rw [if_pos ((in_sgn v).mpr h), fn_s1, if_pos hr0, in_pos (x := r) (by omega)]
    refine ⟨1 + r.toInt.toNat, by omega, by omega, ?_, ?_⟩ <;> exact congrArg some (nI_add 1 _)
  · have h' : ¬ 0 ≤ v.toInt := fun z => h ((Int32.le_iff_toInt_le (x := 0)).mpr z)
    obtain ⟨b, hb⟩ : ∃ b : Int, v.toInt = -b := ⟨-v.toInt, by omega⟩
    rw [hb, Int.neg_tmod, Int.tmod_eq_emod_of_nonneg (by omega)] at hr
    rw [if_neg (fun z => h ((in_sgn v).mp z))]
    by_cases hz : r = 0
    · subst hz
      rw [if_pos rfl, fn_s1, if_pos (by decide)]
      exact ⟨1, by omega, by omega, rfl, rfl⟩
    · have hz' : ¬ r.toInt = 0 := fun z => hz (Int32.toInt_inj.mp (by rw [z]; rfl))
      have hr0 : ¬ 0 ≤ r := fun z => by
        have := (Int32.le_iff_toInt_le (x := 0)).mp z
        rw [show (0 : Int32).toInt = 0 from rfl] at this
        omega
      rw [if_neg hz, fn_s1, if_neg hr0]
      have e : (r + 62).toInt = r.toInt + 62 := by
        rw [Int32.toInt_add, show (62 : Int32).toInt = 62 by decide]
        exact Int.bmod_eq_of_le (by omega) (by omega)
      rw [in_pos (x := r + 62) (by omega)]
      refine ⟨1 + (r + 62).toInt.toNat, by omega, by omega, ?_, ?_⟩ <;> exact congrArg some (nI_add 1 _)
theorem j_init {N : Nat} (hN : 5000 ≤ N) (v : Int32) : ∃ r, f_C_init v = some r ∧ f_M_init v = some r ∧ JX N r 0 0 (fun _ => none) 0 (fun _ => 0) (fun _ => 0) (fun _ => 0) [] r 0 0 0 (fun _ => 0) (fun _ => 0) (fun _ => 0) (fun _ => 0) (fun _ => 0) (fun _ => 0) (fun _ => 0) (fun _ => 0) := by
  obtain ⟨num, h1, h2, e1, e2⟩ := j_num v
  have rep : lr_rep [] 0 (fun _ => 0) (fun _ => 0) (fun _ => 0) := ⟨rfl, fun j x h => by cases h⟩
  have ok : lr_ok [] := ⟨Nat.zero_le _, fun x h => by cases h⟩
  refine ⟨_, e1, e2, num, 0, [], [], [], ⟨rfl, rfl, rfl, rfl, h1, h2⟩, ⟨rep, ok, fun i j x y h => by cases h⟩, ⟨rfl, rfl⟩, ⟨rfl, Nat.zero_le _, rfl, fun q x h => by cases h⟩, ⟨hN, rep, ok, rfl, Nat.zero_le _, fun q x h => by cases h⟩, fun q x n h => by cases h⟩
theorem wi_cases (v : Int32) : (f_C_isWindow v = some 0 ∧ (v < 0 ∨ ¬ v < 0 ∧ ¬ v ≤ 62)) ∨ ∃ w, w ≤ 62 ∧ v = nI w ∧ f_C_isWindow v = some 1 ∧ ¬ v < 0 ∧ v ≤ 62 := by
  unfold f_C_isWindow
  by_cases h : v < 0
  · left; rw [if_pos h]; exact ⟨rfl, Or.inl h⟩
  · obtain ⟨w, hw, rfl⟩ := nI_of h
    rw [if_neg h]
    by_cases hl : w ≤ 62
    · right
      rw [if_neg (show ¬ (62 : Int32) < nI w from nI_nlt (a := 62) hl (by decide))]
      exact ⟨w, hl, rfl, rfl, h, show nI w ≤ (62 : Int32) from nI_le (b := 62) hl (by decide)⟩
    · left
      rw [if_pos (show (62 : Int32) < nI w from nI_lt (a := 62) (by omega) hw)]
      exact ⟨rfl, Or.inr ⟨h, show ¬ nI w ≤ (62 : Int32) from nI_ge (a := 62) (by omega) hw⟩⟩
theorem j_question {N : Nat} {crN crL crQ : Int32} {qsf : Nat → Option Nat} {lgS : Int32} {lgA lgT lgC : Nat → Int32} {PL : List mt_Q} {mdN mdL mdS mdQ : Int32} {Wh Tr Co Wi Pc It : Nat → Int32} {Ro : Nat → Int64} {Kn : Nat → Int32} (h : JX N crN crL crQ qsf lgS lgA lgT lgC PL mdN mdL mdS mdQ Wh Tr Co Wi Pc It Ro Kn) (v : Int32) :
    (∃ r, f_C_question crQ v = some r ∧ f_M_question N mdQ Wi Pc Kn v = some (r, mdQ, Wi, Pc, Kn)) ∨
    ∃ r crQ' mdQ' Wi' Pc' Kn', f_C_questionn crQ v = some (r, crQ') ∧ f_M_question N mdQ Wi Pc Kn v = some (r, mdQ', Wi', Pc', Kn') ∧ ∀ u : Nat × Nat × Nat, JX N crN crL crQ' (va_up qsf (Int32.toNatClampNeg crQ) (some u.1)) lgS lgA lgT lgC (PL ++ [(u, (v, 0, 0), fun _ => 0, fun _ => 0)]) mdN mdL mdS mdQ' Wh Tr Co Wi' Pc' It Ro Kn' := by
  obtain ⟨num, L, l, ml, qs, hnum, hl, hlk, hqs, hM, hca⟩ := h
  have hN := hM.hN
  have h12 := hqs.2.1
  unfold f_C_question f_C_questionn f_M_question
  rcases wi_cases v with ⟨e1, e2⟩ | ⟨w, hw, rfl, e1, e2, e3⟩
  · left
    rw [e1, fn_s1, if_pos rfl]
    rcases e2 with e2 | ⟨e2, e3⟩
    · rw [if_pos e2]; exact ⟨_, rfl, rfl⟩
    · rw [if_neg e2, if_neg e3]; exact ⟨_, rfl, rfl⟩
  · have hq1 := hqs.1
    have hm1 := hM.qr.1
    rw [e1, fn_s1, fn_s1, if_neg (show ¬ (1 : Int32) = 0 by decide), if_neg (show ¬ (1 : Int32) = 0 by decide), if_neg e2, if_pos e3]
    by_cases hl12 : qs.length < 12
    · right
      have c1 : crQ < 12 := by rw [hq1]; exact nI_lt (b := 12) hl12 (by decide)
      have c2 : ¬ mdQ = 12 := by rw [hm1, show (12 : Int32) = nI 12 from rfl, nI_eq (by omega) (by decide)]; omega
      have c3 : fn_in crQ 12 = true := by rw [hq1]; exact pu_in hl12 (by decide)
      have c4 : fn_in mdQ 12 = true := by rw [hm1]; exact pu_in hl12 (by decide)
      rw [if_pos c1, if_neg c2, if_pos c3, if_pos c4, if_pos c4, hq1, hm1, pu_cl (by omega), nI_1, nI_pred]
      obtain ⟨Kn', e4, k1, k2⟩ := fg_all (N := N) (q := qs.length) (n := 0) hN hl12 (by decide) Kn
      rw [show (0 : Int32) = nI 0 from rfl, e4, fn_s1]
      refine ⟨_, _, _, _, _, _, rfl, rfl, fun u => ⟨num, L, l, ml, qs ++ [(w, [])], hnum, hl, hlk, ⟨by rw [List.length_append]; rfl, by rw [List.length_append]; simp; omega, by rw [List.length_append, List.length_append, hqs.2.2.1]; rfl, fun q x hx => ?_⟩, ⟨hN, hM.rep, hM.ok, by rw [List.length_append]; rfl, by rw [List.length_append]; simp; omega, fun q x hx => ?_⟩, fun q x n hx hn hk => ?_⟩⟩
      · by_cases hq : q < qs.length
        · rw [List.getElem?_append_left hq] at hx
          obtain ⟨u', a1, a2, a3⟩ := hqs.2.2.2 q x hx
          refine ⟨u', ?_, ?_, a3⟩
          · rw [List.getElem?_append_left (by rw [hqs.2.2.1]; exact hq)]; exact a1
          · unfold va_up; rw [if_neg (by omega)]; exact a2
        · have hq2 := (List.getElem?_eq_some_iff.mp hx).1
          rw [List.length_append] at hq2
          have hq3 : q = qs.length := by simp at hq2; omega
          subst hq3
          rw [List.getElem?_append_right (Nat.le_refl _), Nat.sub_self] at hx
          cases hx
          refine ⟨(u, (nI w, 0, 0), fun _ => 0, fun _ => 0), ?_, ?_, ⟨rfl, hw, ⟨rfl, (show (0 : Int32) = nI (bm (it_sd []) 4) by decide), fun k x hk => by cases hk⟩, Nat.zero_le _, fun x hx => by cases hx⟩⟩
          · rw [List.getElem?_append_right (by rw [hqs.2.2.1]; exact Nat.le_refl _), hqs.2.2.1, Nat.sub_self]; rfl
          · unfold va_up; rw [if_pos rfl]
      · by_cases hq : q < qs.length
        · rw [List.getElem?_append_left hq] at hx
          obtain ⟨a1, a2, a3, a4⟩ := hM.qr.2.2 q x hx
          exact ⟨by rw [pk_un (by omega)]; exact a1, a2, ⟨by rw [pk_un (by omega)]; exact a3.1, a3.2⟩, a4⟩
        · have hq2 := (List.getElem?_eq_some_iff.mp hx).1
          rw [List.length_append] at hq2
          have hq3 : q = qs.length := by simp at hq2; omega
          subst hq3
          rw [List.getElem?_append_right (Nat.le_refl _), Nat.sub_self] at hx
          cases hx
          exact ⟨pk_us, hw, ⟨pk_us, fun k x hk => by cases hk⟩, Nat.zero_le _, fun x hx => by cases hx⟩
      · by_cases hq : q < qs.length
        · rw [List.getElem?_append_left hq] at hx
          rw [k2 _ (by omega)] at hk
          exact hca q x n hx hn hk
        · have hq2 := (List.getElem?_eq_some_iff.mp hx).1
          rw [List.length_append] at hq2
          have hq3 : q = qs.length := by simp at hq2; omega
          subst hq3
          exact absurd (k1 n (by omega) hn) hk
    · left
      have c1 : ¬ crQ < 12 := by rw [hq1]; exact nI_nlt (b := 12) (by omega) (by omega)
      have c2 : mdQ = 12 := by rw [hm1, show (12 : Int32) = nI 12 from rfl, nI_eq (by omega) (by decide)]; omega
      rw [if_neg c1, if_pos c2]
      exact ⟨_, rfl, rfl⟩
theorem set_self {α : Type} {l : List α} {i : Nat} {x : α} (h : l[i]? = some x) : l.set i x = l := by
  apply List.ext_getElem?
  intro j
  rw [List.getElem?_set]
  have := (List.getElem?_eq_some_iff.mp h).1
  by_cases e : i = j
  · subst e; rw [if_pos rfl, if_pos this, h]
  · rw [if_neg e]
theorem set_at {α : Type} {l : List α} {i j : Nat} {x y : α} (h : (l.set i x)[j]? = some y) : (j = i ∧ y = x ∧ i < l.length) ∨ (¬ j = i ∧ l[j]? = some y) := by
  rw [List.getElem?_set] at h
  by_cases e : i = j
  · subst e
    rw [if_pos rfl] at h
    by_cases hl : i < l.length
    · rw [if_pos hl] at h; cases h; exact Or.inl ⟨rfl, rfl, hl⟩
    · rw [if_neg hl] at h; cases h
  · rw [if_neg e] at h
    exact Or.inr ⟨fun z => e z.symm, h⟩
theorem qsr_set {qs : List mQ} {Q : Int32} {qsf : Nat → Option Nat} {PL : List mt_Q} {q : Nat} {x x' : mQ} {u u' : mt_Q} (h : qsr qs Q qsf PL) (hx : qs[q]? = some x) (hu : PL[q]? = some u) (h1 : u'.1 = u.1) (hr : qc_rep x'.1 x'.2 u'.2.1.1 u'.2.1.2.1 u'.2.1.2.2 u'.2.2.1 u'.2.2.2) : qsr (qs.set q x') Q qsf (PL.set q u') := by
  obtain ⟨a1, a2, a3, a4⟩ := h
  refine ⟨by rw [List.length_set]; exact a1, by rw [List.length_set]; exact a2, by rw [List.length_set, List.length_set]; exact a3, fun j y hy => ?_⟩
  have hlq := (List.getElem?_eq_some_iff.mp hu).1
  rcases set_at hy with ⟨e1, e2, e3⟩ | ⟨e1, e2⟩
  · subst e1 e2
    obtain ⟨u2, b1, b2, _⟩ := a4 j x hx
    rw [hu] at b1
    cases b1
    exact ⟨u', by rw [List.getElem?_set, if_pos rfl, if_pos hlq], by rw [h1]; exact b2, hr⟩
  · obtain ⟨u2, b1, b2, b3⟩ := a4 j y e2
    exact ⟨u2, by rw [List.getElem?_set, if_neg (fun z => e1 z.symm)]; exact b1, b2, b3⟩
theorem j_window {N : Nat} {crN crL crQ : Int32} {qsf : Nat → Option Nat} {lgS : Int32} {lgA lgT lgC : Nat → Int32} {PL : List mt_Q} {mdN mdL mdS mdQ : Int32} {Wh Tr Co Wi Pc It : Nat → Int32} {Ro : Nat → Int64} {Kn : Nat → Int32} (h : JX N crN crL crQ qsf lgS lgA lgT lgC PL mdN mdL mdS mdQ Wh Tr Co Wi Pc It Ro Kn) (v1 v2 : Int32) :
    (f_C_window crQ qsf v1 v2 = some (-1) ∧ f_M_window N mdQ Wi Kn v1 v2 = some (-1, Wi, Kn)) ∨
    ∃ q u r W' Wi' Kn', PL[q]? = some u ∧ f_C_windowq u.1.1 crQ qsf u.2.1.1 v1 v2 = some (r, W') ∧ f_M_window N mdQ Wi Kn v1 v2 = some (r, Wi', Kn') ∧ JX N crN crL crQ qsf lgS lgA lgT lgC (PL.set q (u.1, (W', u.2.1.2.1, u.2.1.2.2), u.2.2)) mdN mdL mdS mdQ Wh Tr Co Wi' Pc It Ro Kn' := by
  have h0 := h
  obtain ⟨num, L, l, ml, qs, hnum, hl, hlk, hqs, hM, hca⟩ := h
  have hN := hM.hN
  unfold f_C_window f_C_windowq f_M_window
  rcases fi_cases hqs hM.qr.1 v1 with ⟨e1, e2⟩ | ⟨q, x, u, rfl, hq, hx, hu, hr, e1, e2⟩
  · left
    rw [e1, e2]
    exact ⟨rfl, rfl⟩
  · right
    obtain ⟨b1, b2, b3, b4⟩ := hM.qr.2.2 q x hx
    rw [e2, fn_s1, if_neg (by decide)]
    rcases wi_cases v2 with ⟨g1, g2⟩ | ⟨w, hw, rfl, g1, g2, g3⟩
    · refine ⟨q, u, -1, u.2.1.1, Wi, Kn, hu, ?_, ?_, ?_⟩
      · rw [e1, fn_s1, fn_o, if_pos rfl, g1]; rfl
      · rcases g2 with g2 | ⟨g2, g3⟩
        · rw [if_pos g2]
        · rw [if_neg g2, if_neg g3]
      · have : PL.set q (u.1, (u.2.1.1, u.2.1.2.1, u.2.1.2.2), u.2.2) = PL := set_self hu
        rw [this]; exact h0
    · rw [if_neg g2, if_pos g3, if_pos (pu_in hq (by decide)), if_pos (pu_in hq (by decide)), pu_cl (by omega)]
      obtain ⟨Kn', e4, k1, k2⟩ := fg_all (N := N) (q := q) (n := 0) hN hq (by decide) Kn
      rw [show (0 : Int32) = nI 0 from rfl, e4, fn_s1, b1]
      refine ⟨q, u, nI x.1, nI w, upd Wi q (nI w), Kn', hu, ?_, rfl, num, L, l, ml, qs.set q (w, x.2), hnum, hl, hlk, qsr_set hqs hx hu rfl ⟨rfl, hw, hr.2.2⟩, ⟨hN, hM.rep, hM.ok, by rw [List.length_set]; exact hM.qr.1, by rw [List.length_set]; exact hM.qr.2.1, fun j y hy => ?_⟩, fun j y n hy hn hk => ?_⟩
      · rw [e1, fn_s1, fn_o, if_pos rfl, g1, fn_s1, if_neg (by decide), hr.1]
      · rcases set_at hy with ⟨c1, c2, c3⟩ | ⟨c1, c2⟩
        · subst c1 c2
          exact ⟨pk_us, hw, b3, b4⟩
        · obtain ⟨d1, d2, d3, d4⟩ := hM.qr.2.2 j y c2
          exact ⟨by rw [pk_un c1]; exact d1, d2, d3, d4⟩
      · rcases set_at hy with ⟨c1, c2, c3⟩ | ⟨c1, c2⟩
        · subst c1 c2
          exact absurd (k1 n (by omega) hn) hk
        · rw [k2 _ (by omega)] at hk
          exact hca j y n c2 hn hk
theorem im_cases (v : Int32) {M : Int32} {m : Nat} (hM : M.toInt = (m : Int)) (hm : m ≤ 16) : f_C_isItem v M = some 0 ∨ ∃ c, c < 20 ∧ (c < m ∨ 16 ≤ c) ∧ v = it_I c ∧ f_C_isItem v M = some 1 := by
  unfold f_C_isItem
  by_cases h1 : v < (-4)
  · left; rw [if_pos h1]
  · rw [if_neg h1]
    by_cases h2 : M ≤ v
    · left; rw [if_pos h2]
    · right
      obtain ⟨c, c1, c2, c3⟩ := it_of hM hm h1 h2
      rw [if_neg h2]
      exact ⟨c, c1, c2, c3, rfl⟩
theorem j_pattern {N : Nat} {crN crL crQ : Int32} {qsf : Nat → Option Nat} {lgS : Int32} {lgA lgT lgC : Nat → Int32} {PL : List mt_Q} {mdN mdL mdS mdQ : Int32} {Wh Tr Co Wi Pc It : Nat → Int32} {Ro : Nat → Int64} {Kn : Nat → Int32} (h : JX N crN crL crQ qsf lgS lgA lgT lgC PL mdN mdL mdS mdQ Wh Tr Co Wi Pc It Ro Kn) (v1 v2 v3 v4 : Int32) :
    (f_C_pattern crQ qsf v1 v2 v3 v4 = some (-1) ∧ f_M_pattern N mdQ Pc It Kn v1 v2 v3 v4 = some (-1, Pc, It, Kn)) ∨
    ∃ q u r P' V' I' L' Pc' It' Kn', PL[q]? = some u ∧ f_C_patternq u.1.1 crQ qsf u.2.1.2.1 u.2.1.2.2 u.2.2.1 u.2.2.2 v1 v2 v3 v4 = some (r, P', V', I', L') ∧ f_M_pattern N mdQ Pc It Kn v1 v2 v3 v4 = some (r, Pc', It', Kn') ∧ JX N crN crL crQ qsf lgS lgA lgT lgC (PL.set q (u.1, (u.2.1.1, P', V'), I', L')) mdN mdL mdS mdQ Wh Tr Co Wi Pc' It' Ro Kn' := by
  have h0 := h
  obtain ⟨num, L, l, ml, qs, hnum, hl, hlk, hqs, hM, hca⟩ := h
  have hN := hM.hN
  have ci : ∀ a b, f_M_isItem a b = f_C_isItem a b := fun a b => rfl
  unfold f_C_pattern f_C_patternq f_M_pattern
  rcases fi_cases hqs hM.qr.1 v1 with ⟨e1, e2⟩ | ⟨q, x, u, rfl, hq, hx, hu, hr, e1, e2⟩
  · left
    rw [e1, e2]
    exact ⟨rfl, rfl⟩
  · right
    have hself : PL.set q (u.1, (u.2.1.1, u.2.1.2.1, u.2.1.2.2), u.2.2.1, u.2.2.2) = PL := set_self hu
    obtain ⟨b1, b2, b3, b4⟩ := hM.qr.2.2 q x hx
    obtain ⟨r1, r2, r3, r4⟩ := hr
    have h3 := r4.1
    rw [e2, fn_s1, if_neg (by decide), ci, ci, ci]
    rcases im_cases v2 (M := 16) (m := 16) (by decide) (by decide) with g1 | ⟨a, a1, a2, rfl, g1⟩
    · rw [g1, fn_s1, if_pos rfl]
      refine ⟨q, u, -1, u.2.1.2.1, u.2.1.2.2, u.2.2.1, u.2.2.2, Pc, It, Kn, hu, ?_, rfl, ?_⟩
      · rw [e1, fn_s1, fn_o, if_pos rfl, fn_s1, if_pos rfl]
      · rw [hself]; exact h0
    rcases im_cases v3 (M := 8) (m := 8) (by decide) (by decide) with g2 | ⟨b, a3, a4, rfl, g2⟩
    · rw [g1, fn_s1, if_neg (by decide), g2, fn_s1, if_pos rfl]
      refine ⟨q, u, -1, u.2.1.2.1, u.2.1.2.2, u.2.2.1, u.2.2.2, Pc, It, Kn, hu, ?_, rfl, ?_⟩
      · rw [e1, fn_s1, fn_o, if_pos rfl, fn_s1, if_neg (by decide), fn_s1, if_pos rfl]
      · rw [hself]; exact h0
    rcases im_cases v4 (M := 16) (m := 16) (by decide) (by decide) with g3 | ⟨c, a5, a6, rfl, g3⟩
    · rw [g1, fn_s1, if_neg (by decide), g2, fn_s1, if_neg (by decide), g3, fn_s1, if_pos rfl]
      refine ⟨q, u, -1, u.2.1.2.1, u.2.1.2.2, u.2.2.1, u.2.2.2, Pc, It, Kn, hu, ?_, rfl, ?_⟩
      · rw [e1, fn_s1, fn_o, if_pos rfl, fn_s1, if_neg (by decide), fn_s1, if_neg (by decide), fn_s1, if_pos rfl]
      · rw [hself]; exact h0
    rw [g1, fn_s1, if_neg (by decide), g2, fn_s1, if_neg (by decide), g3, fn_s1, if_neg (by decide), if_pos (pu_in hq (by decide)), pu_cl (by omega), b3.1]
    by_cases hl3 : x.2.length < 3
    · obtain ⟨V', I', L', ea, qa⟩ := qu_add (a := a) (b := b) (c := c) r3 r4 ⟨a1, by rcases a4 with z | z; exact Or.inl z; exact Or.inr ⟨z, a3⟩, a5⟩ hl3
      have e9 : (9 : Int32) * nI q + 3 * nI x.2.length = nI (9 * q + 3 * x.2.length) := by rw [show (9 : Int32) = nI 9 from rfl, show (3 : Int32) = nI 3 from rfl, pk_mul, pk_mul, nI_add]
      have e91 : nI (9 * q + 3 * x.2.length) + 1 = nI (9 * q + 3 * x.2.length + 1) := nI_1 _
      have e92 : nI (9 * q + 3 * x.2.length) + 2 = nI (9 * q + 3 * x.2.length + 2) := by rw [show (2 : Int32) = nI 2 from rfl, nI_add]
      obtain ⟨Kn', e4, k1, k2⟩ := fg_all (N := N) (q := q) (n := 0) hN hq (by decide) Kn
      rw [if_neg (by rw [show (3 : Int32) = nI 3 from rfl, nI_eq (by omega) (by decide)]; omega), if_pos (pu_in hq (by decide)), e9, e91, e92, if_pos (pu_in (by omega) (by decide)), if_pos (pu_in (by omega) (by decide)), if_pos (pu_in (by omega) (by decide)), if_pos (pu_in hq (by decide)), if_pos (pu_in hq (by decide)), show (0 : Int32) = nI 0 from rfl, e4, fn_s1, if_pos (pu_in hq (by decide)), pk_us, pu_cl (by omega), pu_cl (by omega), pu_cl (by omega), nI_1]
      refine ⟨q, u, _, nI (x.2.length + 1), V', I', L', _, _, _, hu, ?_, rfl, num, L, l, ml, qs.set q (x.1, x.2 ++ [(a, b, c)]), hnum, hl, hlk, qsr_set (x' := (x.1, x.2 ++ [(a, b, c)])) hqs hx hu rfl ⟨r1, r2, qa, ?_⟩, ⟨hN, hM.rep, hM.ok, by rw [List.length_set]; exact hM.qr.1, by rw [List.length_set]; exact hM.qr.2.1, fun j y hy => ?_⟩, fun j y n hy hn hk => ?_⟩
      · rw [e1, fn_s1, fn_o, if_pos rfl, fn_s1, if_neg (by decide), fn_s1, if_neg (by decide), fn_s1, if_neg (by decide), ea, fn_s5, if_neg (by decide)]
      · refine ⟨by rw [List.length_append]; simp; omega, fun y hy => ?_⟩
        rcases List.mem_append.mp hy with z | z
        · exact r4.2 y z
        · rw [List.mem_singleton.mp z]
          exact ⟨a1, by rcases a4 with z | z; exact Or.inl z; exact Or.inr ⟨z, a3⟩, a5⟩
      · rcases set_at hy with ⟨c1, c2, c3⟩ | ⟨c1, c2⟩
        · subst c1 c2
          refine ⟨b1, b2, ⟨by rw [pk_us, List.length_append]; rfl, fun k y hk => ?_⟩, by rw [List.length_append]; simp; omega, fun y hy => ?_⟩
          · by_cases hkl : k < x.2.length
            · rw [List.getElem?_append_left hkl] at hk
              obtain ⟨i1, i2, i3⟩ := b3.2 k y hk
              refine ⟨?_, ?_, ?_⟩
              · rw [pk_un (by omega), pk_un (by omega), pk_un (by omega)]; exact i1
              · rw [pk_un (by omega), pk_un (by omega), pk_un (by omega)]; exact i2
              · rw [pk_un (by omega), pk_un (by omega), pk_un (by omega)]; exact i3
            · have hk2 := (List.getElem?_eq_some_iff.mp hk).1
              rw [List.length_append] at hk2
              have hk3 : k = x.2.length := by simp at hk2; omega
              subst hk3
              rw [List.getElem?_append_right (Nat.le_refl _), Nat.sub_self] at hk
              cases hk
              refine ⟨?_, ?_, ?_⟩
              · rw [pk_un (by omega), pk_un (by omega), pk_us]
              · rw [pk_un (by omega), pk_us]
              · rw [pk_us]
          · rcases List.mem_append.mp hy with z | z
            · exact b4.2 y z
            · rw [List.mem_singleton.mp z]
              exact ⟨a1, by rcases a4 with z | z; exact Or.inl z; exact Or.inr ⟨z, a3⟩, a5⟩
        · obtain ⟨d1, d2, d3, d4⟩ := hM.qr.2.2 j y c2
          refine ⟨d1, d2, ⟨by rw [pk_un c1]; exact d3.1, fun k y' hk => ?_⟩, d4⟩
          have := (List.getElem?_eq_some_iff.mp hk).1
          have := d4.1
          obtain ⟨i1, i2, i3⟩ := d3.2 k y' hk
          refine ⟨?_, ?_, ?_⟩
          · rw [pk_un (by omega), pk_un (by omega), pk_un (by omega)]; exact i1
          · rw [pk_un (by omega), pk_un (by omega), pk_un (by omega)]; exact i2
          · rw [pk_un (by omega), pk_un (by omega), pk_un (by omega)]; exact i3
      · rcases set_at hy with ⟨c1, c2, c3⟩ | ⟨c1, c2⟩
        · subst c1 c2
          exact absurd (k1 n (by omega) hn) hk
        · rw [k2 _ (by omega)] at hk
          exact hca j y n c2 hn hk
    · have e3 : nI x.2.length = 3 := by rw [show (3 : Int32) = nI 3 from rfl, nI_eq (by omega) (by decide)]; omega
      rw [if_pos e3]
      refine ⟨q, u, -3, u.2.1.2.1, u.2.1.2.2, u.2.2.1, u.2.2.2, Pc, It, Kn, hu, ?_, rfl, ?_⟩
      · rw [e1, fn_s1, fn_o, if_pos rfl, fn_s1, if_neg (by decide), fn_s1, if_neg (by decide), fn_s1, if_neg (by decide)]
        unfold f_Qu_add
        rw [if_neg (by rw [r3.1, e3]; decide), fn_s5, if_pos rfl]
      · rw [hself]; exact h0

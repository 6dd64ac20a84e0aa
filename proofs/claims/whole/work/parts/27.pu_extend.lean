/-! PURE ROWS 8: filter as a whole; extend -/
theorem fl_all {sn : Nat → Bool} {sf I : Nat → Int32} {N i m k : Nat} {v : Nat → Nat} {x : it_P} {f : Nat → Int32} (hN : 5000 ≤ N) (hse : se_rep sn sf) (hx : it_ok x) (hi : i < 4) (hm : m < 65536) (hv : ∀ j, j < i → v j < 16) (hlv : it_lv x i) (hk : k < 3) (hI : I (3 * k) = it_I x.1 ∧ I (3 * k + 1) = it_I x.2.1 ∧ I (3 * k + 2) = it_I x.2.2) (hr : vl_rep v i f) :
    ∃ f', f_Sr_filter N sf f I (nI k) (nI i) (nI m) = some (nI (bm (fun z => m.testBit z && pm sn (vs v i z) x) 16), f') ∧ vl_rep v i f' := by
  obtain ⟨hs, hp, ho⟩ := nw_lt20 hx
  unfold f_Sr_filter
  have h0 : f_Qu_itemAt I (nI k) 0 = some (it_I x.1) := (qu_itemAt (j := 0) hk (by decide)).trans (by rw [Nat.add_zero, hI.1])
  have h1 : f_Qu_itemAt I (nI k) 1 = some (it_I x.2.1) := (qu_itemAt (j := 1) hk (by decide)).trans (by rw [hI.2.1])
  have h2 : f_Qu_itemAt I (nI k) 2 = some (it_I x.2.2) := (qu_itemAt (j := 2) hk (by decide)).trans (by rw [hI.2.2])
  rw [h0, fn_s1, h1, fn_s1, h2, fn_s1]
  have h72 := fl_72 (N := N) (I := I) (sn := sn) hse hx hi hm hv hlv.2 16 N 0 0 f (by omega) (by omega) hr (bm_zero.mpr (fun z _ => by simp)).symm
  have h72' : ∃ f', f_Sr_filter_72 N sf I (nI i) (nI m) (it_I x.1) (it_I x.2.1) (it_I x.2.2) N f 0 0 = some (nI (bm (fun z => m.testBit z && pm sn (vs v i z) x) 16), f') ∧ vl_rep v i f' := h72
  rw [← it_var]
  by_cases e1 : it_I x.1 = it_I (i + 16)
  · rw [if_pos e1]; exact h72'
  rw [if_neg e1]
  by_cases e2 : it_I x.2.1 = it_I (i + 16)
  · rw [if_pos e2]; exact h72'
  rw [if_neg e2]
  have n1 : ¬ x.1 = i + 16 := fun q => e1 (by rw [q])
  have n2 : ¬ x.2.1 = i + 16 := fun q => e2 (by rw [q])
  have n3 : x.2.2 = i + 16 := by
    have := hlv.1
    unfold it_has at this
    simp only [Bool.or_eq_true, decide_eq_true_eq] at this
    rcases this with (q | q) | q
    · exact absurd q n1
    · exact absurd q n2
    · exact q
  have hn : ∀ j, i < j → j < 4 → ¬ x.1 = j + 16 ∧ ¬ x.2.1 = j + 16 := fun j h1 h2 => by
    have := hlv.2 j h1 h2
    unfold it_has at this
    simp only [Bool.or_eq_false_iff, decide_eq_false_iff_not] at this
    exact ⟨this.1.1, this.1.2⟩
  have hval : ∀ c, c < 20 → ¬ c = i + 16 → (∀ j, i < j → j < 4 → ¬ c = j + 16) → f_Sr_valueOf f (it_I c) = some (nI (it_v v c)) ∧ it_v v c < 16 ∧ ∀ z, it_v (vs v i z) c = it_v v c := fun c hc hne hno => by
    refine ⟨op_valueOf hc (fun j hj => hr j (by
      apply Classical.byContradiction
      intro q
      by_cases e : j = i
      · exact hne (by omega)
      · exact hno j (by omega) (by omega) hj)), ?_, fun z => ?_⟩
    · unfold it_v
      split
      · assumption
      · refine hv _ ?_
        apply Classical.byContradiction
        intro q
        by_cases e : c - 16 = i
        · exact hne (by omega)
        · exact hno (c - 16) (by omega) (by omega) (by omega)
    · unfold it_v
      split
      · rfl
      · exact vs_ne (by omega)
  obtain ⟨v1, l1, s1⟩ := hval _ hs n1 (fun j h1 h2 => (hn j h1 h2).1)
  obtain ⟨v2, l2, s2⟩ := hval _ hp n2 (fun j h1 h2 => (hn j h1 h2).2)
  rw [v1, fn_s1, v2, fn_s1, se_objectsOf hse l1 l2, fn_s1, pb_and]
  have e : m &&& bm (fun o => decide (it_v v x.2.1 < 8) && sn (128 * it_v v x.1 + 16 * it_v v x.2.1 + o)) 16 = bm (fun z => m.testBit z && pm sn (vs v i z) x) 16 := by
    refine bm_eq (Nat.lt_of_le_of_lt Nat.and_le_left hm) (fun z hz => ?_)
    rw [Nat.testBit_and, bm_bit]
    unfold pm
    rw [s1 z, s2 z]
    have : it_v (vs v i z) x.2.2 = z := by
      unfold it_v
      rw [n3, if_neg (by omega), Nat.add_sub_cancel, vs_self]
    rw [this]
    simp [hz]
  rw [e]
  exact ⟨f, rfl, hr⟩
/-! rows found: a list of words -/
def fd_rep (ws : List Nat) (S : Int32) (f : Nat → Int32) : Prop := S = nI ws.length ∧ ∀ j w, ws[j]? = some w → f j = nI w
theorem fd_add {ws : List Nat} {S : Int32} {f : Nat → Int32} {M h b : Nat} (hr : fd_rep ws S f) (hl : ws.length ≤ M) (hM : M ≤ 4096) (hh : h < 4096) (hb : b < 65536) :
    ∃ S' f', f_Rs_add S M f (nI h) (nI b) = some (S', f') ∧ fd_rep ((ws ++ (if b = 0 then [] else [h * 65536 + b])).take M) S' f' := by
  unfold f_Rs_add f_Rs_isFull
  by_cases hb0 : b = 0
  · rw [if_pos (by rw [hb0]; rfl), if_pos hb0, List.append_nil, List.take_of_length_le hl]
    exact ⟨S, f, rfl, hr⟩
  · rw [if_neg (nI_ne0 (by omega) (by omega)), if_neg hb0, hr.1]
    by_cases hlt : ws.length < M
    · rw [if_pos (show nI ws.length < Int32.ofNat M from nI_lt hlt (by omega)), fn_s1, if_pos rfl, if_pos (pu_in hlt (by omega)), pu_cl (by omega), nI_1]
      have e : (nI h <<< ((16 : Int32) &&& 31)) ||| nI b = nI (h * 65536 + b) := by
        have e1 : nI h <<< ((16 : Int32) &&& 31) = nI (h * 2 ^ 16) := pb_shl (k := 16) (by decide) (by omega)
        rw [e1, pb_or]
        congr 1
        rw [Nat.mul_comm]
        exact (Nat.two_pow_add_eq_or_of_lt (i := 16) hb h).symm
      rw [e]
      refine ⟨_, _, rfl, ?_⟩
      rw [List.take_of_length_le (by simp; omega)]
      refine ⟨by simp, fun j w hj => ?_⟩
      by_cases hjl : j < ws.length
      · rw [List.getElem?_append_left hjl] at hj
        rw [pk_un (by omega)]
        exact hr.2 j w hj
      · rw [List.getElem?_append_right (by omega)] at hj
        have : j - ws.length < 1 := (List.getElem?_eq_some_iff.mp hj).1
        have e2 : j = ws.length := by omega
        subst e2
        rw [Nat.sub_self] at hj
        cases hj
        exact pk_us
    · rw [if_neg (show ¬ nI ws.length < Int32.ofNat M from nI_nlt (by omega) (by omega)), fn_s1, if_neg (by decide)]
      refine ⟨_, _, rfl, ?_⟩
      rw [List.take_append_of_le_length (by omega), List.take_of_length_le hl]
      exact ⟨rfl, hr.2⟩
/-- the values that fit at level i -/
def ex_ft (sn : Nat → Bool) (op : Nat → Nat) (ps : List it_P) (v : Nat → Nat) (i : Nat) : Nat → List it_P → Nat
  | m, [] => m
  | m, x :: xs => ex_ft sn op ps v i (bm (fun z => m.testBit z && (!(it_has i x && (List.range 4).all (fun j => !(decide (i < j) && it_has j x))) || pm sn (vs v i z) x)) 16) xs
theorem ex_lv {x : it_P} {i : Nat} : (it_has i x && (List.range 4).all (fun j => !(decide (i < j) && it_has j x))) = true ↔ it_lv x i := by
  unfold it_lv
  rw [Bool.and_eq_true, List.all_eq_true]
  constructor
  · intro q
    refine ⟨q.1, fun j h1 h2 => ?_⟩
    have := q.2 j (List.mem_range.mpr h2)
    simpa [h1] using this
  · intro q
    refine ⟨q.1, fun j hj => ?_⟩
    by_cases h1 : i < j
    · simp [h1, q.2 j h1 (List.mem_range.mp hj)]
    · simp [h1]
theorem ex_ft_lt {sn : Nat → Bool} {op : Nat → Nat} {ps : List it_P} {v : Nat → Nat} {i : Nat} : ∀ (xs : List it_P) (m : Nat), m < 65536 → ex_ft sn op ps v i m xs < 65536 := by
  intro xs
  induction xs with
  | nil => intro m h; exact h
  | cons x xs ih => intro m h; exact ih _ (bm_lt _ 16)
theorem ex_ft_zero {sn : Nat → Bool} {op : Nat → Nat} {ps : List it_P} {v : Nat → Nat} {i : Nat} : ∀ (xs : List it_P), ex_ft sn op ps v i 0 xs = 0 := by
  intro xs
  induction xs with
  | nil => rfl
  | cons x xs ih =>
    rw [ex_ft, bm_zero.mpr (fun z _ => by simp)]
    exact ih
theorem ex_ft_bit {sn : Nat → Bool} {op : Nat → Nat} {ps : List it_P} {v : Nat → Nat} {i : Nat} : ∀ (xs : List it_P) (m z : Nat), m < 65536 → z < 16 → ((ex_ft sn op ps v i m xs).testBit z = true ↔ m.testBit z = true ∧ ∀ x ∈ xs, it_lv x i → pm sn (vs v i z) x = true) := by
  intro xs
  induction xs with
  | nil => intro m z _ _; rw [ex_ft]; simp
  | cons x xs ih =>
    intro m z hm hz
    rw [ex_ft, ih _ z (bm_lt _ 16) hz, bm_bit]
    rw [decide_eq_true hz, Bool.true_and, Bool.and_eq_true, Bool.or_eq_true, List.forall_mem_cons]
    have : (!(it_has i x && (List.range 4).all (fun j => !(decide (i < j) && it_has j x)))) = true ↔ ¬ it_lv x i := by
      rw [← ex_lv, Bool.not_eq_true', Bool.not_eq_true]
    rw [this]
    constructor
    · rintro ⟨⟨a, b⟩, c⟩
      refine ⟨a, fun hl => ?_, c⟩
      rcases b with b | b
      · exact absurd hl b
      · exact b
    · rintro ⟨a, b, c⟩
      refine ⟨⟨a, ?_⟩, c⟩
      by_cases hl : it_lv x i
      · exact Or.inr (b hl)
      · exact Or.inl hl

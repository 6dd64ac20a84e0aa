/-! PURE ROWS 7: a pattern under a valuation; narrow as a whole; filter -/
def pm (sn : Nat → Bool) (v : Nat → Nat) (x : it_P) : Bool := decide (it_v v x.2.1 < 8) && sn (128 * it_v v x.1 + 16 * it_v v x.2.1 + it_v v x.2.2)
def op_box (op : Nat → Nat) (v : Nat → Nat) : Prop := ∀ i, i < 4 → (op i).testBit (v i) = true
theorem op_box_lt {op v : Nat → Nat} {f : Nat → Int32} (h : op_rep op f) (hb : op_box op v) {i : Nat} (hi : i < 4) : v i < 16 := by
  apply Classical.byContradiction
  intro hge
  have := hb i hi
  rw [Nat.testBit_lt_two_pow (Nat.lt_of_lt_of_le (h i hi).1 (Nat.pow_le_pow_right (n := 2) (by decide) (by omega : 16 ≤ v i)))] at this
  cases this
theorem op_al_bit {op v : Nat → Nat} {c : Nat} (hb : op_box op v) (hc : c < 20) : (op_al op c).testBit (it_v v c) = true := by
  unfold op_al it_v
  by_cases h : c < 16
  · rw [if_pos h, if_pos h, Nat.testBit_two_pow_self]
  · rw [if_neg h, if_neg h]; exact hb _ (by omega)
theorem it_v_lt {op v : Nat → Nat} {f : Nat → Int32} (h : op_rep op f) (hb : op_box op v) {c : Nat} (hc : c < 20) : it_v v c < 16 := by
  unfold it_v
  split
  · assumption
  · exact op_box_lt h hb (by omega)
theorem op_kp_sub {op : Nat → Nat} {c m : Nat} {v : Nat → Nat} (h : op_box (op_kp op c m) v) : op_box op v := fun i hi => by
  have := h i hi
  unfold op_kp at this
  split at this
  · rw [Nat.testBit_and, Bool.and_eq_true] at this; exact this.1
  · exact this
theorem op_kp_in {op : Nat → Nat} {c m : Nat} {v : Nat → Nat} (h : op_box op v) (hm : m.testBit (it_v v c) = true) : op_box (op_kp op c m) v := fun i hi => by
  unfold op_kp
  split
  · rename_i e
    rw [Nat.testBit_and, h i hi]
    unfold it_v at hm
    rw [if_neg (by omega), e, Nat.add_sub_cancel] at hm
    simp [hm]
  · exact h i hi
theorem nw_lt20 {x : it_P} (h : it_ok x) : x.1 < 20 ∧ x.2.1 < 20 ∧ x.2.2 < 20 := ⟨h.1, by rcases h.2.1 with q | q <;> omega, h.2.2⟩
theorem op_ne {a m i : Nat} (h1 : a.testBit i = true) (h2 : m.testBit i = true) : ¬ a &&& m = 0 := fun e => by
  have : (a &&& m).testBit i = true := by rw [Nat.testBit_and, h1, h2]; rfl
  rw [e, Nat.zero_testBit] at this
  cases this
/-- narrow: what it leaves holds all valuations of before under which the pattern is seen; it is false only where there is none; a pattern without variables is seen where it is true -/
theorem nw_all {sn : Nat → Bool} {sf : Nat → Int32} {N : Nat} {op : Nat → Nat} {f : Nat → Int32} {x : it_P} (hN : 5000 ≤ N) (hse : se_rep sn sf) (h : op_rep op f) (hx : it_ok x) :
    ∃ (b : Bool) (op' : Nat → Nat) (f' : Nat → Int32), f_Sr_narrow N sf f (it_I x.1) (it_I x.2.1) (it_I x.2.2) = some (pu_b b, f') ∧ op_rep op' f' ∧ (∀ v, op_box op' v → op_box op v) ∧ (∀ v, op_box op v → pm sn v x = true → b = true ∧ op_box op' v) ∧ (b = true → (∀ i, i < 4 → it_has i x = false) → ∀ v, pm sn v x = true) := by
  obtain ⟨hs, hp, ho⟩ := nw_lt20 hx
  have las := op_al_lt h hs
  have lap := op_al_lt h hp
  have lao := op_al_lt h ho
  obtain ⟨fS, fP, fO, inv, e⟩ := nw_33 (N := N) (v1 := it_I x.1) (v2 := it_I x.2.1) (v3 := it_I x.2.2) (f := f) hN hse las lap lao 16 N 0 0 0 0 (by omega) (by omega) ⟨by decide, by decide, by decide, fun i _ => by simp [nw_pr], fun j _ => by simp [nw_pr], fun o _ => by simp [nw_pr]⟩
  unfold f_Sr_narrow
  rw [op_allowed h hs, fn_s1, op_allowed h hp, fn_s1, op_allowed h ho, fn_s1]
  have e' : f_Sr_narrow_33 N sf (it_I x.1) (it_I x.2.1) (it_I x.2.2) (nI (op_al op x.1)) (nI (op_al op x.2.1)) (nI (op_al op x.2.2)) N f 0 0 0 0 = f_Sr_narrow_135 N sf f (it_I x.1) (it_I x.2.1) (it_I x.2.2) (nI fS) (nI fP) (nI fO) := e
  rw [e']
  obtain ⟨i1, i2, i3, iS, iP, iO⟩ := inv
  -- what a valuation in the box that fits says
  have fit : ∀ v, op_box op v → pm sn v x = true → fS.testBit (it_v v x.1) = true ∧ fP.testBit (it_v v x.2.1) = true ∧ fO.testBit (it_v v x.2.2) = true := by
    intro v hb hv
    unfold pm at hv
    rw [Bool.and_eq_true, decide_eq_true_eq] at hv
    have b1 := it_v_lt h hb hs
    have b3 := it_v_lt h hb ho
    have hh : nw_h sn (op_al op x.1) (op_al op x.2.1) (op_al op x.2.2) (it_v v x.1) (it_v v x.2.1) (it_v v x.2.2) := ⟨op_al_bit hb hs, op_al_bit hb hp, op_al_bit hb ho, hv.2⟩
    exact ⟨(iS _ b1).mpr ⟨_, _, hv.1, b3, trivial, hh⟩, (iP _ (by omega)).mpr ⟨_, _, b1, hv.1, b3, trivial, hh⟩, (iO _ b3).mpr ⟨_, _, b1, hv.1, trivial, hh⟩⟩
  unfold f_Sr_narrow_135
  obtain ⟨f1, e1, r1⟩ := op_keep (m := fS) h hs
  rw [e1, fn_s2]
  have box1 : ∀ v, op_box op v → pm sn v x = true → (¬ op_al op x.1 &&& fS = 0) ∧ op_box (op_kp op x.1 fS) v := fun v hb hv => ⟨op_ne (op_al_bit hb hs) (fit v hb hv).1, op_kp_in hb (fit v hb hv).1⟩
  by_cases z1 : op_al op x.1 &&& fS = 0
  · rw [if_pos (by simp [z1, pu_b])]
    exact ⟨false, _, f1, by rfl, r1, fun v hv => op_kp_sub hv, fun v hb hv => absurd z1 (box1 v hb hv).1, fun q => by cases q⟩
  rw [if_neg (by simp [z1, pu_b])]
  obtain ⟨f2, e2, r2⟩ := op_keep (m := fP) r1 hp
  rw [e2, fn_s2]
  have box2 : ∀ v, op_box op v → pm sn v x = true → (¬ op_al (op_kp op x.1 fS) x.2.1 &&& fP = 0) ∧ op_box (op_kp (op_kp op x.1 fS) x.2.1 fP) v := fun v hb hv =>
    have hb1 := (box1 v hb hv).2
    ⟨op_ne (op_al_bit hb1 hp) (fit v hb hv).2.1, op_kp_in hb1 (fit v hb hv).2.1⟩
  by_cases z2 : op_al (op_kp op x.1 fS) x.2.1 &&& fP = 0
  · rw [if_pos (by simp [z2, pu_b])]
    exact ⟨false, _, f2, by rfl, r2, fun v hv => op_kp_sub (op_kp_sub hv), fun v hb hv => absurd z2 (box2 v hb hv).1, fun q => by cases q⟩
  rw [if_neg (by simp [z2, pu_b])]
  obtain ⟨f3, e3, r3⟩ := op_keep (m := fO) r2 ho
  rw [e3, fn_s2]
  have box3 : ∀ v, op_box op v → pm sn v x = true → (¬ op_al (op_kp (op_kp op x.1 fS) x.2.1 fP) x.2.2 &&& fO = 0) ∧ op_box (op_kp (op_kp (op_kp op x.1 fS) x.2.1 fP) x.2.2 fO) v := fun v hb hv =>
    have hb2 := (box2 v hb hv).2
    ⟨op_ne (op_al_bit hb2 ho) (fit v hb hv).2.2, op_kp_in hb2 (fit v hb hv).2.2⟩
  by_cases z3 : op_al (op_kp (op_kp op x.1 fS) x.2.1 fP) x.2.2 &&& fO = 0
  · rw [if_pos (by simp [z3, pu_b])]
    exact ⟨false, _, f3, by rfl, r3, fun v hv => op_kp_sub (op_kp_sub (op_kp_sub hv)), fun v hb hv => absurd z3 (box3 v hb hv).1, fun q => by cases q⟩
  rw [if_neg (by simp [z3, pu_b])]
  refine ⟨true, _, f3, by rfl, r3, fun v hv => op_kp_sub (op_kp_sub (op_kp_sub hv)), fun v hb hv => ⟨rfl, (box3 v hb hv).2⟩, fun _ hno v => ?_⟩
  -- no variable: the three items are themselves
  have con : ∀ c, c < 20 → (∀ i, i < 4 → ¬ c = i + 16) → c < 16 := fun c h1 h2 => by
    apply Classical.byContradiction
    intro q
    exact h2 (c - 16) (by omega) (by omega)
  have hn : ∀ i, i < 4 → ¬ x.1 = i + 16 ∧ ¬ x.2.1 = i + 16 ∧ ¬ x.2.2 = i + 16 := fun i hi => by
    have := hno i hi
    unfold it_has at this
    simp only [Bool.or_eq_false_iff, decide_eq_false_iff_not] at this
    exact ⟨this.1.1, this.1.2, this.2⟩
  have c1 := con _ hs (fun i hi => (hn i hi).1)
  have c2 := con _ hp (fun i hi => (hn i hi).2.1)
  have c3 := con _ ho (fun i hi => (hn i hi).2.2)
  have a1 : op_al op x.1 = 2 ^ x.1 := if_pos c1
  have a2 : op_al op x.2.1 = 2 ^ x.2.1 := if_pos c2
  have a3 : op_al op x.2.2 = 2 ^ x.2.2 := if_pos c3
  have hbS : fS.testBit x.1 = true := by
    cases q : fS.testBit x.1 with
    | true => rfl
    | false =>
      refine absurd (bm_ext (k := 16) (Nat.lt_of_le_of_lt Nat.and_le_left las) (by decide) (fun i hi => ?_)) z1
      rw [a1, Nat.testBit_and, Nat.testBit_two_pow, Nat.zero_testBit]
      by_cases ei : x.1 = i
      · subst ei; simp [q]
      · simp [ei]
  obtain ⟨j, o, hj, hoo, _, hh⟩ := (iS x.1 c1).mp hbS
  obtain ⟨_, h2, h3, h4⟩ := hh
  rw [a2, Nat.testBit_two_pow, decide_eq_true_eq] at h2
  rw [a3, Nat.testBit_two_pow, decide_eq_true_eq] at h3
  subst h2; subst h3
  unfold pm it_v
  rw [if_pos c1, if_pos c2, if_pos c3, h4]
  simp [hj]
/-! filter -/
def vs (v : Nat → Nat) (i x : Nat) : Nat → Nat := fun j => if j = i then x else v j
theorem vs_self (v : Nat → Nat) (i x : Nat) : vs v i x i = x := if_pos rfl
theorem vs_ne {v : Nat → Nat} {i x j : Nat} (h : j ≠ i) : vs v i x j = v j := if_neg h
/-- the values array holds v below i -/
def vl_rep (v : Nat → Nat) (i : Nat) (f : Nat → Int32) : Prop := ∀ j, j < i → f j = nI (v j)
theorem fl_72 {sn : Nat → Bool} {sf I : Nat → Int32} {N i m : Nat} {v : Nat → Nat} {x : it_P} (hse : se_rep sn sf) (hx : it_ok x) (hi : i < 4) (hm : m < 65536) (hv : ∀ j, j < i → v j < 16) (hmax : ∀ j, i < j → j < 4 → it_has j x = false) :
    ∀ (k fuel y a : Nat) (f : Nat → Int32), y + k = 16 → k < fuel → vl_rep v i f → a = bm (fun z => decide (z < y) && (m.testBit z && pm sn (vs v i z) x)) 16 →
    ∃ f', f_Sr_filter_72 N sf I (nI i) (nI m) (it_I x.1) (it_I x.2.1) (it_I x.2.2) fuel f (nI a) (nI y) = some (nI (bm (fun z => m.testBit z && pm sn (vs v i z) x) 16), f') ∧ vl_rep v i f' := by
  obtain ⟨hs, hp, ho⟩ := nw_lt20 hx
  intro k
  induction k with
  | zero =>
    intro fuel y a f hy hf hr ha
    obtain ⟨fuel, rfl⟩ : ∃ m, fuel = m + 1 := ⟨fuel - 1, by omega⟩
    rw [f_Sr_filter_72.eq_2, if_pos (show 16 ≤ nI y from nI_le (a := 16) (by omega) (by omega))]
    refine ⟨f, ?_, hr⟩
    rw [ha]
    congr 3
    exact bm_congr (fun z hz => by simp [show z < y by omega])
  | succ k ih =>
    intro fuel y a f hy hf hr ha
    obtain ⟨fuel, rfl⟩ : ∃ m, fuel = m + 1 := ⟨fuel - 1, by omega⟩
    rw [f_Sr_filter_72.eq_2, if_neg (show ¬ 16 ≤ nI y from nI_ge (b := 16) (by omega) (by decide))]
    have hsh := pb_shr (m := m) (k := y) (by omega) (by omega)
    have eb := pb_bit0 (m := m) (k := y) (by omega) (by omega)
    by_cases hz0 : m / 2 ^ y = 0
    · rw [if_pos (by rw [hsh, hz0]; rfl)]
      refine ⟨f, ?_, hr⟩
      rw [ha]
      congr 3
      refine bm_congr (fun z hz => ?_)
      by_cases hzy : z < y
      · simp [hzy]
      · have : m.testBit z = false := by
          rw [Nat.div_eq_zero_iff] at hz0
          rcases hz0 with q | q
          · exact absurd q (Nat.ne_of_gt (Nat.two_pow_pos y))
          · exact Nat.testBit_lt_two_pow (Nat.lt_of_lt_of_le q (Nat.pow_le_pow_right (by decide) (by omega)))
        simp [hzy, this]
    · have hlt : m / 2 ^ y ≤ m := Nat.div_le_self _ _
      rw [if_neg (show ¬ nI m >>> (nI y &&& 31) = 0 by rw [hsh]; exact nI_ne0 (Nat.pos_of_ne_zero hz0) (by omega))]
      cases hb : m.testBit y with
      | false =>
        rw [if_pos (eb.mpr hb), nI_1]
        refine ih fuel (y + 1) a f (by omega) (by omega) hr ?_
        rw [ha]
        refine bm_congr (fun z hz => ?_)
        by_cases e : z = y
        · subst e; simp [hb]
        · rw [show decide (z < y) = decide (z < y + 1) from decide_eq_decide.mpr (by omega)]
      | true =>
        rw [if_neg (fun q => by have := eb.mp q; rw [hb] at this; cases this), if_pos (pu_in hi (by decide)), pu_cl (by omega)]
        have hr2 : vl_rep v i (upd f i (nI y)) := fun j hj => by rw [pk_un (by omega)]; exact hr j hj
        have hval : ∀ c, c < 20 → (∀ j, i < j → j < 4 → ¬ c = j + 16) → f_Sr_valueOf (upd f i (nI y)) (it_I c) = some (nI (it_v (vs v i y) c)) := fun c hc hno =>
          op_valueOf hc (fun j hj => by
            by_cases e : j = i
            · subst e; rw [pk_us, vs_self]
            · by_cases hji : j < i
              · rw [pk_un e, vs_ne e]; exact hr j hji
              · exact absurd hj (hno j (by omega) (by omega)))
        have hn : ∀ j, i < j → j < 4 → ¬ x.1 = j + 16 ∧ ¬ x.2.1 = j + 16 ∧ ¬ x.2.2 = j + 16 := fun j h1 h2 => by
          have := hmax j h1 h2
          unfold it_has at this
          simp only [Bool.or_eq_false_iff, decide_eq_false_iff_not] at this
          exact ⟨this.1.1, this.1.2, this.2⟩
        have vlt : ∀ c, c < 20 → (∀ j, i < j → j < 4 → ¬ c = j + 16) → it_v (vs v i y) c < 16 := fun c hc hno => by
          unfold it_v
          split
          · assumption
          · by_cases e : c - 16 = i
            · rw [e, vs_self]; omega
            · rw [vs_ne e]
              refine hv _ ?_
              apply Classical.byContradiction
              intro q
              exact hno (c - 16) (by omega) (by omega) (by omega)
        have l1 := vlt _ hs (fun j h1 h2 => (hn j h1 h2).1)
        have l2 := vlt _ hp (fun j h1 h2 => (hn j h1 h2).2.1)
        have l3 := vlt _ ho (fun j h1 h2 => (hn j h1 h2).2.2)
        rw [hval _ hs (fun j h1 h2 => (hn j h1 h2).1), fn_s1, hval _ hp (fun j h1 h2 => (hn j h1 h2).2.1), fn_s1, se_objectsOf hse l1 l2, fn_s1, hval _ ho (fun j h1 h2 => (hn j h1 h2).2.2), fn_s1]
        have hob := bm_lt (fun o => decide (it_v (vs v i y) x.2.1 < 8) && sn (128 * it_v (vs v i y) x.1 + 16 * it_v (vs v i y) x.2.1 + o)) 16
        rw [pb_bit (by omega) (by omega), bm_bit, decide_eq_true l3, Bool.true_and, nI_1]
        have epm : (decide (it_v (vs v i y) x.2.1 < 8) && sn (128 * it_v (vs v i y) x.1 + 16 * it_v (vs v i y) x.2.1 + it_v (vs v i y) x.2.2)) = pm sn (vs v i y) x := rfl
        rw [epm]
        have esh : pu_b (pm sn (vs v i y) x) <<< (nI y &&& 31) = nI (if pm sn (vs v i y) x = true then 2 ^ y else 0) := by
          cases pm sn (vs v i y) x with
          | false =>
            show nI 0 <<< (nI y &&& 31) = _
            rw [pb_shl (by omega) (by rw [Nat.zero_mul]; decide), Nat.zero_mul]; rfl
          | true => exact pb_pow (by omega)
        rw [esh, pb_or]
        refine ih fuel (y + 1) _ _ (by omega) (by omega) hr2 ?_
        have halt : a < 2 ^ 16 := by rw [ha]; exact bm_lt _ 16
        have hplt : (if pm sn (vs v i y) x = true then 2 ^ y else 0) < 2 ^ 16 := by
          split
          · exact Nat.pow_lt_pow_right (by decide) (by omega)
          · decide
        refine bm_eq (Nat.or_lt_two_pow halt hplt) (fun z hz => ?_)
        rw [Nat.testBit_or, ha, bm_bit]
        by_cases e : z = y
        · subst e
          simp only [hz, decide_true, Nat.lt_irrefl, decide_false, Bool.false_and, Bool.and_false, Bool.false_or, Nat.lt_succ_self, Bool.true_and, hb]
          cases pm sn (vs v i z) x with
          | false => simp
          | true => simp
        · rw [show decide (z < y) = decide (z < y + 1) from decide_eq_decide.mpr (by omega)]
          have : (if pm sn (vs v i y) x = true then 2 ^ y else 0).testBit z = false := by
            split
            · rw [Nat.testBit_two_pow]; simp; omega
            · simp
          rw [this]
          simp [hz]

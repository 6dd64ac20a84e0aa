/-! PURE ROWS 6: the search's sets of values, and how they are narrowed -/
def op_rep (op : Nat → Nat) (f : Nat → Int32) : Prop := ∀ i, i < 4 → op i < 65536 ∧ f i = nI (op i)
def op_al (op : Nat → Nat) (c : Nat) : Nat := if c < 16 then 2 ^ c else op (c - 16)
theorem op_al_lt {op : Nat → Nat} {f : Nat → Int32} {c : Nat} (h : op_rep op f) (hc : c < 20) : op_al op c < 65536 := by
  unfold op_al
  split
  · exact Nat.lt_of_lt_of_le (Nat.pow_lt_pow_right (by decide) (by omega : c < 16)) (by decide)
  · exact (h _ (by omega)).1
theorem op_allowed {op : Nat → Nat} {f : Nat → Int32} {c : Nat} (h : op_rep op f) (hc : c < 20) : f_Sr_allowed f (it_I c) = some (nI (op_al op c)) := by
  unfold f_Sr_allowed op_al
  by_cases h1 : c < 16
  · rw [it_con h1, if_pos (it_m1c c h1), if_pos h1, pb_pow (by omega)]
  · obtain ⟨v, rfl⟩ : ∃ v, c = v + 16 := ⟨c - 16, by omega⟩
    have hv : v < 4 := by omega
    rw [it_var, it_m1v v hv, if_neg (nI_pos (by omega)), if_neg (show ¬ 4 ≤ nI v from nI_ge (b := 4) hv (by decide)), if_pos (pu_in hv (by decide)), pu_cl (by omega), if_neg h1, Nat.add_sub_cancel, (h v hv).2]
def op_kp (op : Nat → Nat) (c m : Nat) : Nat → Nat := fun i => if c = i + 16 then op i &&& m else op i
theorem op_zero {a m : Nat} (ha : a < 65536) : (nI a &&& nI m) = 0 ↔ a &&& m = 0 := by
  rw [pb_and]
  have : a &&& m ≤ a := Nat.and_le_left
  exact nI_eq (b := 0) (by omega) (by decide)
theorem op_keep {op : Nat → Nat} {f : Nat → Int32} {c m : Nat} (h : op_rep op f) (hc : c < 20) : ∃ f', f_Sr_keep f (it_I c) (nI m) = some (pu_b (decide (¬ op_al op c &&& m = 0)), f') ∧ op_rep (op_kp op c m) f' := by
  unfold f_Sr_keep
  have hal := op_al_lt h hc
  by_cases h1 : c < 16
  · have hk : op_rep (op_kp op c m) f := fun i hi => by unfold op_kp; rw [if_neg (by omega)]; exact h i hi
    rw [if_pos (by rw [it_con h1]; exact it_m1c c h1), op_allowed h hc, fn_s1]
    by_cases hz : op_al op c &&& m = 0
    · rw [if_pos ((op_zero hal).mpr hz)]
      exact ⟨f, by simp [hz, pu_b], hk⟩
    · rw [if_neg (fun q => hz ((op_zero hal).mp q))]
      exact ⟨f, by simp [hz, pu_b], hk⟩
  · obtain ⟨v, rfl⟩ : ∃ v, c = v + 16 := ⟨c - 16, by omega⟩
    have hv : v < 4 := by omega
    have hin := pu_in hv (show 4 < 2 ^ 31 by decide)
    have hov := h v hv
    have hk : op_rep (op_kp op (v + 16) m) (upd f v (nI (op v &&& m))) := fun i hi => by
      unfold op_kp
      by_cases e : i = v
      · subst e
        rw [if_pos rfl, pk_us]
        exact ⟨Nat.lt_of_le_of_lt Nat.and_le_left hov.1, rfl⟩
      · rw [if_neg (by omega), pk_un e]
        exact h i hi
    have hal2 : op_al (op_kp op (v + 16) m) (v + 16) = op v &&& m := by
      unfold op_al op_kp
      rw [if_neg h1, Nat.add_sub_cancel, if_pos rfl]
    have hal1 : op_al op (v + 16) = op v := by
      unfold op_al
      rw [if_neg h1, Nat.add_sub_cancel]
    rw [it_var, it_m1v v hv, if_neg (nI_pos (by omega)), if_neg (show ¬ 4 ≤ nI v from nI_ge (b := 4) hv (by decide)), if_pos hin, if_pos hin, pu_cl (by omega), hov.2, pb_and, ← it_var, op_allowed hk hc, fn_s1, hal2, hal1]
    have hz2 : (op v &&& m) &&& m = op v &&& m := by rw [Nat.and_assoc, Nat.and_self]
    have hlt : op v &&& m < 65536 := Nat.lt_of_le_of_lt Nat.and_le_left hov.1
    by_cases hz : op v &&& m = 0
    · rw [if_pos ((op_zero hlt).mpr (by rw [hz2]; exact hz))]
      exact ⟨_, by simp [hz, pu_b], hk⟩
    · rw [if_neg (fun q => hz (by rw [← hz2]; exact (op_zero hlt).mp q))]
      exact ⟨_, by simp [hz, pu_b], hk⟩
theorem op_valueOf {v : Nat → Nat} {f : Nat → Int32} {c : Nat} (hc : c < 20) (h : ∀ j, c = j + 16 → f j = nI (v j)) : f_Sr_valueOf f (it_I c) = some (nI (it_v v c)) := by
  unfold f_Sr_valueOf it_v
  by_cases h1 : c < 16
  · rw [it_con h1, if_pos (it_m1c c h1), if_pos h1]
  · obtain ⟨w, rfl⟩ : ∃ w, c = w + 16 := ⟨c - 16, by omega⟩
    have hw : w < 4 := by omega
    rw [it_var, it_m1v w hw, if_neg (nI_pos (by omega)), if_neg (show ¬ 4 ≤ nI w from nI_ge (b := 4) hw (by decide)), if_pos (pu_in hw (by decide)), pu_cl (by omega), if_neg h1, Nat.add_sub_cancel, h w rfl]
theorem op_begin_2 {N : Nat} {g : Nat → Bool} : ∀ (k fuel i : Nat) (f : Nat → Int32), i + k = 4 → k < fuel → (∀ j, j < i → f j = nI (if g j = true then 65535 else 1)) → ∃ f', f_Sr_begin_2 N (nI (bm g 4)) fuel f (nI i) = some f' ∧ op_rep (fun j => if g j = true then 65535 else 1) f' := by
  intro k
  induction k with
  | zero =>
    intro fuel i f hi hf h
    obtain ⟨fuel, rfl⟩ : ∃ m, fuel = m + 1 := ⟨fuel - 1, by omega⟩
    rw [f_Sr_begin_2.eq_2, if_pos (show 4 ≤ nI i from nI_le (a := 4) (by omega) (by omega))]
    exact ⟨f, rfl, fun j hj => ⟨by dsimp only; split <;> decide, h j (by omega)⟩⟩
  | succ k ih =>
    intro fuel i f hi hf h
    obtain ⟨fuel, rfl⟩ : ∃ m, fuel = m + 1 := ⟨fuel - 1, by omega⟩
    rw [f_Sr_begin_2.eq_2, if_neg (show ¬ 4 ≤ nI i from nI_ge (b := 4) (by omega) (by decide)), qu_uses (by omega), fn_s1, if_pos (pu_in (by omega) (by decide)), if_pos (pu_in (by omega) (by decide)), pu_cl (by omega), nI_1]
    cases hg : g i with
    | false =>
      rw [if_pos (by rfl)]
      refine ih fuel (i + 1) _ (by omega) (by omega) (fun j hj => ?_)
      by_cases e : j = i
      · subst e; rw [pk_us, hg]; rfl
      · rw [pk_un e]; exact h j (by omega)
    | true =>
      rw [if_neg pu_b1]
      refine ih fuel (i + 1) _ (by omega) (by omega) (fun j hj => ?_)
      by_cases e : j = i
      · subst e; rw [pk_us, hg]; rfl
      · rw [pk_un e]; exact h j (by omega)
theorem op_begin {N : Nat} {g : Nat → Bool} (hN : 5000 ≤ N) (f : Nat → Int32) : ∃ f', f_Sr_begin N f (nI (bm g 4)) = some f' ∧ op_rep (fun j => if g j = true then 65535 else 1) f' :=
  op_begin_2 4 N 0 f (by omega) (by omega) (fun j hj => by omega)
/-! narrowing -/
def nw_h (sn : Nat → Bool) (as ap ao i j o : Nat) : Prop := as.testBit i = true ∧ ap.testBit j = true ∧ ao.testBit o = true ∧ sn (128 * i + 16 * j + o) = true
def nw_inv (sn : Nat → Bool) (as ap ao : Nat) (pr : Nat → Nat → Prop) (fS fP fO : Nat) : Prop := fS < 65536 ∧ fP < 65536 ∧ fO < 65536 ∧
  (∀ i, i < 16 → (fS.testBit i = true ↔ ∃ j o, j < 8 ∧ o < 16 ∧ pr i j ∧ nw_h sn as ap ao i j o)) ∧
  (∀ j, j < 16 → (fP.testBit j = true ↔ ∃ i o, i < 16 ∧ j < 8 ∧ o < 16 ∧ pr i j ∧ nw_h sn as ap ao i j o)) ∧
  (∀ o, o < 16 → (fO.testBit o = true ↔ ∃ i j, i < 16 ∧ j < 8 ∧ pr i j ∧ nw_h sn as ap ao i j o))
theorem nw_to {sn : Nat → Bool} {as ap ao : Nat} {pr pr' : Nat → Nat → Prop} {fS fP fO : Nat} (h : nw_inv sn as ap ao pr fS fP fO) (he : ∀ i j o, i < 16 → j < 8 → o < 16 → nw_h sn as ap ao i j o → (pr i j ↔ pr' i j)) : nw_inv sn as ap ao pr' fS fP fO := by
  obtain ⟨h1, h2, h3, h4, h5, h6⟩ := h
  refine ⟨h1, h2, h3, fun i hi => (h4 i hi).trans ?_, fun j hj => (h5 j hj).trans ?_, fun o ho => (h6 o ho).trans ?_⟩
  · exact ⟨fun ⟨j, o, a, b, c, d⟩ => ⟨j, o, a, b, (he i j o hi a b d).mp c, d⟩, fun ⟨j, o, a, b, c, d⟩ => ⟨j, o, a, b, (he i j o hi a b d).mpr c, d⟩⟩
  · exact ⟨fun ⟨i, o, z, a, b, c, d⟩ => ⟨i, o, z, a, b, (he i j o z a b d).mp c, d⟩, fun ⟨i, o, z, a, b, c, d⟩ => ⟨i, o, z, a, b, (he i j o z a b d).mpr c, d⟩⟩
  · exact ⟨fun ⟨i, j, z, a, c, d⟩ => ⟨i, j, z, a, (he i j o z a ho d).mp c, d⟩, fun ⟨i, j, z, a, c, d⟩ => ⟨i, j, z, a, (he i j o z a ho d).mpr c, d⟩⟩
theorem nw_add {sn : Nat → Bool} {as ap ao : Nat} {pr : Nat → Nat → Prop} {fS fP fO i1 j1 ob : Nat} (h : nw_inv sn as ap ao pr fS fP fO) (hi : i1 < 16) (hj : j1 < 8) (hs : as.testBit i1 = true) (hp : ap.testBit j1 = true) (hob : ob < 65536) (ho : ∀ o, o < 16 → ob.testBit o = sn (128 * i1 + 16 * j1 + o)) (hne : ¬ ob &&& ao = 0) :
    nw_inv sn as ap ao (fun i j => pr i j ∨ (i = i1 ∧ j = j1)) (fS ||| 2 ^ i1) (fP ||| 2 ^ j1) (fO ||| (ob &&& ao)) := by
  obtain ⟨h1, h2, h3, h4, h5, h6⟩ := h
  have hlt : ob &&& ao < 65536 := Nat.lt_of_le_of_lt Nat.and_le_left hob
  have hb : ∀ o, o < 16 → ((ob &&& ao).testBit o = true ↔ nw_h sn as ap ao i1 j1 o) := fun o hoo => by
    rw [Nat.testBit_and, ho o hoo, Bool.and_eq_true]
    exact ⟨fun q => ⟨hs, hp, q.2, q.1⟩, fun q => ⟨q.2.2.2, q.2.2.1⟩⟩
  obtain ⟨o1, ho1, hh1⟩ : ∃ o, o < 16 ∧ nw_h sn as ap ao i1 j1 o := by
    apply Classical.byContradiction
    intro hno
    apply hne
    refine bm_ext (k := 16) hlt (by decide) (fun i hi => ?_)
    rw [Nat.zero_testBit]
    cases hbi : (ob &&& ao).testBit i with
    | false => rfl
    | true => exact absurd ⟨i, hi, (hb i hi).mp hbi⟩ hno
  refine ⟨Nat.or_lt_two_pow (n := 16) h1 (Nat.pow_lt_pow_right (by decide) hi), Nat.or_lt_two_pow (n := 16) h2 (Nat.pow_lt_pow_right (by decide) (by omega)), Nat.or_lt_two_pow (n := 16) h3 hlt, fun i hii => ?_, fun j hjj => ?_, fun o hoo => ?_⟩
  · rw [Nat.testBit_or, Nat.testBit_two_pow, Bool.or_eq_true, h4 i hii, decide_eq_true_eq]
    constructor
    · rintro (⟨j, o, a, b, c, d⟩ | e)
      · exact ⟨j, o, a, b, Or.inl c, d⟩
      · subst e; exact ⟨j1, o1, hj, ho1, Or.inr ⟨rfl, rfl⟩, hh1⟩
    · rintro ⟨j, o, a, b, c | c, d⟩
      · exact Or.inl ⟨j, o, a, b, c, d⟩
      · exact Or.inr c.1.symm
  · rw [Nat.testBit_or, Nat.testBit_two_pow, Bool.or_eq_true, h5 j hjj, decide_eq_true_eq]
    constructor
    · rintro (⟨i, o, z, a, b, c, d⟩ | e)
      · exact ⟨i, o, z, a, b, Or.inl c, d⟩
      · subst e; exact ⟨i1, o1, hi, hj, ho1, Or.inr ⟨rfl, rfl⟩, hh1⟩
    · rintro ⟨i, o, z, a, b, c | c, d⟩
      · exact Or.inl ⟨i, o, z, a, b, c, d⟩
      · exact Or.inr c.2.symm
  · rw [Nat.testBit_or, Bool.or_eq_true, h6 o hoo, hb o hoo]
    constructor
    · rintro (⟨i, j, z, a, c, d⟩ | e)
      · exact ⟨i, j, z, a, Or.inl c, d⟩
      · exact ⟨i1, j1, hi, hj, Or.inr ⟨rfl, rfl⟩, e⟩
    · rintro ⟨i, j, z, a, c | c, d⟩
      · exact Or.inl ⟨i, j, z, a, c, d⟩
      · obtain ⟨rfl, rfl⟩ := c; exact Or.inr d
def nw_pr (i0 j0 i j : Nat) : Prop := i < i0 ∨ (i = i0 ∧ j < j0)
theorem nw_56 {sn : Nat → Bool} {sf : Nat → Int32} {N as ap ao i : Nat} {v1 v2 v3 : Int32} (hse : se_rep sn sf) (has : as < 65536) (hap : ap < 65536) (hao : ao < 65536) (hi : i < 16) (hbi : as.testBit i = true) {r : (Nat → Int32) → Int32 → Int32 → Int32 → Int32 → Option (Int32 × (Nat → Int32))} {f : Nat → Int32} :
    ∀ (k fuel j fS fP fO : Nat), j + k = 8 → k < fuel → nw_inv sn as ap ao (nw_pr i j) fS fP fO →
    ∃ fS' fP' fO', nw_inv sn as ap ao (nw_pr (i + 1) 0) fS' fP' fO' ∧ f_Sr_narrow_56 N sf r v1 v2 v3 (nI as) (nI ap) (nI ao) (nI i) fuel f (nI fS) (nI fP) (nI fO) (nI j) = r f (nI fS') (nI fP') (nI fO') (nI (i + 1)) := by
  intro k
  induction k with
  | zero =>
    intro fuel j fS fP fO hj hf h
    obtain ⟨fuel, rfl⟩ : ∃ m, fuel = m + 1 := ⟨fuel - 1, by omega⟩
    rw [f_Sr_narrow_56.eq_2, if_pos (show 8 ≤ nI j from nI_le (a := 8) (by omega) (by omega)), nI_1]
    exact ⟨fS, fP, fO, nw_to h (fun a b o h1 h2 h3 h4 => by unfold nw_pr; omega), rfl⟩
  | succ k ih =>
    intro fuel j fS fP fO hj hf h
    obtain ⟨fuel, rfl⟩ : ∃ m, fuel = m + 1 := ⟨fuel - 1, by omega⟩
    rw [f_Sr_narrow_56.eq_2, if_neg (show ¬ 8 ≤ nI j from nI_ge (b := 8) (by omega) (by decide))]
    have eb := pb_bit0 (m := ap) (k := j) (by omega) (by omega)
    cases hbj : ap.testBit j with
    | false =>
      rw [if_pos (eb.mpr hbj)]
      unfold f_Sr_narrow_91
      rw [if_pos rfl, nI_1]
      exact ih fuel (j + 1) fS fP fO (by omega) (by omega) (nw_to h (fun a b o h1 h2 h3 h4 => by
        unfold nw_pr
        constructor
        · omega
        · rintro (q | ⟨q1, q2⟩)
          · exact Or.inl q
          · by_cases e : b = j
            · subst e; have := h4.2.1; rw [hbj] at this; cases this
            · exact Or.inr ⟨q1, by omega⟩))
    | true =>
      rw [if_neg (fun q => by have := eb.mp q; rw [hbj] at this; cases this), se_objectsOf hse hi (by omega), fn_s1, pb_and]
      have hob := bm_lt (fun o => decide (j < 8) && sn (128 * i + 16 * j + o)) 16
      generalize hobe : bm (fun o => decide (j < 8) && sn (128 * i + 16 * j + o)) 16 = ob at hob ⊢
      have ho : ∀ o, o < 16 → ob.testBit o = sn (128 * i + 16 * j + o) := fun o hoo => by
        rw [← hobe, bm_bit]
        simp [hoo, show j < 8 by omega]
      have hlt : ob &&& ao < 65536 := Nat.lt_of_le_of_lt Nat.and_le_left hob
      unfold f_Sr_narrow_91
      by_cases hz : ob &&& ao = 0
      · rw [if_pos (by rw [hz]; rfl), nI_1]
        exact ih fuel (j + 1) fS fP fO (by omega) (by omega) (nw_to h (fun a b o h1 h2 h3 h4 => by
          unfold nw_pr
          constructor
          · omega
          · rintro (q | ⟨q1, q2⟩)
            · exact Or.inl q
            · by_cases e : b = j
              · subst e; subst q1
                have : (ob &&& ao).testBit o = true := by rw [Nat.testBit_and, ho o h3, h4.2.2.1, h4.2.2.2]; rfl
                rw [hz, Nat.zero_testBit] at this
                cases this
              · exact Or.inr ⟨q1, by omega⟩))
      · rw [if_neg (show ¬ nI (ob &&& ao) = 0 from fun q => hz ((nI_eq (b := 0) (by omega) (by decide)).mp q)), pb_pow (by omega), pb_pow (by omega), pb_or, pb_or, pb_or, nI_1]
        exact ih fuel (j + 1) _ _ _ (by omega) (by omega) (nw_to (nw_add h hi (by omega) hbi hbj hob ho hz) (fun a b o h1 h2 h3 h4 => by
          unfold nw_pr
          omega))
theorem nw_33 {sn : Nat → Bool} {sf : Nat → Int32} {N as ap ao : Nat} {v1 v2 v3 : Int32} (hN : 5000 ≤ N) (hse : se_rep sn sf) (has : as < 65536) (hap : ap < 65536) (hao : ao < 65536) {f : Nat → Int32} :
    ∀ (k fuel i fS fP fO : Nat), i + k = 16 → k < fuel → nw_inv sn as ap ao (nw_pr i 0) fS fP fO →
    ∃ fS' fP' fO', nw_inv sn as ap ao (fun _ _ => True) fS' fP' fO' ∧ f_Sr_narrow_33 N sf v1 v2 v3 (nI as) (nI ap) (nI ao) fuel f (nI fS) (nI fP) (nI fO) (nI i) = f_Sr_narrow_135 N sf f v1 v2 v3 (nI fS') (nI fP') (nI fO') := by
  intro k
  induction k with
  | zero =>
    intro fuel i fS fP fO hi hf h
    obtain ⟨fuel, rfl⟩ : ∃ m, fuel = m + 1 := ⟨fuel - 1, by omega⟩
    rw [f_Sr_narrow_33.eq_2, if_pos (show 16 ≤ nI i from nI_le (a := 16) (by omega) (by omega))]
    exact ⟨fS, fP, fO, nw_to h (fun a b o h1 h2 h3 h4 => by unfold nw_pr; exact ⟨fun _ => trivial, fun _ => Or.inl (by omega)⟩), rfl⟩
  | succ k ih =>
    intro fuel i fS fP fO hi hf h
    obtain ⟨fuel, rfl⟩ : ∃ m, fuel = m + 1 := ⟨fuel - 1, by omega⟩
    rw [f_Sr_narrow_33.eq_2, if_neg (show ¬ 16 ≤ nI i from nI_ge (b := 16) (by omega) (by decide))]
    have eb := pb_bit0 (m := as) (k := i) (by omega) (by omega)
    cases hbi : as.testBit i with
    | false =>
      rw [if_pos (eb.mpr hbi), nI_1]
      exact ih fuel (i + 1) fS fP fO (by omega) (by omega) (nw_to h (fun a b o h1 h2 h3 h4 => by
        unfold nw_pr
        have : a ≠ i := fun e => by subst e; have := h4.1; rw [hbi] at this; cases this
        omega))
    | true =>
      rw [if_neg (fun q => by have := eb.mp q; rw [hbi] at this; cases this)]
      obtain ⟨a, b, c, h2, e⟩ := nw_56 (N := N) (v1 := v1) (v2 := v2) (v3 := v3) (r := f_Sr_narrow_33 N sf v1 v2 v3 (nI as) (nI ap) (nI ao) fuel) (f := f) hse has hap hao (by omega) hbi 8 N 0 fS fP fO (by omega) (by omega) h
      rw [show (0 : Int32) = nI 0 from rfl, e]
      exact ih fuel (i + 1) a b c (by omega) (by omega) h2

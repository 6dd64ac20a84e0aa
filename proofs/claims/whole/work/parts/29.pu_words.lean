/-! PURE ROWS 10: the words that extend finds are the words of the set of rows -/
def dg (k i : Nat) : Nat := k / 16 ^ (3 - i) % 16
def rO (sn : Nat → Bool) (op : Nat → Nat) (ps : List it_P) (k : Nat) : Bool := (List.range 4).all (fun i => (op i).testBit (dg k i)) && ps.all (pm sn (dg k))
def w1 (B : Nat → Bool) (g : Nat) : List Nat := if bm (fun u => B (16 * g + u)) 16 = 0 then [] else [g * 65536 + bm (fun u => B (16 * g + u)) 16]
def wd (B : Nat → Bool) : List Nat := (List.range 4096).flatMap (w1 B)
theorem rg_mul {α : Type} (g : Nat → List α) (b : Nat) : ∀ a, (List.range (a * b)).flatMap g = (List.range a).flatMap (fun z => (List.range b).flatMap (fun t => g (z * b + t))) := by
  intro a
  induction a with
  | zero => simp
  | succ a ih =>
    rw [Nat.succ_mul, List.range_add, List.flatMap_append, ih, List.range_succ, List.flatMap_append]
    congr 1
    simp [List.flatMap_map]
theorem pm_congr {sn : Nat → Bool} {v v' : Nat → Nat} {x : it_P} (h : ∀ j, it_has j x = true → v j = v' j) : pm sn v x = pm sn v' x := by
  have key : ∀ c, (∀ j, c = j + 16 → it_has j x = true) → it_v v c = it_v v' c := fun c hc => by
    unfold it_v
    split
    · rfl
    · exact h _ (hc (c - 16) (by omega))
  unfold pm
  rw [key x.1 (fun j e => by simp [it_has, e]), key x.2.1 (fun j e => by simp [it_has, e]), key x.2.2 (fun j e => by simp [it_has, e])]
theorem it_has4 {x : it_P} (h : it_ok x) {j : Nat} (hj : it_has j x = true) : j < 4 := by
  obtain ⟨h1, h2, h3⟩ := nw_lt20 h
  unfold it_has at hj
  simp only [Bool.or_eq_true, decide_eq_true_eq] at hj
  omega
theorem it_lv_le {x : it_P} (hx : it_ok x) {i j : Nat} (h : it_lv x i) (hj : it_has j x = true) : j ≤ i := by
  apply Classical.byContradiction
  intro q
  have := h.2 j (by omega) (it_has4 hx hj)
  rw [hj] at this
  cases this
theorem it_lv_or (x : it_P) : (∃ i, i < 4 ∧ it_lv x i) ∨ ∀ i, i < 4 → it_has i x = false := by
  cases h3 : it_has 3 x with
  | true => exact Or.inl ⟨3, by decide, h3, fun j h1 h2 => by omega⟩
  | false =>
    cases h2 : it_has 2 x with
    | true => exact Or.inl ⟨2, by decide, h2, fun j a b => by rw [show j = 3 by omega]; exact h3⟩
    | false =>
      cases h1 : it_has 1 x with
      | true => exact Or.inl ⟨1, by decide, h1, fun j a b => by rcases (show j = 2 ∨ j = 3 by omega) with q | q <;> subst q <;> assumption⟩
      | false =>
        cases h0 : it_has 0 x with
        | true => exact Or.inl ⟨0, by decide, h0, fun j a b => by rcases (show j = 1 ∨ j = 2 ∨ j = 3 by omega) with q | q | q <;> subst q <;> assumption⟩
        | false => exact Or.inr (fun j a => by rcases (show j = 0 ∨ j = 1 ∨ j = 2 ∨ j = 3 by omega) with q | q | q | q <;> subst q <;> assumption)
theorem dg_hi {g u j : Nat} (hu : u < 16) (hj : j < 3) : dg (16 * g + u) j = g / 16 ^ (2 - j) % 16 := by
  unfold dg
  rw [show 3 - j = (2 - j) + 1 by omega, Nat.pow_succ, Nat.mul_comm (16 ^ (2 - j)) 16, ← Nat.div_div_eq_div_mul, show (16 * g + u) / 16 = g by omega]
theorem dg_lo {g u : Nat} (hu : u < 16) : dg (16 * g + u) 3 = u := by
  unfold dg
  rw [show 3 - 3 = 0 from rfl, Nat.pow_zero, Nat.div_one]
  omega
theorem dg_pre {h t r j : Nat} (ht : t < 16 ^ r) (hj : j + r < 3) : (h * 16 ^ r + t) / 16 ^ (2 - j) % 16 = h / 16 ^ (2 - r - j) % 16 := by
  rw [show 2 - j = r + (2 - r - j) by omega, Nat.pow_add, ← Nat.div_div_eq_div_mul, Nat.add_comm, Nat.add_mul_div_right _ _ (Nat.pow_pos (by decide)), Nat.div_eq_of_lt ht, Nat.zero_add]
theorem rO_iff {sn : Nat → Bool} {op : Nat → Nat} {ps : List it_P} {k : Nat} : rO sn op ps k = true ↔ (∀ i, i < 4 → (op i).testBit (dg k i) = true) ∧ ∀ x ∈ ps, pm sn (dg k) x = true := by
  unfold rO
  rw [Bool.and_eq_true, List.all_eq_true, List.all_eq_true]
  exact ⟨fun q => ⟨fun i hi => q.1 i (List.mem_range.mpr hi), q.2⟩, fun q => ⟨fun i hi => q.1 i (List.mem_range.mp hi), q.2⟩⟩
theorem ex_words {sn : Nat → Bool} {op : Nat → Nat} {ps : List it_P} (hop : ∀ i, i < 4 → op i < 65536) (ok : qu_ok ps) (hc : ∀ x ∈ ps, (∀ i, i < 4 → it_has i x = false) → ∀ v, pm sn v x = true) :
    ∀ (r : Nat), r ≤ 3 → ∀ (v : Nat → Nat) (h : Nat), (∀ j, j < 3 - r → v j = h / 16 ^ (2 - r - j) % 16) → (∀ j, j < 3 - r → (op j).testBit (v j) = true ∧ ∀ x ∈ ps, it_lv x j → pm sn v x = true) →
    ex_w sn op ps r v h = (List.range (16 ^ r)).flatMap (fun t => w1 (rO sn op ps) (h * 16 ^ r + t)) := by
  intro r
  induction r with
  | zero =>
    intro _ v h hd hg
    rw [Nat.pow_zero, List.range_one]
    simp only [List.flatMap_cons, List.flatMap_nil, List.append_nil, Nat.mul_one, Nat.add_zero]
    have e : ex_ft sn op ps v 3 (op 3) ps = bm (fun u => rO sn op ps (16 * h + u)) 16 := by
      refine bm_eq (ex_ft_lt ps _ (hop 3 (by decide))) (fun u hu => ?_)
      have hdj : ∀ j, j < 3 → dg (16 * h + u) j = v j := fun j hj => by
        rw [dg_hi hu hj, hd j hj]
      rw [Bool.eq_iff_iff, ex_ft_bit ps _ u (hop 3 (by decide)) hu, rO_iff]
      constructor
      · rintro ⟨a, b⟩
        refine ⟨fun i hi => ?_, fun x hx => ?_⟩
        · by_cases e3 : i = 3
          · subst e3; rw [dg_lo hu]; exact a
          · rw [hdj i (by omega)]; exact (hg i (by omega)).1
        · rcases it_lv_or x with ⟨i, hi, hl⟩ | hn
          · by_cases e3 : i = 3
            · subst e3
              rw [pm_congr (v' := vs v 3 u) (fun j hj => ?_)]
              · exact b x hx hl
              · have := it_has4 (ok.2 x hx) hj
                by_cases ej : j = 3
                · subst ej; rw [dg_lo hu, vs_self]
                · rw [hdj j (by omega), vs_ne ej]
            · rw [pm_congr (v' := v) (fun j hj => hdj j (by have := it_lv_le (ok.2 x hx) hl hj; omega))]
              exact (hg i (by omega)).2 x hx hl
          · exact hc x hx hn _
      · rintro ⟨a, b⟩
        refine ⟨by have := a 3 (by decide); rw [dg_lo hu] at this; exact this, fun x hx hl => ?_⟩
        rw [← pm_congr (v := dg (16 * h + u)) (fun j hj => ?_)]
        · exact b x hx
        · have := it_has4 (ok.2 x hx) hj
          by_cases ej : j = 3
          · subst ej; rw [dg_lo hu, vs_self]
          · rw [hdj j (by omega), vs_ne ej]
    rw [ex_w, w1, e]
  | succ r ih =>
    intro hr v h hd hg
    have hi : 3 - (r + 1) = 2 - r := by omega
    have hi2 : 2 - (r + 1) = 1 - r := by omega
    rw [hi] at hd hg
    rw [ex_w, show 16 ^ (r + 1) = 16 * 16 ^ r by rw [Nat.pow_succ, Nat.mul_comm], rg_mul]
    rw [List.flatMap_def, List.flatMap_def]
    congr 1
    refine List.map_congr_left (fun z hz => ?_)
    rw [List.mem_range] at hz
    have eg : ∀ t, h * (16 * 16 ^ r) + (z * 16 ^ r + t) = (h * 16 + z) * 16 ^ r + t := fun t => by
      rw [Nat.add_mul, Nat.mul_assoc, Nat.add_assoc]
    have hdz : ∀ j, j < 3 - r → vs v (2 - r) z j = (h * 16 + z) / 16 ^ (2 - r - j) % 16 := fun j hj => by
      by_cases e : j = 2 - r
      · subst e
        rw [vs_self, Nat.sub_self, Nat.pow_zero, Nat.div_one]
        omega
      · rw [vs_ne e, hd j (by omega), hi2, show 2 - r - j = (1 - r - j) + 1 by omega, Nat.pow_succ, Nat.mul_comm (16 ^ (1 - r - j)) 16, ← Nat.div_div_eq_div_mul, show (h * 16 + z) / 16 = h by omega]
    have hbit := ex_ft_bit (sn := sn) (op := op) (ps := ps) (v := v) (i := 2 - r) ps (op (2 - r)) z (hop _ (by omega)) hz
    cases hb : (ex_ft sn op ps v (2 - r) (op (2 - r)) ps).testBit z with
    | true =>
      rw [if_pos rfl]
      obtain ⟨b1, b2⟩ := hbit.mp hb
      rw [ih (by omega) (vs v (2 - r) z) (h * 16 + z) hdz (fun j hj => by
        by_cases e : j = 2 - r
        · subst e; rw [vs_self]; exact ⟨b1, b2⟩
        · rw [vs_ne e]
          refine ⟨(hg j (by omega)).1, fun x hx hl => ?_⟩
          rw [pm_congr (v' := v) (fun q hq => vs_ne (by have := it_lv_le (ok.2 x hx) hl hq; omega))]
          exact (hg j (by omega)).2 x hx hl)]
      simp only [eg]
    | false =>
      rw [if_neg (by simp)]
      symm
      rw [List.flatMap_eq_nil_iff]
      intro t ht
      rw [List.mem_range] at ht
      rw [eg t, w1, if_pos]
      refine bm_zero.mpr (fun u hu => ?_)
      cases hro : rO sn op ps (16 * ((h * 16 + z) * 16 ^ r + t) + u) with
      | false => rfl
      | true =>
        exfalso
        obtain ⟨a, b⟩ := rO_iff.mp hro
        have hdj : ∀ j, j < 3 - r → dg (16 * ((h * 16 + z) * 16 ^ r + t) + u) j = vs v (2 - r) z j := fun j hj => by
          rw [dg_hi hu (by omega), dg_pre ht (by omega), hdz j hj]
        have : (ex_ft sn op ps v (2 - r) (op (2 - r)) ps).testBit z = true := hbit.mpr ⟨by
          have := a (2 - r) (by omega)
          rw [hdj (2 - r) (by omega), vs_self] at this
          exact this, fun x hx hl => by
          rw [← pm_congr (v := dg (16 * ((h * 16 + z) * 16 ^ r + t) + u)) (fun q hq => hdj q (by have := it_lv_le (ok.2 x hx) hl hq; omega))]
          exact b x hx⟩
        rw [hb] at this
        cases this
theorem ex_top {sn : Nat → Bool} {op : Nat → Nat} {ps : List it_P} (hop : ∀ i, i < 4 → op i < 65536) (ok : qu_ok ps) (hc : ∀ x ∈ ps, (∀ i, i < 4 → it_has i x = false) → ∀ v, pm sn v x = true) (v : Nat → Nat) : ex_w sn op ps 3 v 0 = wd (rO sn op ps) := by
  rw [ex_words hop ok hc 3 (Nat.le_refl _) v 0 (fun j hj => by omega) (fun j hj => by omega)]
  unfold wd
  simp

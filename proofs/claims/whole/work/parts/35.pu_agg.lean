/-! PURE ROWS 16: sums, the least and the greatest of a variable's numbers -/
theorem ag_50 {N V t : Nat} {S : Int32} {M : Nat} {f : Nat → Int32} {v1 v3 : Int32} {r : Int32 → Int32 → Option Int32} (hV : V < 65536) :
    ∀ (n fuel y a : Nat), y + n = 16 → n < fuel → f_Rs_sumOf_50 N S M f r v1 v3 (nI V) (nI t) fuel (nI a) (nI y) = r (nI (a + (((List.range' y n).filter (fun u => V.testBit u)).map (fun z => z * t)).sum)) (v3 + 1) := by
  intro n
  induction n with
  | zero =>
    intro fuel y a hy hf
    obtain ⟨fuel, rfl⟩ : ∃ m, fuel = m + 1 := ⟨fuel - 1, by omega⟩
    rw [f_Rs_sumOf_50.eq_2, if_pos (show 16 ≤ nI y from nI_le (a := 16) (by omega) (by omega))]
    simp
  | succ n ih =>
    intro fuel y a hy hf
    obtain ⟨fuel, rfl⟩ : ∃ m, fuel = m + 1 := ⟨fuel - 1, by omega⟩
    rw [f_Rs_sumOf_50.eq_2, if_neg (show ¬ 16 ≤ nI y from nI_ge (b := 16) (by omega) (by decide))]
    have hsh := pb_shr (m := V) (k := y) (by omega) (by omega)
    by_cases hz0 : V / 2 ^ y = 0
    · rw [if_pos (by rw [hsh, hz0]; rfl)]
      have : (List.range' y (n + 1)).filter (fun u => V.testBit u) = [] := by
        rw [List.filter_eq_nil_iff]
        intro z hz
        rw [List.mem_range'_1] at hz
        have : V.testBit z = false := by
          rw [Nat.div_eq_zero_iff] at hz0
          rcases hz0 with q | q
          · exact absurd q (Nat.ne_of_gt (Nat.two_pow_pos y))
          · exact Nat.testBit_lt_two_pow (Nat.lt_of_lt_of_le q (Nat.pow_le_pow_right (by decide) (by omega)))
        simp [this]
      rw [this]
      simp
    · have hlt : V / 2 ^ y ≤ V := Nat.div_le_self _ _
      rw [if_neg (show ¬ nI V >>> (nI y &&& 31) = 0 by rw [hsh]; exact nI_ne0 (Nat.pos_of_ne_zero hz0) (by omega)), pb_bit (by omega) (by omega), nI_1, List.range'_succ, List.filter_cons]
      have e : pu_b (V.testBit y) * nI y * nI t = nI (if V.testBit y = true then y * t else 0) := by
        cases V.testBit y with
        | false =>
          show nI 0 * nI y * nI t = _
          rw [pk_mul, pk_mul]; simp
        | true =>
          show nI 1 * nI y * nI t = _
          rw [pk_mul, pk_mul]; simp
      rw [e, nI_add, ih fuel (y + 1) _ (by omega) (by omega)]
      congr 2
      cases V.testBit y with
      | false => simp
      | true => simp; omega
/-- a variable's values in a word -/
def ag_v (w i : Nat) : Nat := if i < 3 then 2 ^ (w / 65536 / 16 ^ (2 - i) % 16) else w % 65536
theorem ag_valuesOf {w i : Nat} (hw : w < 4096 * 65536) (hi : i < 4) : f_Rs_valuesOf (nI w) (nI (i + 1)) = some (nI (ag_v w i)) ∧ ag_v w i < 65536 := by
  unfold f_Rs_valuesOf ag_v
  by_cases h : i < 3
  · rw [if_pos (show nI (i + 1) < 4 from nI_lt (b := 4) (by omega) (by decide)), if_pos h]
    have e1 : nI w >>> ((16 : Int32) &&& 31) = nI (w / 65536) := pb_shr (k := 16) (by omega) (by decide)
    have e2 : (4 : Int32) * (3 - nI (i + 1)) = nI (4 * (2 - i)) := by
      rw [show (3 : Int32) = nI 3 from rfl, pk_sub (by omega), show (4 : Int32) = nI 4 from rfl, pk_mul]
      congr 2
      omega
    have e3 : nI (w / 65536) >>> (nI (4 * (2 - i)) &&& 31) = nI (w / 65536 / 16 ^ (2 - i)) := by
      rw [pb_shr (by omega) (by omega), Nat.pow_mul]
    have e4 : nI (w / 65536 / 16 ^ (2 - i)) &&& 15 = nI (w / 65536 / 16 ^ (2 - i) % 16) := by
      show nI _ &&& nI 15 = _
      rw [pb_and, show (15 : Nat) = 2 ^ 4 - 1 from rfl, Nat.and_two_pow_sub_one_eq_mod]
    have hd : w / 65536 / 16 ^ (2 - i) % 16 < 16 := Nat.mod_lt _ (by decide)
    rw [e1, e2, e3, e4, pb_pow (by omega)]
    exact ⟨rfl, Nat.lt_of_lt_of_le (Nat.pow_lt_pow_right (by decide) hd) (by decide)⟩
  · rw [if_neg (show ¬ nI (i + 1) < 4 from nI_nlt (b := 4) (by omega) (by omega)), if_neg h, pb_mask]
    exact ⟨rfl, Nat.mod_lt _ (by decide)⟩
theorem ag_dg {w u i : Nat} (hu : u < 16) (hi : i < 3) : dg (w / 65536 * 16 + u) i = w / 65536 / 16 ^ (2 - i) % 16 := by
  rw [Nat.mul_comm]
  exact dg_hi hu hi
theorem ag_dg3 {w u : Nat} (hu : u < 16) : dg (w / 65536 * 16 + u) 3 = u := by
  rw [Nat.mul_comm]
  exact dg_lo hu
theorem bs_mem {m n u : Nat} : u ∈ bs m n ↔ u < n ∧ m.testBit u = true := by
  unfold bs
  rw [List.mem_filter, List.mem_range]
theorem bs_pow {d : Nat} (hd : d < 16) : bs (2 ^ d) 16 = [d] := by
  have : ∀ d, d < 16 → bs (2 ^ d) 16 = [d] := by decide +kernel
  exact this d hd
theorem ag_sum_const (l : List Nat) (c : Nat) : (l.map (fun _ => c)).sum = c * l.length := by
  induction l with
  | nil => simp
  | cons a l ih => rw [List.map_cons, List.sum_cons, ih, List.length_cons, Nat.mul_add]; omega
/-- what a word adds -/
theorem ag_word {w i : Nat} (hi : i < 4) : ((bs (ag_v w i) 16).map (fun z => z * (if i < 3 then (bs (w % 65536) 16).length else 1))).sum = ((kw w).map (fun k => dg k i)).sum := by
  unfold kw
  rw [List.map_map]
  by_cases h : i < 3
  · unfold ag_v
    rw [if_pos h, if_pos h, bs_pow (Nat.mod_lt _ (by decide))]
    have : (bs (w % 65536) 16).map ((fun k => dg k i) ∘ fun u => w / 65536 * 16 + u) = (bs (w % 65536) 16).map (fun _ => w / 65536 / 16 ^ (2 - i) % 16) := List.map_congr_left (fun u hu => ag_dg (bs_mem.mp hu).1 h)
    rw [this, ag_sum_const]
    simp
  · unfold ag_v
    rw [if_neg h, if_neg h]
    congr 1
    refine List.map_congr_left (fun u hu => ?_)
    rw [Nat.mul_one]
    show u = dg _ i
    rw [show i = 3 by omega, ag_dg3 (bs_mem.mp hu).1]
theorem ag_sum_4 {ws : List Nat} {S : Int32} {f : Nat → Int32} {N M i : Nat} (hN : 5000 ≤ N) (hi : i < 4) (hr : fd_rep ws S f) (hl : ws.length ≤ M) (hM : M ≤ 4096) (hw : ∀ w ∈ ws, w < 4096 * 65536) :
    ∀ (k fuel j a : Nat), j + k = ws.length → k < fuel → f_Rs_sumOf_4 N S M f (nI (i + 1)) fuel (nI a) (nI j) = some (nI (a + (((ws.drop j).flatMap kw).map (fun k => dg k i)).sum)) := by
  intro k
  induction k with
  | zero =>
    intro fuel j a hj hf
    obtain ⟨fuel, rfl⟩ : ∃ m, fuel = m + 1 := ⟨fuel - 1, by omega⟩
    rw [f_Rs_sumOf_4.eq_2, if_pos (by rw [hr.1]; exact nI_le (by omega) (by omega)), List.drop_eq_nil_of_le (by omega)]
    simp
  | succ k ih =>
    intro fuel j a hj hf
    obtain ⟨fuel, rfl⟩ : ∃ m, fuel = m + 1 := ⟨fuel - 1, by omega⟩
    have hjl : j < ws.length := by omega
    have hx : ws[j]? = some ws[j] := List.getElem?_eq_getElem hjl
    have hwl := hw ws[j] (List.getElem_mem _)
    obtain ⟨ev, lv⟩ := ag_valuesOf hwl hi
    have hin := pu_in (show j < M by omega) (by omega)
    have h50 : ∀ t : Nat, t = (if i < 3 then (bs (ws[j] % 65536) 16).length else 1) → f_Rs_sumOf_50 N S M f (f_Rs_sumOf_4 N S M f (nI (i + 1)) fuel) (nI (i + 1)) (nI j) (nI (ag_v ws[j] i)) (nI t) N (nI a) 0 = some (nI (a + (((ws.drop j).flatMap kw).map (fun k => dg k i)).sum)) := by
      intro t ht
      have e := ag_50 (N := N) (t := t) (S := S) (M := M) (f := f) (v1 := nI (i + 1)) (v3 := nI j) (r := f_Rs_sumOf_4 N S M f (nI (i + 1)) fuel) lv 16 N 0 a (by omega) (by omega)
      rw [← List.range_eq_range'] at e
      have e' : f_Rs_sumOf_50 N S M f (f_Rs_sumOf_4 N S M f (nI (i + 1)) fuel) (nI (i + 1)) (nI j) (nI (ag_v ws[j] i)) (nI t) N (nI a) 0 = f_Rs_sumOf_4 N S M f (nI (i + 1)) fuel (nI (a + ((bs (ag_v ws[j] i) 16).map (fun z => z * t)).sum)) (nI j + 1) := e
      rw [e', nI_1, ih fuel (j + 1) _ (by omega) (by omega), ht, ag_word hi, List.drop_eq_getElem_cons hjl, List.flatMap_cons, List.map_append, List.sum_append, Nat.add_assoc]
    rw [f_Rs_sumOf_4.eq_2, if_neg (by rw [hr.1]; exact nI_ge hjl (by omega)), if_pos hin, pu_cl (by omega), hr.2 j _ hx, ev, fn_s1]
    by_cases h : i < 3
    · rw [if_neg (show ¬ 4 ≤ nI (i + 1) from nI_ge (b := 4) (by omega) (by decide)), if_pos hin, pb_mask, ji_bitCount (Nat.mod_lt _ (by decide)), fn_s1]
      exact h50 _ (by rw [if_pos h])
    · rw [if_pos (show 4 ≤ nI (i + 1) from nI_le (a := 4) (by omega) (by omega))]
      exact h50 1 (by rw [if_neg h])
theorem rs_sumOf {B : Nat → Bool} {S : Int32} {f : Nat → Int32} {N i : Nat} (hN : 5000 ≤ N) (hi : i < 4) (hr : fd_rep (wd B) S f) : f_Rs_sumOf N S 4096 f (nI (i + 1)) = some (nI ((ks 65536 B).map (fun k => dg k i)).sum) := by
  have hl := wd_len B
  have := ag_sum_4 (N := N) hN hi hr hl (Nat.le_refl _) (fun w hw => wd_lt hw) (wd B).length N 0 0 (by omega) (by omega)
  rw [List.drop_zero, ← ks_wd, Nat.zero_add] at this
  exact this
theorem ag_all_4 {ws : List Nat} {S : Int32} {f : Nat → Int32} {N M i : Nat} (hi : i < 4) (hr : fd_rep ws S f) (hl : ws.length ≤ M) (hM : M ≤ 4096) (hw : ∀ w ∈ ws, w < 4096 * 65536) :
    ∀ (k fuel j a : Nat), j + k = ws.length → k < fuel → a < 65536 → ∃ V, V < 65536 ∧ f_Rs_allValuesOf_4 N S M f (nI (i + 1)) fuel (nI a) (nI j) = some (nI V) ∧ ∀ z, V.testBit z = true ↔ a.testBit z = true ∨ ∃ w ∈ ws.drop j, (ag_v w i).testBit z = true := by
  intro k
  induction k with
  | zero =>
    intro fuel j a hj hf ha
    obtain ⟨fuel, rfl⟩ : ∃ m, fuel = m + 1 := ⟨fuel - 1, by omega⟩
    rw [f_Rs_allValuesOf_4.eq_2, if_pos (by rw [hr.1]; exact nI_le (by omega) (by omega)), List.drop_eq_nil_of_le (by omega)]
    exact ⟨a, ha, rfl, fun z => by simp⟩
  | succ k ih =>
    intro fuel j a hj hf ha
    obtain ⟨fuel, rfl⟩ : ∃ m, fuel = m + 1 := ⟨fuel - 1, by omega⟩
    have hjl : j < ws.length := by omega
    have hx : ws[j]? = some ws[j] := List.getElem?_eq_getElem hjl
    have hwl := hw ws[j] (List.getElem_mem _)
    obtain ⟨ev, lv⟩ := ag_valuesOf hwl hi
    rw [f_Rs_allValuesOf_4.eq_2, if_neg (by rw [hr.1]; exact nI_ge hjl (by omega)), if_pos (pu_in (by omega) (by omega)), pu_cl (by omega), hr.2 j _ hx, ev, fn_s1, pb_or, nI_1]
    obtain ⟨V, h1, h2, h3⟩ := ih fuel (j + 1) (a ||| ag_v ws[j] i) (by omega) (by omega) (Nat.or_lt_two_pow (n := 16) ha lv)
    refine ⟨V, h1, h2, fun z => ?_⟩
    rw [h3 z, Nat.testBit_or, Bool.or_eq_true, List.drop_eq_getElem_cons hjl]
    constructor
    · rintro ((q | q) | ⟨w, hw1, hw2⟩)
      · exact Or.inl q
      · exact Or.inr ⟨_, List.mem_cons_self, q⟩
      · exact Or.inr ⟨w, List.mem_cons_of_mem _ hw1, hw2⟩
    · rintro (q | ⟨w, hw1, hw2⟩)
      · exact Or.inl (Or.inl q)
      · rcases List.mem_cons.mp hw1 with q | q
        · subst q; exact Or.inl (Or.inr hw2)
        · exact Or.inr ⟨w, q, hw2⟩
theorem rs_allValuesOf {B : Nat → Bool} {S : Int32} {f : Nat → Int32} {N i : Nat} (hN : 5000 ≤ N) (hi : i < 4) (hr : fd_rep (wd B) S f) : ∃ V, V < 65536 ∧ f_Rs_allValuesOf N S 4096 f (nI (i + 1)) = some (nI V) ∧ ∀ z, V.testBit z = true ↔ ∃ k ∈ ks 65536 B, dg k i = z := by
  have hl := wd_len B
  obtain ⟨V, h1, h2, h3⟩ := ag_all_4 (N := N) hi hr hl (Nat.le_refl _) (fun w hw => wd_lt hw) (wd B).length N 0 0 (by omega) (by omega) (by decide)
  refine ⟨V, h1, h2, fun z => ?_⟩
  rw [h3 z, ks_wd, List.drop_zero, Nat.zero_testBit]
  constructor
  · rintro (q | ⟨w, hw, hz⟩)
    · cases q
    · obtain ⟨g, hg, hz0, e⟩ := wd_mem.mp hw
      have hlt := bm_lt (fun u => B (16 * g + u)) 16
      have e1 : w / 65536 = g := by omega
      have e2 : w % 65536 = bm (fun u => B (16 * g + u)) 16 := by omega
      unfold ag_v at hz
      by_cases h : i < 3
      · rw [if_pos h, Nat.testBit_two_pow, decide_eq_true_eq] at hz
        -- some bit of the word
        obtain ⟨u, hu, hb⟩ : ∃ u, u < 16 ∧ (w % 65536).testBit u = true := by
          apply Classical.byContradiction
          intro hno
          apply hz0
          rw [← e2]
          refine bm_ext (k := 16) (Nat.mod_lt _ (by decide)) (by decide) (fun u hu => ?_)
          rw [Nat.zero_testBit]
          cases hb : (w % 65536).testBit u with
          | false => rfl
          | true => exact absurd ⟨u, hu, hb⟩ hno
        exact ⟨w / 65536 * 16 + u, List.mem_flatMap.mpr ⟨w, hw, List.mem_map.mpr ⟨u, bs_mem.mpr ⟨hu, hb⟩, rfl⟩⟩, by rw [ag_dg hu h]; exact hz⟩
      · rw [if_neg h] at hz
        have hz16 : z < 16 := by
          apply Classical.byContradiction
          intro q
          rw [Nat.testBit_lt_two_pow (Nat.lt_of_lt_of_le (Nat.mod_lt w (by decide : 65536 > 0)) (Nat.pow_le_pow_right (n := 2) (by decide) (by omega : 16 ≤ z)))] at hz
          cases hz
        exact ⟨w / 65536 * 16 + z, List.mem_flatMap.mpr ⟨w, hw, List.mem_map.mpr ⟨z, bs_mem.mpr ⟨hz16, hz⟩, rfl⟩⟩, by rw [show i = 3 by omega]; exact ag_dg3 hz16⟩
  · rintro ⟨k, hk, hz⟩
    obtain ⟨w, hw, hkw⟩ := List.mem_flatMap.mp hk
    unfold kw at hkw
    obtain ⟨u, hu, e⟩ := List.mem_map.mp hkw
    obtain ⟨hu16, hb⟩ := bs_mem.mp hu
    refine Or.inr ⟨w, hw, ?_⟩
    unfold ag_v
    by_cases h : i < 3
    · rw [if_pos h, Nat.testBit_two_pow, decide_eq_true_eq, ← hz, ← e, ag_dg hu16 h]
    · rw [if_neg h, ← hz, ← e, show i = 3 by omega, ag_dg3 hu16]
      exact hb
/-- the least and the greatest of a list of numbers -/
def ag_least (l : List Nat) (m : Nat) : Prop := m ∈ l ∧ ∀ d ∈ l, m ≤ d
def ag_great (l : List Nat) (m : Nat) : Prop := m ∈ l ∧ ∀ d ∈ l, d ≤ m
theorem ag_least_eq {l : List Nat} {a b : Nat} (h : ag_least l a) (h2 : ag_least l b) : a = b := Nat.le_antisymm (h.2 b h2.1) (h2.2 a h.1)
theorem ag_great_eq {l : List Nat} {a b : Nat} (h : ag_great l a) (h2 : ag_great l b) : a = b := Nat.le_antisymm (h2.2 a h.1) (h.2 b h2.1)
theorem bs_srt (m n : Nat) : (bs m n).Pairwise (· < ·) := List.Pairwise.filter _ List.pairwise_lt_range
theorem dg_lt (k i : Nat) : dg k i < 16 := Nat.mod_lt _ (by decide)
theorem ag_V0 {V : Nat} {l : List Nat} (hV : V < 65536) (h : ∀ z, V.testBit z = true ↔ ∃ k ∈ l, k = z) (hl : ∀ k ∈ l, k < 16) : V = 0 ↔ l = [] := by
  constructor
  · intro e
    cases l with
    | nil => rfl
    | cons a l =>
      have := (h a).mpr ⟨a, List.mem_cons_self, rfl⟩
      rw [e, Nat.zero_testBit] at this
      cases this
  · intro e
    subst e
    refine bm_ext (k := 16) hV (by decide) (fun i hi => ?_)
    rw [Nat.zero_testBit]
    cases hb : V.testBit i with
    | false => rfl
    | true => obtain ⟨k, hk, _⟩ := (h i).mp hb; cases hk
theorem ag_ends {V : Nat} {l : List Nat} (hV : V < 65536) (h : ∀ z, V.testBit z = true ↔ ∃ k ∈ l, k = z) (hl : ∀ k ∈ l, k < 16) (hne : ¬ l = []) : ag_least l (((bs V 16)[0]?).getD 0) ∧ 0 < (bs V 16).length ∧ ag_great l (((bs V 16)[(bs V 16).length - 1]?).getD 0) := by
  have hmem : ∀ z, z ∈ bs V 16 ↔ z ∈ l := fun z => by
    rw [bs_mem, h z]
    constructor
    · rintro ⟨_, k, hk, e⟩; rw [← e]; exact hk
    · intro hz; exact ⟨hl z hz, z, hz, rfl⟩
  have hs := bs_srt V 16
  have hpos : 0 < (bs V 16).length := by
    refine List.length_pos_iff.mpr (fun e => ?_)
    apply hne
    cases l with
    | nil => rfl
    | cons a l =>
      have := (hmem a).mpr List.mem_cons_self
      rw [e] at this
      cases this
  rw [List.pairwise_iff_getElem] at hs
  refine ⟨?_, hpos, ?_⟩
  · rw [List.getElem?_eq_getElem hpos]
    refine ⟨(hmem _).mp (List.getElem_mem _), fun d hd => ?_⟩
    obtain ⟨j, hj, e⟩ := List.getElem_of_mem ((hmem d).mpr hd)
    show (bs V 16)[0] ≤ d
    rw [← e]
    by_cases hj0 : j = 0
    · subst hj0; exact Nat.le_refl _
    · exact Nat.le_of_lt (hs 0 j hpos hj (by omega))
  · rw [List.getElem?_eq_getElem (by omega)]
    refine ⟨(hmem _).mp (List.getElem_mem _), fun d hd => ?_⟩
    obtain ⟨j, hj, e⟩ := List.getElem_of_mem ((hmem d).mpr hd)
    show d ≤ (bs V 16)[(bs V 16).length - 1]
    rw [← e]
    by_cases hj0 : j = (bs V 16).length - 1
    · subst hj0; exact Nat.le_refl _
    · exact Nat.le_of_lt (hs j _ hj (by omega) (by omega))
theorem rs_least {B : Nat → Bool} {S : Int32} {f : Nat → Int32} {N i : Nat} (hN : 5000 ≤ N) (hi : i < 4) (hr : fd_rep (wd B) S f) :
    ((ks 65536 B) = [] ∧ f_Rs_leastOf N S 4096 f (nI (i + 1)) = some (-2)) ∨ ∃ m, ag_least ((ks 65536 B).map (fun k => dg k i)) m ∧ f_Rs_leastOf N S 4096 f (nI (i + 1)) = some (nI m) := by
  obtain ⟨V, h1, h2, h3⟩ := rs_allValuesOf (N := N) hN hi hr
  have h3' : ∀ z, V.testBit z = true ↔ ∃ k ∈ (ks 65536 B).map (fun k => dg k i), k = z := fun z => by
    rw [h3 z]
    constructor
    · rintro ⟨k, hk, e⟩; exact ⟨_, List.mem_map.mpr ⟨k, hk, rfl⟩, e⟩
    · rintro ⟨d, hd, e⟩
      obtain ⟨k, hk, e2⟩ := List.mem_map.mp hd
      exact ⟨k, hk, by rw [e2]; exact e⟩
  have hl : ∀ k ∈ (ks 65536 B).map (fun k => dg k i), k < 16 := fun d hd => by
    obtain ⟨k, _, e⟩ := List.mem_map.mp hd
    rw [← e]; exact dg_lt _ _
  have h0 := ag_V0 h1 h3' hl
  unfold f_Rs_leastOf
  rw [h2, fn_s1]
  by_cases hv : V = 0
  · rw [if_pos (by rw [hv]; rfl)]
    exact Or.inl ⟨List.map_eq_nil_iff.mp (h0.mp hv), rfl⟩
  · rw [if_neg (nI_ne0 (by omega) (by omega))]
    obtain ⟨e1, _, _⟩ := ag_ends h1 h3' hl (fun q => hv (h0.mpr q))
    have hb : f_Rs_bitAt N (nI V) 0 = some (nI (((bs (V % 65536) 16)[0]?).getD 0)) := rs_bitAt (a := 0) hN (by omega) (by decide)
    rw [hb, fn_s1, Nat.mod_eq_of_lt h1]
    exact Or.inr ⟨_, e1, rfl⟩
theorem rs_greatest {B : Nat → Bool} {S : Int32} {f : Nat → Int32} {N i : Nat} (hN : 5000 ≤ N) (hi : i < 4) (hr : fd_rep (wd B) S f) :
    ((ks 65536 B) = [] ∧ f_Rs_greatestOf N S 4096 f (nI (i + 1)) = some (-2)) ∨ ∃ m, ag_great ((ks 65536 B).map (fun k => dg k i)) m ∧ f_Rs_greatestOf N S 4096 f (nI (i + 1)) = some (nI m) := by
  obtain ⟨V, h1, h2, h3⟩ := rs_allValuesOf (N := N) hN hi hr
  have h3' : ∀ z, V.testBit z = true ↔ ∃ k ∈ (ks 65536 B).map (fun k => dg k i), k = z := fun z => by
    rw [h3 z]
    constructor
    · rintro ⟨k, hk, e⟩; exact ⟨_, List.mem_map.mpr ⟨k, hk, rfl⟩, e⟩
    · rintro ⟨d, hd, e⟩
      obtain ⟨k, hk, e2⟩ := List.mem_map.mp hd
      exact ⟨k, hk, by rw [e2]; exact e⟩
  have hl : ∀ k ∈ (ks 65536 B).map (fun k => dg k i), k < 16 := fun d hd => by
    obtain ⟨k, _, e⟩ := List.mem_map.mp hd
    rw [← e]; exact dg_lt _ _
  have h0 := ag_V0 h1 h3' hl
  have hb16 : (bs V 16).length ≤ 16 := by
    unfold bs
    exact Nat.le_trans (List.length_filter_le _ _) (by simp)
  unfold f_Rs_greatestOf
  rw [h2, fn_s1]
  by_cases hv : V = 0
  · rw [if_pos (by rw [hv]; rfl)]
    exact Or.inl ⟨List.map_eq_nil_iff.mp (h0.mp hv), rfl⟩
  · rw [if_neg (nI_ne0 (by omega) (by omega)), ji_bitCount h1, fn_s1]
    obtain ⟨_, hp, e2⟩ := ag_ends h1 h3' hl (fun q => hv (h0.mpr q))
    have es : nI (bs V 16).length - 1 = nI ((bs V 16).length - 1) := pk_sub (b := 1) hp
    rw [es, rs_bitAt hN (by omega) (by omega), fn_s1, Nat.mod_eq_of_lt h1]
    exact Or.inr ⟨_, e2, rfl⟩

/-! PURE ROWS 9: extend finds the words of a level, in their order, up to the place that there is -/
theorem tk_app {α : Type} (a b : List α) (M : Nat) : (a.take M ++ b).take M = (a ++ b).take M := by
  rcases Nat.le_total a.length M with h | h
  · rw [List.take_of_length_le h]
  · rw [List.take_append_of_le_length (by rw [List.length_take]; omega), List.take_append_of_le_length h, List.take_take, Nat.min_self]
def ex_aft (N : Nat) (sf of : Nat → Int32) (M : Nat) (P : Int32) (I L : Nat → Int32) (self : (Nat → Int32) → Int32 → (Nat → Int32) → Int32 → Int32 → Option ((Nat → Int32) × Int32 × (Nat → Int32))) (v3 v4 : Int32) (vf : Nat → Int32) (S : Int32) (f : Nat → Int32) (v5 : Int32) : Option ((Nat → Int32) × Int32 × (Nat → Int32)) :=
  if v3 = 3 then (fn_b2 (f_Rs_add S M f v4 v5) (fun xS_74 xWf_74 => some (vf, xS_74, xWf_74))) else (f_Sr_extend_81 N sf of M P I L self v3 v4 v5 N vf S f 0)
theorem ex_21 {sn : Nat → Bool} {op : Nat → Nat} {ps : List it_P} {sf of I L f : Nat → Int32} {N M i : Nat} {P V S v4 : Int32} {v : Nat → Nat} {self : (Nat → Int32) → Int32 → (Nat → Int32) → Int32 → Int32 → Option ((Nat → Int32) × Int32 × (Nat → Int32))}
    (hN : 5000 ≤ N) (hse : se_rep sn sf) (hq : qu_rep ps P V I L) (ok : qu_ok ps) (hi : i < 4) (hv : ∀ j, j < i → v j < 16) :
    ∀ (n fuel k m : Nat) (vf : Nat → Int32), k + n = ps.length → n < fuel → m < 65536 → vl_rep v i vf →
    ∃ vf', vl_rep v i vf' ∧ f_Sr_extend_21 N sf of M P I L self (nI i) v4 fuel vf S f (nI m) (nI k) = ex_aft N sf of M P I L self (nI i) v4 vf' S f (nI (ex_ft sn op ps v i m (ps.drop k))) := by
  intro n
  have h3 := ok.1
  induction n with
  | zero =>
    intro fuel k m vf hk hf hm hr
    obtain ⟨fuel, rfl⟩ : ∃ m, fuel = m + 1 := ⟨fuel - 1, by omega⟩
    rw [f_Sr_extend_21.eq_2, if_pos (by rw [hq.1]; exact nI_le (by omega) (by omega)), List.drop_eq_nil_of_le (by omega), ex_ft]
    exact ⟨vf, hr, rfl⟩
  | succ n ih =>
    intro fuel k m vf hk hf hm hr
    obtain ⟨fuel, rfl⟩ : ∃ m, fuel = m + 1 := ⟨fuel - 1, by omega⟩
    have hkl : k < ps.length := by omega
    have hx : ps[k]? = some ps[k] := List.getElem?_eq_getElem hkl
    obtain ⟨i1, i2, i3, i4⟩ := hq.2.2 k _ hx
    have hok := ok.2 ps[k] (List.getElem_mem _)
    rw [f_Sr_extend_21.eq_2, if_neg (by rw [hq.1]; exact nI_ge hkl (by omega))]
    by_cases hm0 : m = 0
    · rw [if_pos (by rw [hm0]; rfl), hm0, ex_ft_zero]
      exact ⟨vf, hr, rfl⟩
    · rw [if_neg (nI_ne0 (by omega) (by omega)), if_pos (pu_in (by omega) (by decide)), pu_cl (by omega), List.drop_eq_getElem_cons hkl, ex_ft]
      by_cases hl : it_lv ps[k] i
      · rw [if_pos ((i4 i hi).mpr hl)]
        obtain ⟨vf1, e1, r1⟩ := fl_all (N := N) hN hse hok hi hm hv hl (by omega) ⟨i1, i2, i3⟩ hr
        rw [e1, fn_s2, nI_1]
        have eb : bm (fun z => m.testBit z && (!(it_has i ps[k] && (List.range 4).all (fun j => !(decide (i < j) && it_has j ps[k]))) || pm sn (vs v i z) ps[k])) 16 = bm (fun z => m.testBit z && pm sn (vs v i z) ps[k]) 16 := bm_congr (fun z _ => by rw [ex_lv.mpr hl]; simp)
        rw [eb]
        exact ih fuel (k + 1) _ vf1 (by omega) (by omega) (bm_lt _ 16) r1
      · rw [if_neg (fun q => hl ((i4 i hi).mp q)), nI_1]
        have eb : bm (fun z => m.testBit z && (!(it_has i ps[k] && (List.range 4).all (fun j => !(decide (i < j) && it_has j ps[k]))) || pm sn (vs v i z) ps[k])) 16 = m := by
          have hl2 : (it_has i ps[k] && (List.range 4).all (fun j => !(decide (i < j) && it_has j ps[k]))) = false := by
            rw [← Bool.not_eq_true]
            exact fun q => hl (ex_lv.mp q)
          exact (bm_eq hm (fun z hz => by rw [hl2]; simp)).symm
        rw [eb]
        exact ih fuel (k + 1) m vf (by omega) (by omega) hm hr
theorem ex_81 {sf of I L : Nat → Int32} {N M i h m : Nat} {P : Int32} {v : Nat → Nat} {self : (Nat → Int32) → Int32 → (Nat → Int32) → Int32 → Int32 → Option ((Nat → Int32) × Int32 × (Nat → Int32))} {E : (Nat → Nat) → Nat → List Nat}
    (hi : i < 3) (hm : m < 65536) (hv : ∀ j, j < i → v j < 16) (hM : M ≤ 4096) (hh : h < 256)
    (hself : ∀ (v' : Nat → Nat) (h' : Nat) (ws : List Nat) (vf : Nat → Int32) (S : Int32) (f : Nat → Int32), (∀ j, j < i + 1 → v' j < 16) → h' < 16 * h + 16 → vl_rep v' (i + 1) vf → fd_rep ws S f → ws.length ≤ M → ∃ vf' S' f', self vf S f (nI (i + 1)) (nI h') = some (vf', S', f') ∧ vl_rep v' (i + 1) vf' ∧ fd_rep ((ws ++ E v' h').take M) S' f') :
    ∀ (n fuel y : Nat) (ws : List Nat) (vf : Nat → Int32) (S : Int32) (f : Nat → Int32), y + n = 16 → n < fuel → vl_rep v i vf → fd_rep ws S f → ws.length ≤ M →
    ∃ vf' S' f', f_Sr_extend_81 N sf of M P I L self (nI i) (nI h) (nI m) fuel vf S f (nI y) = some (vf', S', f') ∧ vl_rep v i vf' ∧ fd_rep ((ws ++ (List.range' y n).flatMap (fun z => if m.testBit z = true then E (vs v i z) (h * 16 + z) else [])).take M) S' f' := by
  intro n
  induction n with
  | zero =>
    intro fuel y ws vf S f hy hf hr hd hl
    obtain ⟨fuel, rfl⟩ : ∃ m, fuel = m + 1 := ⟨fuel - 1, by omega⟩
    rw [f_Sr_extend_81.eq_2, if_pos (show 16 ≤ nI y from nI_le (a := 16) (by omega) (by omega))]
    refine ⟨vf, S, f, rfl, hr, ?_⟩
    rw [List.range'_zero, List.flatMap_nil, List.append_nil, List.take_of_length_le hl]
    exact hd
  | succ n ih =>
    intro fuel y ws vf S f hy hf hr hd hl
    obtain ⟨fuel, rfl⟩ : ∃ m, fuel = m + 1 := ⟨fuel - 1, by omega⟩
    rw [f_Sr_extend_81.eq_2, if_neg (show ¬ 16 ≤ nI y from nI_ge (b := 16) (by omega) (by decide))]
    have hsh := pb_shr (m := m) (k := y) (by omega) (by omega)
    have eb := pb_bit0 (m := m) (k := y) (by omega) (by omega)
    by_cases hz0 : m / 2 ^ y = 0
    · rw [if_pos (by rw [hsh, hz0]; rfl)]
      refine ⟨vf, S, f, rfl, hr, ?_⟩
      have : (List.range' y (n + 1)).flatMap (fun z => if m.testBit z = true then E (vs v i z) (h * 16 + z) else []) = [] := by
        rw [List.flatMap_eq_nil_iff]
        intro z hz
        rw [List.mem_range'_1] at hz
        have : m.testBit z = false := by
          rw [Nat.div_eq_zero_iff] at hz0
          rcases hz0 with q | q
          · exact absurd q (Nat.ne_of_gt (Nat.two_pow_pos y))
          · exact Nat.testBit_lt_two_pow (Nat.lt_of_lt_of_le q (Nat.pow_le_pow_right (by decide) (by omega)))
        simp [this]
      rw [this, List.append_nil, List.take_of_length_le hl]
      exact hd
    · have hlt : m / 2 ^ y ≤ m := Nat.div_le_self _ _
      rw [if_neg (show ¬ nI m >>> (nI y &&& 31) = 0 by rw [hsh]; exact nI_ne0 (Nat.pos_of_ne_zero hz0) (by omega))]
      unfold f_Rs_isFull
      by_cases hfull : ws.length < M
      · rw [if_pos (show S < Int32.ofNat M by rw [hd.1]; exact nI_lt hfull (by omega)), fn_s1, if_pos rfl, List.range'_succ, List.flatMap_cons]
        cases hb : m.testBit y with
        | false =>
          rw [if_pos (eb.mpr hb), nI_1]
          simp only [Bool.false_eq_true, if_false, List.nil_append]
          exact ih fuel (y + 1) ws vf S f (by omega) (by omega) hr hd hl
        | true =>
          have e1 : nI h * 16 + nI y = nI (h * 16 + y) := by rw [show (16 : Int32) = nI 16 from rfl, pk_mul, nI_add]
          rw [if_neg (fun q => by have := eb.mp q; rw [hb] at this; cases this), if_pos (pu_in (by omega) (by decide)), pu_cl (by omega), nI_1, e1]
          obtain ⟨vf1, S1, f1, e2, r1, d1⟩ := hself (vs v i y) (h * 16 + y) ws (upd vf i (nI y)) S f (fun j hj => by
            by_cases e : j = i
            · subst e; rw [vs_self]; omega
            · rw [vs_ne e]; exact hv j (by omega)) (by omega) (fun j hj => by
            by_cases e : j = i
            · subst e; rw [pk_us, vs_self]
            · rw [pk_un e, vs_ne e]; exact hr j (by omega)) hd hl
          rw [e2, fn_s3, nI_1]
          have r2 : vl_rep v i vf1 := fun j hj => by rw [r1 j (by omega), vs_ne (by omega)]
          obtain ⟨vf2, S2, f2, e3, r3, d3⟩ := ih fuel (y + 1) _ vf1 S1 f1 (by omega) (by omega) r2 d1 (by rw [List.length_take]; omega)
          refine ⟨vf2, S2, f2, e3, r3, ?_⟩
          rw [tk_app, List.append_assoc] at d3
          simp only [if_true]
          exact d3
      · rw [if_neg (show ¬ S < Int32.ofNat M by rw [hd.1]; exact nI_nlt (by omega) (by omega)), fn_s1, if_neg (by decide)]
        refine ⟨vf, S, f, rfl, hr, ?_⟩
        rw [List.take_append_of_le_length (by omega), List.take_of_length_le hl]
        exact hd
/-- the words below a valuation of the first 3 - r variables -/
def ex_w (sn : Nat → Bool) (op : Nat → Nat) (ps : List it_P) : Nat → (Nat → Nat) → Nat → List Nat
  | 0, v, h => if ex_ft sn op ps v 3 (op 3) ps = 0 then [] else [h * 65536 + ex_ft sn op ps v 3 (op 3) ps]
  | r + 1, v, h => (List.range 16).flatMap (fun z => if (ex_ft sn op ps v (2 - r) (op (2 - r)) ps).testBit z = true then ex_w sn op ps r (vs v (2 - r) z) (h * 16 + z) else [])
theorem ex_all {sn : Nat → Bool} {op : Nat → Nat} {ps : List it_P} {sf of I L : Nat → Int32} {N M : Nat} {P V : Int32} (hN : 5000 ≤ N) (hse : se_rep sn sf) (hop : op_rep op of) (hq : qu_rep ps P V I L) (ok : qu_ok ps) (hM : M ≤ 4096) :
    ∀ (r d : Nat), r ≤ 3 → r < d → ∀ (v : Nat → Nat) (h : Nat) (ws : List Nat) (vf : Nat → Int32) (S : Int32) (f : Nat → Int32), (∀ j, j < 3 - r → v j < 16) → h < 16 ^ (3 - r) → vl_rep v (3 - r) vf → fd_rep ws S f → ws.length ≤ M →
    ∃ vf' S' f', f_Sr_extend N sf of M P I L d vf S f (nI (3 - r)) (nI h) = some (vf', S', f') ∧ vl_rep v (3 - r) vf' ∧ fd_rep ((ws ++ ex_w sn op ps r v h).take M) S' f' := by
  intro r
  induction r with
  | zero =>
    intro d _ hd v h ws vf S f hv hh hr hf hl
    obtain ⟨d, rfl⟩ : ∃ m, d = m + 1 := ⟨d - 1, by omega⟩
    have hh : h < 4096 := hh
    have ho := hop 3 (by decide)
    rw [f_Sr_extend.eq_2, if_neg (nI_pos (by decide)), if_pos (show nI (3 - 0) < 4 by decide), if_pos (pu_in (by decide) (by decide)), pu_cl (by decide), ho.2]
    obtain ⟨vf1, r1, e1⟩ := ex_21 (N := N) (of := of) (op := op) (M := M) (S := S) (f := f) (v4 := nI h) (self := f_Sr_extend N sf of M P I L d) hN hse hq ok (show 3 < 4 by decide) hv ps.length N 0 (op 3) vf (by omega) (by have := ok.1; omega) ho.1 hr
    rw [show (0 : Int32) = nI 0 from rfl]
    rw [show nI (3 - 0) = nI 3 from rfl] at *
    rw [e1, List.drop_zero]
    unfold ex_aft
    rw [if_pos (show nI 3 = 3 from rfl)]
    obtain ⟨S1, f1, e2, d2⟩ := fd_add (M := M) (h := h) (b := ex_ft sn op ps v 3 (op 3) ps) hf hl hM hh (ex_ft_lt ps _ ho.1)
    rw [e2, fn_s2]
    exact ⟨vf1, S1, f1, rfl, r1, d2⟩
  | succ r ih =>
    intro d hr3 hd v h ws vf S f hv hh hr hf hl
    obtain ⟨d, rfl⟩ : ∃ m, d = m + 1 := ⟨d - 1, by omega⟩
    have hi : 3 - (r + 1) = 2 - r := by omega
    rw [hi] at hv hh hr ⊢
    have ho := hop (2 - r) (by omega)
    rw [f_Sr_extend.eq_2, if_neg (nI_pos (by omega)), if_pos (show nI (2 - r) < 4 from nI_lt (b := 4) (by omega) (by decide)), if_pos (pu_in (by omega) (by decide)), pu_cl (by omega), ho.2]
    obtain ⟨vf1, r1, e1⟩ := ex_21 (N := N) (of := of) (op := op) (M := M) (S := S) (f := f) (v4 := nI h) (self := f_Sr_extend N sf of M P I L d) hN hse hq ok (show 2 - r < 4 by omega) hv ps.length N 0 (op (2 - r)) vf (by omega) (by have := ok.1; omega) ho.1 hr
    rw [show (0 : Int32) = nI 0 from rfl, e1, List.drop_zero]
    unfold ex_aft
    rw [if_neg (show ¬ nI (2 - r) = 3 from fun q => by have := (nI_eq (a := 2 - r) (b := 3) (by omega) (by decide)).mp q; omega)]
    have hp : 16 ^ (2 - r) ≤ 256 := by
      rcases (show r = 0 ∨ r = 1 ∨ r = 2 by omega) with q | q | q <;> subst q <;> decide
    have hh2 : h < 256 := by omega
    have hpow : 16 ^ (3 - r) = 16 * 16 ^ (2 - r) := by
      rw [show 3 - r = (2 - r) + 1 by omega, Nat.pow_succ, Nat.mul_comm]
    obtain ⟨vf2, S2, f2, e2, r2, d2⟩ := ex_81 (N := N) (sf := sf) (of := of) (I := I) (L := L) (P := P) (M := M) (i := 2 - r) (h := h) (m := ex_ft sn op ps v (2 - r) (op (2 - r)) ps) (v := v) (self := f_Sr_extend N sf of M P I L d) (E := ex_w sn op ps r) (by omega) (ex_ft_lt ps _ ho.1) hv hM hh2 (fun v' h' ws' vf' S' f' a1 a2 a3 a4 a5 => by
      have e3 : 2 - r + 1 = 3 - r := by omega
      rw [e3] at a1 a3 ⊢
      exact ih d (by omega) (by omega) v' h' ws' vf' S' f' a1 (by omega) a3 a4 a5) 16 N 0 ws vf1 S f (by omega) (by omega) r1 hf hl
    refine ⟨vf2, S2, f2, e2, r2, ?_⟩
    rw [ex_w, List.range_eq_range']
    exact d2

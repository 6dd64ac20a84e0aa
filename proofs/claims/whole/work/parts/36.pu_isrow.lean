/-! PURE ROWS 17: the model's isRow and stands -/
/-- a question in the model, at place q -/
def mq_rep (q : Nat) (ps : List it_P) (Pc It : Nat → Int32) : Prop := Pc q = nI ps.length ∧ ∀ k x, ps[k]? = some x → It (9 * q + 3 * k) = it_I x.1 ∧ It (9 * q + 3 * k + 1) = it_I x.2.1 ∧ It (9 * q + 3 * k + 2) = it_I x.2.2
def mv_rep (v : Nat → Nat) (Va : Nat → Int32) : Prop := ∀ i, i < 4 → Va (i + 1) = nI (v i)
theorem mq_valueOf {v : Nat → Nat} {Va : Nat → Int32} {c : Nat} (h : mv_rep v Va) (hc : c < 20) : f_M_valueOf Va (it_I c) = some (nI (it_v v c)) := by
  unfold f_M_valueOf it_v
  by_cases h1 : c < 16
  · rw [it_con h1, if_neg (nI_pos (by omega)), if_pos h1]
  · obtain ⟨w, rfl⟩ : ∃ w, c = w + 16 := ⟨c - 16, by omega⟩
    have hw : w < 4 := by omega
    rw [it_var, if_pos (it_lt0 w hw), it_neg w hw, if_pos (pu_in (by omega) (by decide)), pu_cl (by omega), if_neg h1, Nat.add_sub_cancel, h w hw]
theorem it_v16 {v : Nat → Nat} {c : Nat} (hv : ∀ i, i < 4 → v i < 16) (hc : c < 20) : it_v v c < 16 := by
  unfold it_v
  split
  · assumption
  · exact hv _ (by omega)
theorem mq_triple {s p o : Nat} : f_M_triple (nI s) (nI p) (nI o) = some (nI (128 * s + 16 * p + o)) := by
  unfold f_M_triple
  rw [show (128 : Int32) = nI 128 from rfl, show (16 : Int32) = nI 16 from rfl, pk_mul, pk_mul, nI_add, nI_add]
theorem mq_isRow_2 {sn : Nat → Bool} {ps : List it_P} {q N : Nat} {Pc It Se Va : Nat → Int32} {v : Nat → Nat} (hq : q < 12) (h : mq_rep q ps Pc It) (ok : qu_ok ps) (hv : mv_rep v Va) (hv16 : ∀ i, i < 4 → v i < 16) (hse : ∀ t, t < 2048 → Se t = pu_b (sn t)) :
    ∀ (n fuel k : Nat), k + n = ps.length → n < fuel → f_M_isRow_2 N Pc It Se Va (nI q) fuel (nI k) = some (pu_b ((ps.drop k).all (pm sn v))) := by
  intro n
  have h3 := ok.1
  induction n with
  | zero =>
    intro fuel k hk hf
    obtain ⟨fuel, rfl⟩ : ∃ m, fuel = m + 1 := ⟨fuel - 1, by omega⟩
    rw [f_M_isRow_2.eq_2, if_pos (pu_in hq (by decide)), pu_cl (by omega), h.1, if_pos (nI_le (by omega) (by omega)), List.drop_eq_nil_of_le (by omega)]
    rfl
  | succ n ih =>
    intro fuel k hk hf
    obtain ⟨fuel, rfl⟩ : ∃ m, fuel = m + 1 := ⟨fuel - 1, by omega⟩
    have hkl : k < ps.length := by omega
    have hx : ps[k]? = some ps[k] := List.getElem?_eq_getElem hkl
    obtain ⟨i1, i2, i3⟩ := h.2 k _ hx
    have hok := ok.2 ps[k] (List.getElem_mem _)
    obtain ⟨hs, hp, ho⟩ := nw_lt20 hok
    have e0 : (9 : Int32) * nI q + 3 * nI k = nI (9 * q + 3 * k) := by rw [show (9 : Int32) = nI 9 from rfl, show (3 : Int32) = nI 3 from rfl, pk_mul, pk_mul, nI_add]
    have e1 : nI (9 * q + 3 * k) + 1 = nI (9 * q + 3 * k + 1) := nI_1 _
    have e2 : nI (9 * q + 3 * k) + 2 = nI (9 * q + 3 * k + 2) := by rw [show (2 : Int32) = nI 2 from rfl, nI_add]
    have ls := it_v16 hv16 hs
    have lp := it_v16 hv16 hp
    have lo := it_v16 hv16 ho
    rw [f_M_isRow_2.eq_2, if_pos (pu_in hq (by decide)), pu_cl (by omega), h.1, if_neg (nI_ge hkl (by omega)), e0, e1, e2, if_pos (pu_in (by omega) (by decide)), pu_cl (by omega), i2, mq_valueOf hv hp, fn_s1, List.drop_eq_getElem_cons hkl, List.all_cons]
    by_cases h7 : it_v v ps[k].2.1 < 8
    · rw [if_neg (show ¬ 7 < nI (it_v v ps[k].2.1) from nI_nlt (a := 7) (by omega) (by decide)), if_pos (pu_in (by omega) (by decide)), pu_cl (by omega), i1, mq_valueOf hv hs, fn_s1, if_pos (pu_in (by omega) (by decide)), pu_cl (by omega), i3, mq_valueOf hv ho, fn_s1, mq_triple, fn_s1, if_pos (pu_in (by omega) (by decide)), pu_cl (by omega), hse _ (by omega), nI_1]
      have epm : pm sn v ps[k] = sn (128 * it_v v ps[k].1 + 16 * it_v v ps[k].2.1 + it_v v ps[k].2.2) := by
        unfold pm; simp [h7]
      rw [epm]
      cases sn (128 * it_v v ps[k].1 + 16 * it_v v ps[k].2.1 + it_v v ps[k].2.2) with
      | false => rw [if_pos (by rfl)]; rfl
      | true => rw [if_neg pu_b1, ih fuel (k + 1) (by omega) (by omega), Bool.true_and]
    · rw [if_pos (show 7 < nI (it_v v ps[k].2.1) from nI_lt (a := 7) (by omega) (by omega))]
      have epm : pm sn v ps[k] = false := by unfold pm; simp [h7]
      rw [epm]
      rfl
theorem mq_isRow {sn : Nat → Bool} {ps : List it_P} {q N : Nat} {Pc It Se Va : Nat → Int32} {v : Nat → Nat} (hN : 5000 ≤ N) (hq : q < 12) (h : mq_rep q ps Pc It) (ok : qu_ok ps) (hv : mv_rep v Va) (hv16 : ∀ i, i < 4 → v i < 16) (hse : ∀ t, t < 2048 → Se t = pu_b (sn t)) :
    f_M_isRow N Pc It Se Va (nI q) = some (pu_b (ps.all (pm sn v))) := by
  have := mq_isRow_2 (N := N) hq h ok hv hv16 hse ps.length N 0 (by omega) (by have := ok.1; omega)
  rw [List.drop_zero] at this
  exact this
/-- the item at place t of the patterns, one behind the other -/
def it_at (ps : List it_P) (t : Nat) : Option Nat := (ps[t / 3]?).map (fun x => if t % 3 = 0 then x.1 else if t % 3 = 1 then x.2.1 else x.2.2)
theorem it_sd_at {ps : List it_P} {i : Nat} : it_sd ps i = true ↔ ∃ t, it_at ps t = some (i + 16) := by
  unfold it_sd
  rw [List.any_eq_true]
  constructor
  · rintro ⟨x, hx, hh⟩
    obtain ⟨k, hk⟩ := List.getElem?_of_mem hx
    unfold it_has at hh
    simp only [Bool.or_eq_true, decide_eq_true_eq] at hh
    rcases hh with (q | q) | q
    · refine ⟨3 * k, ?_⟩
      unfold it_at
      rw [show 3 * k / 3 = k by omega, hk, Option.map_some, if_pos (by omega), q]
    · refine ⟨3 * k + 1, ?_⟩
      unfold it_at
      rw [show (3 * k + 1) / 3 = k by omega, hk, Option.map_some, if_neg (by omega), if_pos (by omega), q]
    · refine ⟨3 * k + 2, ?_⟩
      unfold it_at
      rw [show (3 * k + 2) / 3 = k by omega, hk, Option.map_some, if_neg (by omega), if_neg (by omega), q]
  · rintro ⟨t, ht⟩
    unfold it_at at ht
    cases hk : ps[t / 3]? with
    | none => rw [hk] at ht; cases ht
    | some x =>
      rw [hk, Option.map_some] at ht
      refine ⟨x, List.mem_of_getElem? hk, ?_⟩
      unfold it_has
      simp only [Bool.or_eq_true, decide_eq_true_eq]
      have ht := Option.some.inj ht
      split at ht
      · exact Or.inl (Or.inl ht)
      · split at ht
        · exact Or.inl (Or.inr ht)
        · exact Or.inr ht
theorem mq_stands_5 {ps : List it_P} {q N i : Nat} {Pc It : Nat → Int32} (hq : q < 12) (h : mq_rep q ps Pc It) (ok : qu_ok ps) (hi : i < 4) :
    ∀ (n fuel t : Nat) (b : Bool), t + n = 3 * ps.length → n < fuel → (b = true ↔ ∃ s, s < t ∧ it_at ps s = some (i + 16)) → f_M_stands_5 N Pc It (nI q) (nI (i + 1)) fuel (pu_b b) (nI t) = some (pu_b (it_sd ps i)) := by
  intro n
  have h3 := ok.1
  induction n with
  | zero =>
    intro fuel t b ht hf hb
    obtain ⟨fuel, rfl⟩ : ∃ m, fuel = m + 1 := ⟨fuel - 1, by omega⟩
    have e0 : (3 : Int32) * nI ps.length = nI (3 * ps.length) := pk_mul 3 _
    rw [f_M_stands_5.eq_2, if_pos (pu_in hq (by decide)), pu_cl (by omega), h.1, e0, if_pos (nI_le (by omega) (by omega)), if_pos (pu_bz b)]
    have : b = it_sd ps i := by
      rw [Bool.eq_iff_iff, hb, it_sd_at]
      constructor
      · rintro ⟨s, _, e⟩; exact ⟨s, e⟩
      · rintro ⟨s, e⟩
        refine ⟨s, ?_, e⟩
        unfold it_at at e
        cases hk : ps[s / 3]? with
        | none => rw [hk] at e; cases e
        | some x => have := (List.getElem?_eq_some_iff.mp hk).1; omega
    rw [this]
  | succ n ih =>
    intro fuel t b ht hf hb
    obtain ⟨fuel, rfl⟩ : ∃ m, fuel = m + 1 := ⟨fuel - 1, by omega⟩
    have e0 : (3 : Int32) * nI ps.length = nI (3 * ps.length) := pk_mul 3 _
    have e1 : (9 : Int32) * nI q + nI t = nI (9 * q + t) := by rw [show (9 : Int32) = nI 9 from rfl, pk_mul, nI_add]
    have hkl : t / 3 < ps.length := by omega
    have hx : ps[t / 3]? = some ps[t / 3] := List.getElem?_eq_getElem hkl
    obtain ⟨i1, i2, i3⟩ := h.2 _ _ hx
    have hok := ok.2 ps[t / 3] (List.getElem_mem _)
    obtain ⟨hs, hp, ho⟩ := nw_lt20 hok
    obtain ⟨c, hc, hat, hit⟩ : ∃ c, c < 20 ∧ it_at ps t = some c ∧ It (9 * q + t) = it_I c := by
      unfold it_at
      rw [hx, Option.map_some]
      rcases (show t % 3 = 0 ∨ t % 3 = 1 ∨ t % 3 = 2 by omega) with r | r | r
      · exact ⟨_, hs, by rw [if_pos r], by rw [← i1]; congr 1; omega⟩
      · exact ⟨_, hp, by rw [if_neg (by omega), if_pos r], by rw [← i2]; congr 1; omega⟩
      · exact ⟨_, ho, by rw [if_neg (by omega), if_neg (by omega)], by rw [← i3]; congr 1; omega⟩
    have en : -nI (i + 1) = it_I (i + 16) := by
      rw [it_var]
      exact (by decide +kernel : ∀ i, i < 4 → -nI (i + 1) = (-1 : Int32) - nI i) i hi
    rw [f_M_stands_5.eq_2, if_pos (pu_in hq (by decide)), pu_cl (by omega), h.1, e0, if_neg (nI_ge (by omega) (by omega)), e1, if_pos (pu_in (by omega) (by decide)), pu_cl (by omega), hit, en, nI_1]
    have step : ∀ b' : Bool, (b' = true ↔ ∃ s, s < t + 1 ∧ it_at ps s = some (i + 16)) → f_M_stands_5 N Pc It (nI q) (nI (i + 1)) fuel (pu_b b') (nI (t + 1)) = some (pu_b (it_sd ps i)) := fun b' hb' => ih fuel (t + 1) b' (by omega) (by omega) hb'
    cases b with
    | true =>
      rw [if_neg pu_b1]
      obtain ⟨s, hs1, hs2⟩ := hb.mp rfl
      exact step true ⟨fun _ => ⟨s, by omega, hs2⟩, fun _ => rfl⟩
    | false =>
      rw [if_pos (by rfl)]
      by_cases ec : c = i + 16
      · rw [if_pos (by rw [ec])]
        exact step true ⟨fun _ => ⟨t, by omega, by rw [hat, ec]⟩, fun _ => rfl⟩
      · rw [if_neg (fun z => ec (it_inj c hc (i + 16) (by omega) z))]
        refine step false ⟨(fun z => by cases z), fun ⟨s, hs1, hs2⟩ => ?_⟩
        by_cases es : s = t
        · subst es; rw [hat] at hs2; exact absurd (Option.some.inj hs2) ec
        · exact hb.mpr ⟨s, by omega, hs2⟩
theorem mq_stands {ps : List it_P} {q N i : Nat} {Pc It : Nat → Int32} (hN : 5000 ≤ N) (hq : q < 12) (h : mq_rep q ps Pc It) (ok : qu_ok ps) (hi : i < 4) : f_M_stands N Pc It (nI q) (nI (i + 1)) = some (pu_b (it_sd ps i)) :=
  mq_stands_5 (N := N) hq h ok hi (3 * ps.length) N 0 false (by omega) (by have := ok.1; omega) ⟨(fun z => by cases z), fun ⟨s, hs, _⟩ => by omega⟩

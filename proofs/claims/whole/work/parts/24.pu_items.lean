/-! PURE ROWS 5: items, patterns, questions. An item is a number: below 16 itself, from 16 on the variables 0 .. 3 -/
def it_I (c : Nat) : Int32 := if c < 16 then nI c else (-1) - nI (c - 16)
def it_v (v : Nat → Nat) (c : Nat) : Nat := if c < 16 then c else v (c - 16)
abbrev it_P : Type := Nat × Nat × Nat
def it_ok (x : it_P) : Prop := x.1 < 20 ∧ (x.2.1 < 8 ∨ (16 ≤ x.2.1 ∧ x.2.1 < 20)) ∧ x.2.2 < 20
theorem it_con {c : Nat} (h : c < 16) : it_I c = nI c := if_pos h
theorem it_var {v : Nat} : it_I (v + 16) = (-1) - nI v := by
  unfold it_I
  rw [if_neg (by omega), Nat.add_sub_cancel]
theorem it_m1c : ∀ c, c < 16 → (-1 : Int32) - nI c < 0 := by decide +kernel
theorem it_m1v : ∀ v, v < 4 → (-1 : Int32) - ((-1) - nI v) = nI v := by decide +kernel
theorem it_neg : ∀ v, v < 4 → -((-1 : Int32) - nI v) = nI (v + 1) := by decide +kernel
theorem it_lt0 : ∀ v, v < 4 → ((-1 : Int32) - nI v) < 0 := by decide +kernel
theorem it_inj : ∀ a, a < 20 → ∀ b, b < 20 → it_I a = it_I b → a = b := by decide +kernel
/-- an item out of an int -/
theorem it_of {x : Int32} {M : Int32} {n : Nat} (hM : M.toInt = (n : Int)) (hn : n ≤ 16) (h1 : ¬ x < (-4)) (h2 : ¬ M ≤ x) : ∃ c, c < 20 ∧ (c < n ∨ 16 ≤ c) ∧ x = it_I c := by
  rw [Int32.lt_iff_toInt_lt, show (-4 : Int32).toInt = -4 by decide] at h1
  rw [Int32.le_iff_toInt_le, hM] at h2
  by_cases h0 : 0 ≤ x.toInt
  · refine ⟨x.toInt.toNat, by omega, by omega, ?_⟩
    rw [it_con (by omega)]
    apply Int32.toInt_inj.mp
    rw [nI_toInt (by omega)]
    omega
  · obtain ⟨v, hv, e⟩ : ∃ v : Nat, v < 4 ∧ x.toInt = -1 - (v : Int) := ⟨(-1 - x.toInt).toNat, by omega, by omega⟩
    refine ⟨v + 16, by omega, by omega, ?_⟩
    rw [it_var]
    apply Int32.toInt_inj.mp
    rw [e]
    exact ((by decide +kernel : ∀ v, v < 4 → ((-1 : Int32) - nI v).toInt = -1 - (v : Int)) v hv).symm
/-- stands a variable in the patterns -/
def it_has (i : Nat) (x : it_P) : Bool := decide (x.1 = i + 16) || decide (x.2.1 = i + 16) || decide (x.2.2 = i + 16)
def it_sd (ps : List it_P) (i : Nat) : Bool := ps.any (it_has i)
/-- the greatest variable of a pattern -/
def it_lv (x : it_P) (i : Nat) : Prop := it_has i x = true ∧ ∀ j, i < j → j < 4 → it_has j x = false
/-- a question in the class -/
def qu_rep (ps : List it_P) (P V : Int32) (I L : Nat → Int32) : Prop := P = nI ps.length ∧ V = nI (bm (it_sd ps) 4) ∧
  ∀ k x, ps[k]? = some x → I (3 * k) = it_I x.1 ∧ I (3 * k + 1) = it_I x.2.1 ∧ I (3 * k + 2) = it_I x.2.2 ∧ ∀ i, i < 4 → (L k = nI i ↔ it_lv x i)
def qu_ok (ps : List it_P) : Prop := ps.length ≤ 3 ∧ ∀ x ∈ ps, it_ok x
theorem qu_itemAt {I : Nat → Int32} {k j : Nat} (hk : k < 3) (hj : j < 3) : f_Qu_itemAt I (nI k) (nI j) = some (I (3 * k + j)) := by
  have e : nI k * 3 + nI j = nI (3 * k + j) := by
    rw [show (3 : Int32) = nI 3 from rfl, pk_mul, nI_add, Nat.mul_comm]
  unfold f_Qu_itemAt
  rw [e, if_neg (nI_pos (by omega)), if_neg (show ¬ Int32.ofNat 9 ≤ nI (3 * k + j) from nI_ge (b := 9) (by omega) (by decide)), if_pos (pu_in (by omega) (by decide)), pu_cl (by omega)]
theorem qu_uses {g : Nat → Bool} {i : Nat} (hi : i < 4) : f_Qu_uses (nI (bm g 4)) (nI i) = some (pu_b (g i)) := by
  have hlt := bm_lt g 4
  unfold f_Qu_uses
  have e := pb_bit0 (m := bm g 4) (k := i) (by omega) (by omega)
  rw [bm_bit] at e
  cases hg : g i with
  | false => rw [if_pos (e.mpr (by simp [hg]))]; rfl
  | true => rw [if_neg (fun q => by have := e.mp q; simp [hg, hi] at this)]; rfl
theorem qu_use {g : Nat → Bool} {c : Nat} (hc : c < 20) : f_Qu_use (nI (bm g 4)) (it_I c) = some (nI (bm (fun i => g i || decide (c = i + 16)) 4)) := by
  unfold f_Qu_use
  by_cases h : c < 16
  · rw [it_con h, if_pos (nI_pos' (by omega))]
    congr 2
    refine bm_congr (fun i _ => ?_)
    rw [decide_eq_false (by omega)]
    simp
  · obtain ⟨v, rfl⟩ : ∃ v, c = v + 16 := ⟨c - 16, by omega⟩
    have hv : v < 4 := by omega
    rw [it_var, if_neg (fun q => by have := it_lt0 v hv; rw [Int32.lt_iff_toInt_lt] at this; rw [Int32.le_iff_toInt_le] at q; omega), it_m1v v hv, pb_pow (by omega), pb_or]
    congr 2
    refine bm_eq (Nat.or_lt_two_pow (bm_lt g 4) (Nat.pow_lt_pow_right (by decide) hv)) (fun i hi => ?_)
    rw [Nat.testBit_or, bm_bit, Nat.testBit_two_pow]
    have : decide (v + 16 = i + 16) = decide (v = i) := decide_eq_decide.mpr (by omega)
    simp [hi, this]
/-! the least item is the greatest variable -/
def it_mn (a b c : Nat) : Int32 := (-1 : Int32) - (if (if it_I c < it_I b then it_I c else it_I b) < it_I a then (if it_I c < it_I b then it_I c else it_I b) else it_I a)
theorem it_toInt : ∀ a, a < 20 → (it_I a).toInt = if a < 16 then (a : Int) else 15 - (a : Int) := by decide +kernel
theorem it_mn_toInt : ∀ a, a < 20 → ((-1 : Int32) - it_I a).toInt = -1 - (it_I a).toInt := by decide +kernel
theorem it_min {a b c i : Nat} (ha : a < 20) (hb : b < 20) (hc : c < 20) (hi : i < 4) : it_mn a b c = nI i ↔ it_lv (a, b, c) i := by
  have ea := it_toInt a ha
  have eb := it_toInt b hb
  have ec := it_toInt c hc
  have key : ∃ m : Nat, m < 20 ∧ (m = a ∨ m = b ∨ m = c) ∧ it_mn a b c = (-1 : Int32) - it_I m ∧ (it_I m).toInt ≤ (it_I a).toInt ∧ (it_I m).toInt ≤ (it_I b).toInt ∧ (it_I m).toInt ≤ (it_I c).toInt := by
    unfold it_mn
    by_cases h1 : it_I c < it_I b
    · rw [if_pos h1]
      have h1' := Int32.lt_iff_toInt_lt.mp h1
      by_cases h2 : it_I c < it_I a
      · rw [if_pos h2]
        have h2' := Int32.lt_iff_toInt_lt.mp h2
        exact ⟨c, hc, by omega, rfl, by omega, by omega, by omega⟩
      · rw [if_neg h2]
        have h2' : ¬ (it_I c).toInt < (it_I a).toInt := fun q => h2 (Int32.lt_iff_toInt_lt.mpr q)
        exact ⟨a, ha, by omega, rfl, by omega, by omega, by omega⟩
    · rw [if_neg h1]
      have h1' : ¬ (it_I c).toInt < (it_I b).toInt := fun q => h1 (Int32.lt_iff_toInt_lt.mpr q)
      by_cases h2 : it_I b < it_I a
      · rw [if_pos h2]
        have h2' := Int32.lt_iff_toInt_lt.mp h2
        exact ⟨b, hb, by omega, rfl, by omega, by omega, by omega⟩
      · rw [if_neg h2]
        have h2' : ¬ (it_I b).toInt < (it_I a).toInt := fun q => h2 (Int32.lt_iff_toInt_lt.mpr q)
        exact ⟨a, ha, by omega, rfl, by omega, by omega, by omega⟩
  obtain ⟨m, hm, hmm, e, l1, l2, l3⟩ := key
  have em := it_toInt m hm
  have e2 : it_mn a b c = nI i ↔ (m : Int) = 16 + i := by
    rw [e, ← Int32.toInt_inj, it_mn_toInt m hm, nI_toInt (by omega), em]
    split <;> omega
  rw [e2]
  unfold it_lv it_has
  simp only [Bool.or_eq_true, decide_eq_true_eq, Bool.or_eq_false_iff, decide_eq_false_iff_not]
  rw [em] at l1 l2 l3
  rw [ea] at l1
  rw [eb] at l2
  rw [ec] at l3
  constructor
  · intro q
    refine ⟨by omega, fun j h1 h2 => ?_⟩
    rw [if_neg (by omega)] at l1 l2 l3
    refine ⟨⟨fun z => ?_, fun z => ?_⟩, fun z => ?_⟩
    · rw [if_neg (by omega)] at l1; omega
    · rw [if_neg (by omega)] at l2; omega
    · rw [if_neg (by omega)] at l3; omega
  · intro q
    obtain ⟨q1, q2⟩ := q
    have hm16 : 16 ≤ m := by
      apply Classical.byContradiction
      intro hlt
      rw [if_pos (by omega)] at l1 l2 l3
      rcases q1 with (z | z) | z
      · rw [if_neg (by omega)] at l1; omega
      · rw [if_neg (by omega)] at l2; omega
      · rw [if_neg (by omega)] at l3; omega
    rw [if_neg (by omega)] at l1 l2 l3
    have hge : i + 16 ≤ m := by
      rcases q1 with (z | z) | z
      · rw [if_neg (by omega)] at l1; omega
      · rw [if_neg (by omega)] at l2; omega
      · rw [if_neg (by omega)] at l3; omega
    apply Classical.byContradiction
    intro hne
    have := q2 (m - 16) (by omega) (by omega)
    rw [show m - 16 + 16 = m by omega] at this
    rcases hmm with z | z | z
    · exact this.1.1 z.symm
    · exact this.1.2 z.symm
    · exact this.2 z.symm
theorem qu_mmin {x y : Int32} : f_Jm_min x y = some (if y < x then y else x) := by
  unfold f_Jm_min
  by_cases h : y < x
  · rw [if_pos h, if_pos h]
  · rw [if_neg h, if_neg h]
theorem qu_add {ps : List it_P} {P V : Int32} {I L : Nat → Int32} {a b c : Nat} (h : qu_rep ps P V I L) (ok : qu_ok ps) (hx : it_ok (a, b, c)) (hl : ps.length < 3) :
    ∃ V' I' L', f_Qu_add P V I L (it_I a) (it_I b) (it_I c) = some (1, nI (ps.length + 1), V', I', L') ∧ qu_rep (ps ++ [(a, b, c)]) (nI (ps.length + 1)) V' I' L' := by
  obtain ⟨ha, hb, hc⟩ := hx
  have ha : a < 20 := ha
  have hc : c < 20 := hc
  have hb : b < 20 := by rcases hb with h | h <;> (have h := h; dsimp only at h; omega)
  have e3 : nI ps.length * 3 = nI (3 * ps.length) := by rw [show (3 : Int32) = nI 3 from rfl, pk_mul, Nat.mul_comm]
  have e4 : nI (3 * ps.length) + 1 = nI (3 * ps.length + 1) := nI_1 _
  have e5 : nI (3 * ps.length) + 2 = nI (3 * ps.length + 2) := by rw [show (2 : Int32) = nI 2 from rfl, nI_add]
  unfold f_Qu_add
  rw [h.1, h.2.1, if_pos (show nI ps.length < 3 from nI_lt (b := 3) hl (by decide)), e3, e4, e5, if_pos (pu_in (by omega) (by decide)), if_pos (pu_in (by omega) (by decide)), if_pos (pu_in (by omega) (by decide))]
  simp only [qu_mmin, fn_s1, qu_use ha, qu_use hb, qu_use hc, pu_in hl (show 3 < 2 ^ 31 by decide), if_true]
  rw [nI_1, pu_cl (by omega), pu_cl (by omega), pu_cl (by omega), pu_cl (by omega)]
  refine ⟨_, _, _, rfl, by simp, ?_, ?_⟩
  · congr 1
    refine bm_congr (fun i _ => ?_)
    simp only [it_sd, List.any_append, List.any_cons, List.any_nil, Bool.or_false, it_has]
    simp only [Bool.or_assoc]
  · intro k x hk
    by_cases hkl : k < ps.length
    · rw [List.getElem?_append_left hkl] at hk
      obtain ⟨h1, h2, h3, h4⟩ := h.2.2 k x hk
      refine ⟨?_, ?_, ?_, ?_⟩
      · rw [pk_un (by omega), pk_un (by omega), pk_un (by omega)]; exact h1
      · rw [pk_un (by omega), pk_un (by omega), pk_un (by omega)]; exact h2
      · rw [pk_un (by omega), pk_un (by omega), pk_un (by omega)]; exact h3
      · intro i hi; rw [pk_un (by omega)]; exact h4 i hi
    · rw [List.getElem?_append_right (by omega)] at hk
      have hk2 : k - ps.length < 1 := (List.getElem?_eq_some_iff.mp hk).1
      have : k = ps.length := by omega
      subst this
      rw [Nat.sub_self] at hk
      cases hk
      refine ⟨?_, ?_, pk_us, ?_⟩
      · rw [pk_un (by omega), pk_un (by omega), pk_us]
      · rw [pk_un (by omega), pk_us]
      · intro i hi
        rw [pk_us]
        exact it_min ha hb hc hi

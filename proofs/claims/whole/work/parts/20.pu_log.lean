/-! PURE ROWS 1: numbers -/
theorem fn_s1 {α β : Type} {a : α} {k : α → Option β} : fn_b1 (some a) k = k a := rfl
theorem fn_s2 {α1 α2 β : Type} {a : α1} {b : α2} {k : α1 → α2 → Option β} : fn_b2 (some (a, b)) k = k a b := rfl
theorem fn_s3 {α1 α2 α3 β : Type} {a : α1} {b : α2} {c : α3} {k : α1 → α2 → α3 → Option β} : fn_b3 (some (a, b, c)) k = k a b c := rfl
theorem fn_s4 {α1 α2 α3 α4 β : Type} {a : α1} {b : α2} {c : α3} {d : α4} {k : α1 → α2 → α3 → α4 → Option β} : fn_b4 (some (a, b, c, d)) k = k a b c d := rfl
theorem fn_s5 {α1 α2 α3 α4 α5 β : Type} {a : α1} {b : α2} {c : α3} {d : α4} {e : α5} {k : α1 → α2 → α3 → α4 → α5 → Option β} : fn_b5 (some (a, b, c, d, e)) k = k a b c d e := rfl
theorem fn_s6 {α1 α2 α3 α4 α5 α6 β : Type} {a : α1} {b : α2} {c : α3} {d : α4} {e : α5} {f : α6} {k : α1 → α2 → α3 → α4 → α5 → α6 → Option β} : fn_b6 (some (a, b, c, d, e, f)) k = k a b c d e f := rfl
theorem fn_s7 {α1 α2 α3 α4 α5 α6 α7 β : Type} {a : α1} {b : α2} {c : α3} {d : α4} {e : α5} {f : α6} {g : α7} {k : α1 → α2 → α3 → α4 → α5 → α6 → α7 → Option β} : fn_b7 (some (a, b, c, d, e, f, g)) k = k a b c d e f g := rfl
theorem fn_s8 {α1 α2 α3 α4 α5 α6 α7 α8 β : Type} {a : α1} {b : α2} {c : α3} {d : α4} {e : α5} {f : α6} {g : α7} {h : α8} {k : α1 → α2 → α3 → α4 → α5 → α6 → α7 → α8 → Option β} : fn_b8 (some (a, b, c, d, e, f, g, h)) k = k a b c d e f g h := rfl
theorem pu_in {k n : Nat} (h : k < n) (hn : n < 2 ^ 31) : fn_in (nI k) n = true := by
  unfold fn_in
  rw [nI_toInt (by omega)]
  simp
  omega
theorem pu_nin {k n : Nat} (h : n ≤ k) (hk : k < 2 ^ 31) : ¬ fn_in (nI k) n = true := by
  unfold fn_in
  rw [nI_toInt hk]
  simp
  omega
theorem pu_cl {k : Nat} (h : k < 2 ^ 31) : Int32.toNatClampNeg (nI k) = k := nI_clamp h
theorem pu_m1 (k : Nat) : nI (k + 1) + (-1) = nI k := pk_m1 k
def pu_b (b : Bool) : Int32 := if b = true then 1 else 0
theorem pu_b1 : ¬ pu_b true = 0 := by decide
theorem pu_b0 (b : Bool) : pu_b b = 0 ↔ b = false := by cases b <;> decide
theorem pu_bn (b : Bool) : vp_nar .boolean (pu_b b) = pu_b b := by cases b <;> rfl
theorem pu_bz (b : Bool) : fn_z (pu_b b) = true := by cases b <;> rfl
theorem pu_us {α : Type} {f : Nat → Int32} {k : Nat} {x : Int32} : upd f k x k = x := pk_us
/-! the log: a list of things said (number, triple, whether it comes) -/
abbrev lr_E : Type := Nat × Nat × Bool
def lr_ok (l : List lr_E) : Prop := l.length ≤ 400 ∧ ∀ x ∈ l, x.1 < 62 ∧ x.2.1 < 2048
def lr_rep (l : List lr_E) (S : Int32) (A T C : Nat → Int32) : Prop := S = nI l.length ∧ ∀ (j : Nat) (x : lr_E), l[j]? = some x → A j = nI x.1 ∧ T j = nI x.2.1 ∧ C j = pu_b x.2.2
/-- the last place below k of a thing said of t up to n -/
def lr_lp (l : List lr_E) (n t : Nat) : Nat → Option Nat
  | 0 => none
  | k + 1 => match l[k]? with
    | none => lr_lp l n t k
    | some x => if x.1 ≤ n ∧ x.2.1 = t then some k else lr_lp l n t k
def lr_pl (o : Option Nat) : Int32 := match o with
  | none => -1
  | some k => nI k
theorem lr_lastOf_7 {l : List lr_E} {S : Int32} {A T C : Nat → Int32} {n t N : Nat} (h : lr_rep l S A T C) (ok : lr_ok l) (hn : n < 62) (ht : t < 2048) :
    ∀ (k fuel : Nat), k ≤ l.length → k < fuel → f_Lg_lastOf_7 N S A T (nI t) (nI n) fuel (nI k - 1) = some (lr_pl (lr_lp l n t k)) := by
  intro k
  induction k with
  | zero =>
    intro fuel hk hf
    obtain ⟨fuel, rfl⟩ : ∃ m, fuel = m + 1 := ⟨fuel - 1, by omega⟩
    rw [f_Lg_lastOf_7.eq_2, if_pos (by decide)]
    rfl
  | succ k ih =>
    intro fuel hk hf
    obtain ⟨fuel, rfl⟩ : ∃ m, fuel = m + 1 := ⟨fuel - 1, by omega⟩
    have h4 := ok.1
    have hx : l[k]? = some l[k] := List.getElem?_eq_getElem (by omega)
    obtain ⟨hA, hT, hC⟩ := h.2 k _ hx
    have hb := ok.2 l[k] (List.getElem_mem _)
    rw [f_Lg_lastOf_7.eq_2, nI_pred, if_neg (nI_pos (by omega)), if_pos (pu_in (by omega) (by omega)), pu_cl (by omega), hA, hT, if_pos (pu_in (by omega) (by omega))]
    have e : nI k + (-1) = nI k - 1 := by rw [Int32.sub_eq_add_neg]
    rw [e, ih fuel (by omega) (by omega), lr_lp, hx]
    by_cases h1 : l[k].1 ≤ n
    · rw [if_neg (nI_nlt h1 (by omega))]
      by_cases h2 : l[k].2.1 = t
      · rw [if_pos (by rw [h2])]
        simp [h1, h2, lr_pl]
      · rw [if_neg (fun q => h2 ((nI_eq (by omega) (by omega)).mp q))]
        simp [h2]
    · rw [if_pos (nI_lt (by omega) (by omega))]
      simp [h1]
theorem lr_lastOf {l : List lr_E} {S : Int32} {A T C : Nat → Int32} {n t N : Nat} (h : lr_rep l S A T C) (ok : lr_ok l) (hn : n < 62) (ht : t < 2048) (hN : 5000 ≤ N) :
    f_Lg_lastOf N S A T (nI t) (nI n) = some (lr_pl (lr_lp l n t l.length)) := by
  unfold f_Lg_lastOf
  rw [h.1]
  exact lr_lastOf_7 (by rw [← h.1]; exact h) ok hn ht l.length N (Nat.le_refl _) (by have := ok.1; omega)
/-! what was said last -/
def lr_f (n t : Nat) (x : lr_E) : Bool := decide (x.1 ≤ n) && decide (x.2.1 = t)
def lr_last (l : List lr_E) (n t : Nat) : Option lr_E := (l.filter (lr_f n t)).getLast?
theorem lr_lp_take {l : List lr_E} {n t : Nat} : ∀ k, k ≤ l.length → ((l.take k).filter (lr_f n t)).getLast? = (lr_lp l n t k).bind (fun p => l[p]?) := by
  intro k
  induction k with
  | zero => intro _; rfl
  | succ k ih =>
    intro hk
    have hx : l[k]? = some l[k] := List.getElem?_eq_getElem (by omega)
    rw [List.take_succ, hx, List.filter_append, List.getLast?_append, ih (by omega), lr_lp, hx]
    by_cases h1 : l[k].1 ≤ n <;> by_cases h2 : l[k].2.1 = t <;> simp [lr_f, h1, h2, hx]
theorem lr_lp_lt {l : List lr_E} {n t : Nat} : ∀ k p, lr_lp l n t k = some p → p < k ∧ p < l.length := by
  intro k
  induction k with
  | zero => intro p h; cases h
  | succ k ih =>
    intro p h
    rw [lr_lp] at h
    cases hx : l[k]? with
    | none => rw [hx] at h; have := ih p h; omega
    | some x =>
      rw [hx] at h
      have hl := (List.getElem?_eq_some_iff.mp hx).1
      dsimp only at h
      by_cases h1 : x.1 ≤ n ∧ x.2.1 = t
      · rw [if_pos h1] at h; cases h; omega
      · rw [if_neg h1] at h; have := ih p h; omega
theorem lr_lp_last {l : List lr_E} {n t : Nat} : lr_last l n t = (lr_lp l n t l.length).bind (fun p => l[p]?) := by
  have := lr_lp_take (l := l) (n := n) (t := t) l.length (Nat.le_refl _)
  rw [List.take_length] at this
  exact this
/-- a place: none, or one of the list -/
def lr_plok (l : List lr_E) (o : Option Nat) : Prop := ∀ p, o = some p → p < l.length
theorem lr_isPlace {l : List lr_E} {o : Option Nat} (ok : lr_ok l) (h : lr_plok l o) : f_Lg_isPlace (nI l.length) (lr_pl o) = some (pu_b o.isSome) := by
  have h4 := ok.1
  unfold f_Lg_isPlace
  cases o with
  | none => rw [if_pos (by decide)]; rfl
  | some p =>
    have := h p rfl
    show (if nI p < 0 then _ else if nI l.length ≤ nI p then _ else _) = _
    rw [if_neg (nI_pos (by omega)), if_neg (nI_ge this (by omega))]
    rfl
theorem lr_comesAt {l : List lr_E} {S : Int32} {A T C : Nat → Int32} {o : Option Nat} (h : lr_rep l S A T C) (ok : lr_ok l) (ho : lr_plok l o) :
    f_Lg_comesAt S C (lr_pl o) = some (pu_b ((o.bind (fun p => l[p]?)).any (fun x => x.2.2))) := by
  have h4 := ok.1
  unfold f_Lg_comesAt
  rw [h.1, lr_isPlace ok ho, fn_s1]
  cases o with
  | none => rfl
  | some p =>
    have hp := ho p rfl
    have hx : l[p]? = some l[p] := List.getElem?_eq_getElem hp
    obtain ⟨hA, hT, hC⟩ := h.2 p _ hx
    rw [if_neg (show ¬ pu_b (some p).isSome = 0 from pu_b1), show lr_pl (some p) = nI p from rfl, if_pos (pu_in (by omega) (by omega)), pu_cl (by omega), hC]
    simp only [Option.bind_some, hx, Option.any_some]
    cases l[p].2.2 <;> rfl
theorem lr_numberAt {l : List lr_E} {S : Int32} {A T C : Nat → Int32} {p : Nat} (h : lr_rep l S A T C) (ok : lr_ok l) {x : lr_E} (hx : l[p]? = some x) :
    f_Lg_numberAt S A (nI p) = some (nI x.1) := by
  have h4 := ok.1
  have hp := (List.getElem?_eq_some_iff.mp hx).1
  obtain ⟨hA, hT, hC⟩ := h.2 p _ hx
  unfold f_Lg_numberAt
  have := lr_isPlace (o := some p) ok (fun q hq => by cases hq; exact hp)
  rw [show lr_pl (some p) = nI p from rfl] at this
  rw [h.1, this, fn_s1, if_neg (show ¬ pu_b (some p).isSome = 0 from pu_b1), if_pos (pu_in (by omega) (by omega)), pu_cl (by omega), hA]
/-- seen through a window -/
def lr_sh (n w : Nat) (x : lr_E) : Bool := x.2.2 && (decide (w = 0) || decide (n - x.1 < w))
theorem lr_shows {l : List lr_E} {S : Int32} {A T C : Nat → Int32} {o : Option Nat} {n w : Nat} (h : lr_rep l S A T C) (ok : lr_ok l) (ho : lr_plok l o) (hn : n < 62) (hw : w ≤ 62) (hle : ∀ x, o.bind (fun p => l[p]?) = some x → x.1 ≤ n) :
    f_Lg_shows S A C (lr_pl o) (nI n) (nI w) = some (pu_b ((o.bind (fun p => l[p]?)).any (lr_sh n w))) := by
  have h4 := ok.1
  unfold f_Lg_shows
  rw [h.1, lr_isPlace ok ho, fn_s1]
  cases o with
  | none => rfl
  | some p =>
    have hp := ho p rfl
    have hx : l[p]? = some l[p] := List.getElem?_eq_getElem hp
    obtain ⟨hA, hT, hC⟩ := h.2 p _ hx
    have hm := hle l[p] (by simp [hx])
    rw [if_neg (show ¬ pu_b (some p).isSome = 0 from pu_b1), show lr_pl (some p) = nI p from rfl, if_pos (pu_in (by omega) (by omega)), pu_cl (by omega), hC, hA]
    simp only [Option.bind_some, hx, Option.any_some]
    cases hc : l[p].2.2 with
    | false => simp [lr_sh, hc, pu_b]
    | true =>
      rw [if_neg (show ¬ pu_b true = 0 by decide)]
      by_cases hw0 : w = 0
      · rw [if_pos (by rw [hw0]; rfl)]
        simp [lr_sh, hc, hw0, pu_b]
      · rw [if_neg (nI_ne0 (by omega) (by omega)), if_pos (pu_in (by omega) (by omega)), pk_sub hm]
        by_cases hlt : n - l[p].1 < w
        · rw [if_neg (nI_ge hlt (by omega))]
          simp [lr_sh, hc, hlt, pu_b]
        · rw [if_pos (nI_le (by omega) (by omega))]
          simp [lr_sh, hc, hlt, hw0, pu_b]
/-! saying a thing: it goes behind all of its number -/
def lr_ent (A T C : Nat → Int32) (j : Nat) (x : lr_E) : Prop := A j = nI x.1 ∧ T j = nI x.2.1 ∧ C j = pu_b x.2.2
theorem lr_say_87 {l : List lr_E} {A T C : Nat → Int32} {n t N i : Nat} {c : Bool} (hl : l.length < 400) (hi : i ≤ l.length)
    (h1 : ∀ j x, l[j]? = some x → j < i → lr_ent A T C j x) (h2 : ∀ j x, l[j]? = some x → i ≤ j → lr_ent A T C (j + 1) x) :
    ∃ A' T' C', f_Lg_say_87 N (nI l.length) A T C (nI n) (nI t) (pu_b c) (nI i) = some (nI i, nI (l.length + 1), A', T', C') ∧ lr_rep (l.take i ++ (n, t, c) :: l.drop i) (nI (l.length + 1)) A' T' C' := by
  unfold f_Lg_say_87
  rw [if_pos (pu_in (by omega) (by omega)), if_pos (pu_in (by omega) (by omega)), if_pos (pu_in (by omega) (by omega)), pu_cl (by omega), nI_1]
  refine ⟨_, _, _, rfl, ?_, ?_⟩
  · simp; congr 1; omega
  · intro j x hx
    rw [pu_bn]
    rcases Nat.lt_trichotomy j i with hj | hj | hj
    · rw [List.getElem?_append_left (by rw [List.length_take]; omega), List.getElem?_take_of_lt hj] at hx
      have e := h1 j x hx hj
      rw [pk_un (by omega), pk_un (by omega), pk_un (by omega)]
      exact e
    · subst hj
      rw [List.getElem?_append_right (by rw [List.length_take]; omega), List.length_take, Nat.min_eq_left hi, Nat.sub_self] at hx
      cases hx
      exact ⟨pk_us, pk_us, pk_us⟩
    · rw [List.getElem?_append_right (by rw [List.length_take]; omega), List.length_take, Nat.min_eq_left hi, show j - i = (j - i - 1) + 1 by omega, List.getElem?_cons_succ, List.getElem?_drop] at hx
      have e := h2 (i + (j - i - 1)) x hx (by omega)
      rw [show i + (j - i - 1) + 1 = j by omega] at e
      rw [pk_un (by omega), pk_un (by omega), pk_un (by omega)]
      exact e
theorem lr_say_15 {l : List lr_E} {n t N : Nat} {c : Bool} (ok : lr_ok l) (hl : l.length < 400) (hn : n < 62) :
    ∀ (i fuel : Nat) (A T C : Nat → Int32), i ≤ l.length → i < fuel → (∀ j x, l[j]? = some x → j < i → lr_ent A T C j x) → (∀ j x, l[j]? = some x → i ≤ j → lr_ent A T C (j + 1) x ∧ n < x.1) →
    ∃ p A' T' C', f_Lg_say_15 N (nI n) (nI t) (pu_b c) fuel (nI l.length) A T C (nI i) = some (nI p, nI (l.length + 1), A', T', C') ∧ p ≤ l.length ∧ (p = 0 ∨ ∃ x, l[p - 1]? = some x ∧ x.1 ≤ n) ∧ (∀ j x, l[j]? = some x → p ≤ j → n < x.1) ∧ lr_rep (l.take p ++ (n, t, c) :: l.drop p) (nI (l.length + 1)) A' T' C' := by
  intro i
  induction i with
  | zero =>
    intro fuel A T C hi hf h1 h2
    obtain ⟨fuel, rfl⟩ : ∃ m, fuel = m + 1 := ⟨fuel - 1, by omega⟩
    rw [f_Lg_say_15.eq_2, if_pos (by decide)]
    obtain ⟨A', T', C', e, hr⟩ := lr_say_87 (N := N) (n := n) (t := t) (c := c) hl hi h1 (fun j x hx hj => (h2 j x hx hj).1)
    exact ⟨0, A', T', C', e, by omega, Or.inl rfl, fun j x hx hj => (h2 j x hx hj).2, hr⟩
  | succ i ih =>
    intro fuel A T C hi hf h1 h2
    obtain ⟨fuel, rfl⟩ : ∃ m, fuel = m + 1 := ⟨fuel - 1, by omega⟩
    have hx : l[i]? = some l[i] := List.getElem?_eq_getElem (by omega)
    have hb := ok.2 l[i] (List.getElem_mem _)
    obtain ⟨hA, hT, hC⟩ := h1 i _ hx (by omega)
    rw [f_Lg_say_15.eq_2, if_neg (nI_nle (by omega) (by omega)), nI_pred, if_pos (pu_in (by omega) (by omega)), pu_cl (by omega), hA]
    by_cases hle : l[i].1 ≤ n
    · rw [if_pos (nI_le hle (by omega))]
      obtain ⟨A', T', C', e, hr⟩ := lr_say_87 (N := N) (n := n) (t := t) (c := c) hl hi h1 (fun j x hx hj => (h2 j x hx hj).1)
      exact ⟨i + 1, A', T', C', e, hi, Or.inr ⟨l[i], hx, hle⟩, fun j x hx hj => (h2 j x hx hj).2, hr⟩
    · rw [if_neg (nI_ge (by omega) (by omega))]
      simp only [pu_cl (show i < 2 ^ 31 by omega), pu_cl (show i + 1 < 2 ^ 31 by omega), pu_in (show i < 400 by omega) (by omega), pu_in (show i + 1 < 400 by omega) (by omega), if_true, hA, hT, hC, pu_bn, pu_m1]
      refine ih fuel _ _ _ (by omega) (by omega) ?_ ?_
      · intro j x hxj hj
        obtain ⟨e1, e2, e3⟩ := h1 j x hxj (by omega)
        exact ⟨by rw [pk_un (by omega)]; exact e1, by rw [pk_un (by omega)]; exact e2, by rw [pk_un (by omega)]; exact e3⟩
      · intro j x hxj hj
        by_cases hji : j = i
        · subst hji
          rw [hx] at hxj
          cases hxj
          exact ⟨⟨pk_us, pk_us, pk_us⟩, by omega⟩
        · obtain ⟨⟨e1, e2, e3⟩, e4⟩ := h2 j x hxj (by omega)
          exact ⟨⟨by rw [pk_un (by omega)]; exact e1, by rw [pk_un (by omega)]; exact e2, by rw [pk_un (by omega)]; exact e3⟩, e4⟩
/-- where a thing of number n goes -/
def lr_ins (l : List lr_E) (p : Nat) (x : lr_E) : List lr_E := l.take p ++ x :: l.drop p
def lr_srt (l : List lr_E) : Prop := ∀ (i j : Nat) (x y : lr_E), l[i]? = some x → l[j]? = some y → i ≤ j → x.1 ≤ y.1
theorem lr_say {l : List lr_E} {S : Int32} {A T C : Nat → Int32} {n t N : Nat} {c : Bool} (h : lr_rep l S A T C) (ok : lr_ok l) (hs : lr_srt l) (hl : l.length < 400) (hn : n < 62) (hN : 5000 ≤ N) :
    ∃ p A' T' C', f_Lg_say N S A T C (nI n) (nI t) (pu_b c) = some (nI p, nI (l.length + 1), A', T', C') ∧ p ≤ l.length ∧ (∀ j x, l[j]? = some x → j < p → x.1 ≤ n) ∧ (∀ j x, l[j]? = some x → p ≤ j → n < x.1) ∧ lr_rep (lr_ins l p (n, t, c)) (nI (l.length + 1)) A' T' C' := by
  unfold f_Lg_say
  rw [h.1]
  obtain ⟨p, A', T', C', e, hp, h0, h1, hr⟩ := lr_say_15 (N := N) (t := t) (c := c) ok hl hn l.length N A T C (Nat.le_refl _) (by omega) (fun j x hx _ => h.2 j x hx) (fun j x hx hj => by have := (List.getElem?_eq_some_iff.mp hx).1; omega)
  refine ⟨p, A', T', C', ?_, hp, ?_, h1, hr⟩
  · have : f_Lg_isFull (nI l.length) = some 0 := by
      unfold f_Lg_isFull
      rw [if_pos (show nI l.length < 400 from nI_lt (b := 400) hl (by decide))]
    rw [this, fn_s1, if_pos rfl]
    exact e
  · intro j x hx hj
    rcases h0 with h0 | ⟨y, hy, hle⟩
    · omega
    · exact Nat.le_trans (hs j (p - 1) x y hx hy (by omega)) hle
/-- what was said last, when one thing more is said -/
def lm_le (b : Option lr_E) (x : lr_E) : Bool := match b with
  | none => true
  | some y => decide (y.1 ≤ x.1)
def lm_step (m u : Nat) (b : Option lr_E) (x : lr_E) : Option lr_E := if lr_f m u x = true ∧ lm_le b x = true then some x else b
theorem lr_ins_last {l : List lr_E} {p : Nat} {z : lr_E} (h1 : ∀ j x, l[j]? = some x → j < p → x.1 ≤ z.1) (h2 : ∀ j x, l[j]? = some x → p ≤ j → z.1 < x.1) (m u : Nat) :
    lr_last (lr_ins l p z) m u = lm_step m u (lr_last l m u) z := by
  have e : lr_last l m u = ((l.drop p).filter (lr_f m u)).getLast?.or ((l.take p).filter (lr_f m u)).getLast? := by
    unfold lr_last
    rw [← List.getLast?_append, ← List.filter_append, List.take_append_drop]
  have e2 : lr_last (lr_ins l p z) m u = ((l.drop p).filter (lr_f m u)).getLast?.or (if lr_f m u z = true then some z else ((l.take p).filter (lr_f m u)).getLast?) := by
    unfold lr_last lr_ins
    rw [List.filter_append, List.getLast?_append, List.filter_cons]
    by_cases hz : lr_f m u z = true
    · rw [if_pos hz, if_pos hz, List.getLast?_cons]
      cases ((l.drop p).filter (lr_f m u)).getLast? <;> rfl
    · rw [if_neg hz, if_neg hz]
  rw [e2, e]
  cases hd : ((l.drop p).filter (lr_f m u)).getLast? with
  | some y =>
    have hy := List.mem_of_getLast? hd
    rw [List.mem_filter] at hy
    obtain ⟨j, hj⟩ := List.getElem?_of_mem hy.1
    rw [List.getElem?_drop] at hj
    have := h2 (p + j) y hj (by omega)
    show some y = lm_step m u (some y) z
    unfold lm_step
    rw [if_neg (fun q => by have := of_decide_eq_true q.2; omega)]
  | none =>
    show (if lr_f m u z = true then some z else ((l.take p).filter (lr_f m u)).getLast?) = lm_step m u ((l.take p).filter (lr_f m u)).getLast? z
    unfold lm_step
    by_cases hz : lr_f m u z = true
    · rw [if_pos hz, if_pos]
      refine ⟨hz, ?_⟩
      cases ht : ((l.take p).filter (lr_f m u)).getLast? with
      | none => rfl
      | some y =>
        have hy := List.mem_of_getLast? ht
        rw [List.mem_filter] at hy
        obtain ⟨j, hj⟩ := List.getElem?_of_mem hy.1
        have hjp : j < p := by
          have := (List.getElem?_eq_some_iff.mp hj).1
          rw [List.length_take] at this
          omega
        rw [List.getElem?_take_of_lt hjp] at hj
        exact decide_eq_true (h1 j y hj hjp)
    · rw [if_neg hz, if_neg (fun q => hz q.1)]
theorem lr_ins_ok {l : List lr_E} {p n t : Nat} {c : Bool} (ok : lr_ok l) (hl : l.length < 400) (hp : p ≤ l.length) (hn : n < 62) (ht : t < 2048) : lr_ok (lr_ins l p (n, t, c)) := by
  unfold lr_ins
  refine ⟨by simp; omega, fun x hx => ?_⟩
  rw [List.mem_append, List.mem_cons] at hx
  rcases hx with hx | hx | hx
  · exact ok.2 x (List.mem_of_mem_take hx)
  · subst hx; exact ⟨hn, ht⟩
  · exact ok.2 x (List.mem_of_mem_drop hx)
theorem lr_ins_len {l : List lr_E} {p : Nat} {z : lr_E} (hp : p ≤ l.length) : (lr_ins l p z).length = l.length + 1 := by
  unfold lr_ins
  simp
  omega
theorem lr_ins_at {l : List lr_E} {p : Nat} {z : lr_E} (hp : p ≤ l.length) (j : Nat) : (lr_ins l p z)[j]? = if j < p then l[j]? else if j = p then some z else l[j - 1]? := by
  unfold lr_ins
  by_cases h1 : j < p
  · rw [if_pos h1, List.getElem?_append_left (by rw [List.length_take]; omega), List.getElem?_take_of_lt h1]
  · rw [if_neg h1, List.getElem?_append_right (by rw [List.length_take]; omega), List.length_take, Nat.min_eq_left hp]
    by_cases h2 : j = p
    · subst h2; simp
    · rw [if_neg h2, show j - p = (j - p - 1) + 1 by omega, List.getElem?_cons_succ, List.getElem?_drop]
      congr 1
      omega
theorem lr_ins_srt {l : List lr_E} {p : Nat} {z : lr_E} (hp : p ≤ l.length) (hs : lr_srt l) (h1 : ∀ j x, l[j]? = some x → j < p → x.1 ≤ z.1) (h2 : ∀ j x, l[j]? = some x → p ≤ j → z.1 < x.1) : lr_srt (lr_ins l p z) := by
  intro i j x y hx hy hij
  rw [lr_ins_at hp] at hx hy
  by_cases a1 : i < p
  · rw [if_pos a1] at hx
    by_cases b1 : j < p
    · rw [if_pos b1] at hy; exact hs i j x y hx hy hij
    · rw [if_neg b1] at hy
      by_cases b2 : j = p
      · rw [if_pos b2] at hy; cases hy; exact h1 i x hx a1
      · rw [if_neg b2] at hy; exact hs i (j - 1) x y hx hy (by omega)
  · rw [if_neg a1] at hx
    rw [if_neg (by omega)] at hy
    by_cases a2 : i = p
    · rw [if_pos a2] at hx; cases hx
      by_cases b2 : j = p
      · rw [if_pos b2] at hy; cases hy; omega
      · rw [if_neg b2] at hy; exact Nat.le_of_lt (h2 (j - 1) y hy (by omega))
    · rw [if_neg a2] at hx
      rw [if_neg (by omega)] at hy
      exact hs (i - 1) (j - 1) x y hx hy (by omega)

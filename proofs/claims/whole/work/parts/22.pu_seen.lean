/-! PURE ROWS 3: what is seen at a number through a window, in the class and in the model -/
def lr_sv (o : Option lr_E) (n w : Nat) : Bool := o.any (lr_sh n w)
theorem se_congr {sn sn' : Nat → Bool} {f : Nat → Int32} (h : se_rep sn f) (he : ∀ t, t < 2048 → sn t = sn' t) : se_rep sn' f := fun j hj => by
  rw [h j hj]
  congr 1
  exact bm_congr (fun i hi => he _ (by omega))
theorem lr_take_all {l : List lr_E} {n t i : Nat} (h : ∀ j x, l[j]? = some x → i ≤ j → n < x.1) : (l.take i).filter (lr_f n t) = l.filter (lr_f n t) := by
  conv => rhs; rw [← List.take_append_drop i l, List.filter_append]
  have : (l.drop i).filter (lr_f n t) = [] := by
    rw [List.filter_eq_nil_iff]
    intro x hx
    obtain ⟨j, hj⟩ := List.getElem?_of_mem hx
    rw [List.getElem?_drop] at hj
    have := h (i + j) x hj (by omega)
    simp [lr_f]
    omega
  rw [this, List.append_nil]
theorem se_read_11 {l : List lr_E} {S : Int32} {A T C : Nat → Int32} {n w N : Nat} (h : lr_rep l S A T C) (ok : lr_ok l) (hs : lr_srt l) (hn : n < 62) (hw : w ≤ 62) :
    ∀ (k fuel i : Nat) (f : Nat → Int32), i + k = l.length → k < fuel → se_rep (fun t => lr_sv ((l.take i).filter (lr_f n t)).getLast? n w) f →
    ∃ f', f_Se_read_11 N S A T C (nI n) (nI w) fuel f (nI i) = some f' ∧ se_rep (fun t => lr_sv (lr_last l n t) n w) f' := by
  intro k
  have h4 := ok.1
  induction k with
  | zero =>
    intro fuel i f hi hf hr
    obtain ⟨fuel, rfl⟩ : ∃ m, fuel = m + 1 := ⟨fuel - 1, by omega⟩
    rw [f_Se_read_11.eq_2, h.1, if_pos (nI_le (by omega) (by omega))]
    refine ⟨f, rfl, ?_⟩
    rw [show i = l.length by omega, List.take_length] at hr
    exact hr
  | succ k ih =>
    intro fuel i f hi hf hr
    obtain ⟨fuel, rfl⟩ : ∃ m, fuel = m + 1 := ⟨fuel - 1, by omega⟩
    have hil : i < l.length := by omega
    have hx : l[i]? = some l[i] := List.getElem?_eq_getElem hil
    obtain ⟨hA, hT, hC⟩ := h.2 i _ hx
    have hb := ok.2 l[i] (List.getElem_mem _)
    rw [f_Se_read_11.eq_2, h.1, if_neg (nI_ge hil (by omega)), if_pos (pu_in (by omega) (by omega)), pu_cl (by omega), hA]
    by_cases hle : l[i].1 ≤ n
    · have hsh := lr_shows (o := some i) (n := n) (w := w) h ok (fun p hp => by cases hp; exact hil) hn hw (fun x hx2 => by
        simp only [Option.bind_some, hx, Option.some.injEq] at hx2
        rw [← hx2]; exact hle)
      rw [show lr_pl (some i) = nI i from rfl, h.1] at hsh
      simp only [Option.bind_some, hx, Option.any_some] at hsh
      rw [if_neg (nI_nlt hle (by omega)), if_pos (pu_in (by omega) (by omega)), hsh, fn_s1, hT]
      obtain ⟨f', e, hr'⟩ := se_put (b := lr_sh n w l[i]) hr hb.2
      rw [e, fn_s1, nI_1]
      have := ih fuel (i + 1) f' (by omega) (by omega) (se_congr hr' (fun t ht => by
        rw [List.take_succ, hx, List.filter_append, List.getLast?_append]
        by_cases et : t = l[i].2.1
        · rw [if_pos et]
          have : lr_f n t l[i] = true := by simp [lr_f, hle, et]
          simp [this, lr_sv]
        · rw [if_neg et]
          have : lr_f n t l[i] = false := by simp [lr_f]; intro _ q; exact et q.symm
          simp [this]))
      rw [h.1] at this
      exact this
    · rw [if_pos (nI_lt (by omega) (by omega))]
      refine ⟨f, rfl, se_congr hr (fun t _ => ?_)⟩
      unfold lr_last
      rw [lr_take_all (fun j x hj hij => ?_)]
      have := hs i j _ x hx hj hij
      omega
theorem se_read {l : List lr_E} {S : Int32} {A T C : Nat → Int32} {n w N : Nat} (h : lr_rep l S A T C) (ok : lr_ok l) (hs : lr_srt l) (hn : n < 62) (hw : w ≤ 62) (hN : 5000 ≤ N) (f : Nat → Int32) :
    ∃ f', f_Se_read N S A T C f (nI n) (nI w) = some f' ∧ se_rep (fun t => lr_sv (lr_last l n t) n w) f' := by
  unfold f_Se_read
  obtain ⟨f1, e1, h1⟩ := se_fill hN f
  rw [e1, fn_s1]
  have := ok.1
  exact se_read_11 h ok hs hn hw l.length N 0 f1 (by omega) (by omega) (se_congr h1 (fun t _ => by simp [lr_sv]))
/-! the model's search for the last -/
def lm_bp (l : List lr_E) (n t : Nat) : Nat → Option Nat
  | 0 => none
  | k + 1 => match l[k]? with
    | none => lm_bp l n t k
    | some x => if lr_f n t x = true ∧ lm_le ((lm_bp l n t k).bind (fun p => l[p]?)) x = true then some k else lm_bp l n t k
def lm_best (l : List lr_E) (n t : Nat) : Option lr_E := l.foldl (lm_step n t) none
theorem lm_bp_lt {l : List lr_E} {n t : Nat} : ∀ k p, lm_bp l n t k = some p → p < k ∧ p < l.length := by
  intro k
  induction k with
  | zero => intro p h; cases h
  | succ k ih =>
    intro p h
    rw [lm_bp] at h
    cases hx : l[k]? with
    | none => rw [hx] at h; have := ih p h; omega
    | some x =>
      rw [hx] at h
      have hl := (List.getElem?_eq_some_iff.mp hx).1
      dsimp only at h
      by_cases h1 : lr_f n t x = true ∧ lm_le ((lm_bp l n t k).bind (fun p => l[p]?)) x = true
      · rw [if_pos h1] at h; cases h; omega
      · rw [if_neg h1] at h; have := ih p h; omega
theorem lm_bp_take {l : List lr_E} {n t : Nat} : ∀ k, k ≤ l.length → (l.take k).foldl (lm_step n t) none = (lm_bp l n t k).bind (fun p => l[p]?) := by
  intro k
  induction k with
  | zero => intro _; rfl
  | succ k ih =>
    intro hk
    have hx : l[k]? = some l[k] := List.getElem?_eq_getElem (by omega)
    rw [List.take_succ, hx, List.foldl_append, ih (by omega), lm_bp, hx]
    show lm_step n t _ l[k] = _
    unfold lm_step
    dsimp only
    by_cases h : lr_f n t l[k] = true ∧ lm_le ((lm_bp l n t k).bind (fun p => l[p]?)) l[k] = true
    · rw [if_pos h, if_pos h, Option.bind_some, hx]
    · rw [if_neg h, if_neg h]
theorem lm_best_eq {l : List lr_E} {n t : Nat} : lm_best l n t = (lm_bp l n t l.length).bind (fun p => l[p]?) := by
  have := lm_bp_take (l := l) (n := n) (t := t) l.length (Nat.le_refl _)
  rw [List.take_length] at this
  exact this
theorem lm_best_snoc (l : List lr_E) (x : lr_E) (n t : Nat) : lm_best (l ++ [x]) n t = lm_step n t (lm_best l n t) x := by
  unfold lm_best
  rw [List.foldl_append]
  rfl
theorem lm_last_5 {l : List lr_E} {S : Int32} {A T C : Nat → Int32} {n t N : Nat} (h : lr_rep l S A T C) (ok : lr_ok l) (hn : n < 62) (ht : t < 2048) :
    ∀ (k fuel i : Nat), i + k = l.length → k < fuel → f_M_last_5 N S A T (nI n) (nI t) fuel (lr_pl (lm_bp l n t i)) (nI i) = some (lr_pl (lm_bp l n t l.length)) := by
  intro k
  have h4 := ok.1
  induction k with
  | zero =>
    intro fuel i hi hf
    obtain ⟨fuel, rfl⟩ : ∃ m, fuel = m + 1 := ⟨fuel - 1, by omega⟩
    rw [f_M_last_5.eq_2, h.1, if_pos (nI_le (by omega) (by omega)), show i = l.length by omega]
  | succ k ih =>
    intro fuel i hi hf
    obtain ⟨fuel, rfl⟩ : ∃ m, fuel = m + 1 := ⟨fuel - 1, by omega⟩
    have hil : i < l.length := by omega
    have hx : l[i]? = some l[i] := List.getElem?_eq_getElem hil
    obtain ⟨hA, hT, hC⟩ := h.2 i _ hx
    have hb := ok.2 l[i] (List.getElem_mem _)
    have e1 := ih fuel (i + 1) (by omega) (by omega)
    have hin := pu_in (show i < 400 by omega) (by decide)
    rw [f_M_last_5.eq_2, h.1, if_neg (nI_ge hil (by omega))]
    rw [h.1] at e1
    rw [lm_bp, hx] at e1
    dsimp only at e1
    simp only [hin, if_true, pu_cl (show i < 2 ^ 31 by omega), hA, hT, nI_1]
    by_cases et : l[i].2.1 = t
    · rw [if_pos (by rw [et])]
      by_cases hle : l[i].1 ≤ n
      · rw [if_neg (nI_nlt hle (by omega))]
        have hff : lr_f n t l[i] = true := by simp [lr_f, hle, et]
        cases hp : lm_bp l n t i with
        | none =>
          rw [hp, if_pos ⟨hff, rfl⟩] at e1
          rw [if_pos (by decide)]
          exact e1
        | some p =>
          have hpl := lm_bp_lt i p hp
          have hxp : l[p]? = some l[p] := List.getElem?_eq_getElem hpl.2
          obtain ⟨hAp, _, _⟩ := h.2 p _ hxp
          have hbp := ok.2 l[p] (List.getElem_mem _)
          rw [hp] at e1
          rw [show lr_pl (some p) = nI p from rfl, if_neg (nI_pos (by omega)), if_pos (pu_in (by omega) (by decide)), pu_cl (by omega), hAp]
          by_cases hlt : l[i].1 < l[p].1
          · rw [if_pos (nI_lt hlt (by omega))]
            rw [if_neg (fun q => by
              have := q.2
              simp only [Option.bind_some, hxp, lm_le, decide_eq_true_eq] at this
              omega)] at e1
            exact e1
          · rw [if_neg (nI_nlt (by omega) (by omega))]
            rw [if_pos ⟨hff, by simp only [Option.bind_some, hxp, lm_le, decide_eq_true_eq]; omega⟩] at e1
            exact e1
      · rw [if_pos (nI_lt (by omega) (by omega))]
        rw [if_neg (fun q => by have := q.1; simp [lr_f, hle] at this)] at e1
        exact e1
    · rw [if_neg (fun q => et ((nI_eq (by omega) (by omega)).mp q))]
      rw [if_neg (fun q => by have := q.1; simp [lr_f, et] at this)] at e1
      exact e1
theorem lm_last {l : List lr_E} {S : Int32} {A T C : Nat → Int32} {n t N : Nat} (h : lr_rep l S A T C) (ok : lr_ok l) (hn : n < 62) (ht : t < 2048) (hN : 5000 ≤ N) :
    f_M_last N S A T (nI n) (nI t) = some (lr_pl (lm_bp l n t l.length)) := by
  have := ok.1
  exact lm_last_5 h ok hn ht l.length N 0 (by omega) (by omega)
theorem lm_isThere {l : List lr_E} {S : Int32} {A T C : Nat → Int32} {n t N : Nat} (h : lr_rep l S A T C) (ok : lr_ok l) (hn : n < 62) (ht : t < 2048) (hN : 5000 ≤ N) :
    f_M_isThere N S A T C (nI n) (nI t) = some (pu_b ((lm_best l n t).any (fun x => x.2.2))) := by
  have h4 := ok.1
  unfold f_M_isThere
  rw [lm_last h ok hn ht hN, fn_s1, lm_best_eq]
  cases hp : lm_bp l n t l.length with
  | none => rw [if_pos (by decide)]; rfl
  | some p =>
    have hpl := lm_bp_lt _ p hp
    have hxp : l[p]? = some l[p] := List.getElem?_eq_getElem hpl.2
    obtain ⟨_, _, hC⟩ := h.2 p _ hxp
    rw [show lr_pl (some p) = nI p from rfl, if_neg (nI_pos (by omega)), if_pos (pu_in (by omega) (by decide)), pu_cl (by omega), hC]
    simp only [Option.bind_some, hxp, Option.any_some]
    cases l[p].2.2 <;> rfl
theorem lm_say {l : List lr_E} {S : Int32} {A T C : Nat → Int32} {n t : Nat} {c : Bool} (h : lr_rep l S A T C) (hl : l.length < 400) :
    ∃ A' T' C', f_M_say S A T C (nI n) (nI t) (pu_b c) = some (nI (l.length + 1), A', T', C') ∧ lr_rep (l ++ [(n, t, c)]) (nI (l.length + 1)) A' T' C' := by
  unfold f_M_say
  have hin := pu_in hl (by decide)
  rw [h.1, if_pos hin, if_pos hin, if_pos hin, nI_1, pu_cl (by omega), pu_bn]
  refine ⟨_, _, _, rfl, by simp, fun j x hx => ?_⟩
  by_cases hj : j < l.length
  · rw [List.getElem?_append_left hj] at hx
    rw [pk_un (by omega), pk_un (by omega), pk_un (by omega)]
    exact h.2 j x hx
  · rw [List.getElem?_append_right (by omega)] at hx
    have hj2 : j - l.length < 1 := (List.getElem?_eq_some_iff.mp hx).1
    have : j = l.length := by omega
    subst this
    rw [Nat.sub_self] at hx
    cases hx
    exact ⟨pk_us, pk_us, pk_us⟩

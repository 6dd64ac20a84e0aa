/-! PURE ROWS 4: the model's see -/
theorem lm_see_2 {N : Nat} {S : Int32} {A T C : Nat → Int32} {v1 v2 : Int32} : ∀ (k fuel i : Nat) (Se La : Nat → Int32), i + k = 2048 → k < fuel → (∀ j, j < i → La j = -1) →
    ∃ La', (∀ j, j < 2048 → La' j = -1) ∧ f_M_see_2 N S A T C v1 v2 fuel Se La (nI i) = f_M_see_24 N S A T C v1 v2 N Se La' 0 := by
  intro k
  induction k with
  | zero =>
    intro fuel i Se La hi hf h
    obtain ⟨fuel, rfl⟩ : ∃ m, fuel = m + 1 := ⟨fuel - 1, by omega⟩
    rw [f_M_see_2.eq_2, if_pos (show 2048 ≤ nI i from nI_le (a := 2048) (by omega) (by omega))]
    exact ⟨La, fun j hj => h j (by omega), rfl⟩
  | succ k ih =>
    intro fuel i Se La hi hf h
    obtain ⟨fuel, rfl⟩ : ∃ m, fuel = m + 1 := ⟨fuel - 1, by omega⟩
    rw [f_M_see_2.eq_2, if_neg (show ¬ 2048 ≤ nI i from nI_ge (b := 2048) (by omega) (by decide)), if_pos (pu_in (by omega) (by decide)), pu_cl (by omega), nI_1]
    refine ih fuel (i + 1) Se _ (by omega) (by omega) (fun j hj => ?_)
    by_cases e : j = i
    · subst e; exact pk_us
    · rw [pk_un e]; exact h j (by omega)
theorem lm_see_24 {l : List lr_E} {S : Int32} {A T C : Nat → Int32} {n N : Nat} {v2 : Int32} (h : lr_rep l S A T C) (ok : lr_ok l) (hn : n < 62) :
    ∀ (k fuel i : Nat) (Se La : Nat → Int32), i + k = l.length → k < fuel → (∀ t, t < 2048 → La t = lr_pl (lm_bp l n t i)) →
    ∃ La', (∀ t, t < 2048 → La' t = lr_pl (lm_bp l n t l.length)) ∧ f_M_see_24 N S A T C (nI n) v2 fuel Se La (nI i) = f_M_see_97 N S A T C (nI n) v2 N Se La' 0 := by
  intro k
  have h4 := ok.1
  induction k with
  | zero =>
    intro fuel i Se La hi hf hL
    obtain ⟨fuel, rfl⟩ : ∃ m, fuel = m + 1 := ⟨fuel - 1, by omega⟩
    rw [f_M_see_24.eq_2, if_pos (by rw [h.1]; exact nI_le (by omega) (by omega))]
    exact ⟨La, fun t ht => by rw [hL t ht, show i = l.length by omega], rfl⟩
  | succ k ih =>
    intro fuel i Se La hi hf hL
    obtain ⟨fuel, rfl⟩ : ∃ m, fuel = m + 1 := ⟨fuel - 1, by omega⟩
    have hil : i < l.length := by omega
    have hx : l[i]? = some l[i] := List.getElem?_eq_getElem hil
    obtain ⟨hA, hT, hC⟩ := h.2 i _ hx
    have hb := ok.2 l[i] (List.getElem_mem _)
    have hin := pu_in (show i < 400 by omega) (by decide)
    have hint := pu_in (show l[i].2.1 < 2048 from hb.2) (by decide)
    rw [f_M_see_24.eq_2, if_neg (by rw [h.1]; exact nI_ge hil (by omega))]
    simp only [hin, if_true, pu_cl (show i < 2 ^ 31 by omega), hA, hT, nI_1, hint, pu_cl (show l[i].2.1 < 2 ^ 31 by omega), hL _ hb.2]
    have keep : (∀ t, t < 2048 → ¬ (lr_f n t l[i] = true ∧ lm_le ((lm_bp l n t i).bind (fun p => l[p]?)) l[i] = true)) → ∃ La', (∀ t, t < 2048 → La' t = lr_pl (lm_bp l n t l.length)) ∧ f_M_see_24 N S A T C (nI n) v2 fuel Se La (nI (i + 1)) = f_M_see_97 N S A T C (nI n) v2 N Se La' 0 := fun hno =>
      ih fuel (i + 1) Se La (by omega) (by omega) (fun t ht => by
        rw [hL t ht, lm_bp, hx]
        dsimp only
        rw [if_neg (hno t ht)])
    have put : (lr_f n l[i].2.1 l[i] = true ∧ lm_le ((lm_bp l n l[i].2.1 i).bind (fun p => l[p]?)) l[i] = true) → ∃ La', (∀ t, t < 2048 → La' t = lr_pl (lm_bp l n t l.length)) ∧ f_M_see_24 N S A T C (nI n) v2 fuel Se (upd La l[i].2.1 (nI i)) (nI (i + 1)) = f_M_see_97 N S A T C (nI n) v2 N Se La' 0 := fun hyes =>
      ih fuel (i + 1) Se _ (by omega) (by omega) (fun t ht => by
        rw [lm_bp, hx]
        dsimp only
        by_cases et : t = l[i].2.1
        · subst et
          rw [pk_us, if_pos hyes]
          rfl
        · rw [pk_un et, hL t ht, if_neg (fun q => by have := q.1; simp [lr_f] at this; exact et this.2.symm)])
    by_cases hle : l[i].1 ≤ n
    · rw [if_neg (nI_nlt hle (by omega))]
      have hff : lr_f n l[i].2.1 l[i] = true := by simp [lr_f, hle]
      cases hp : lm_bp l n l[i].2.1 i with
      | none =>
        rw [if_pos (by decide)]
        exact put ⟨hff, by rw [hp]; rfl⟩
      | some p =>
        have hpl := lm_bp_lt i p hp
        have hxp : l[p]? = some l[p] := List.getElem?_eq_getElem hpl.2
        obtain ⟨hAp, _, _⟩ := h.2 p _ hxp
        have hbp := ok.2 l[p] (List.getElem_mem _)
        rw [show lr_pl (some p) = nI p from rfl, if_neg (nI_pos (by omega)), if_pos (pu_in (by omega) (by decide)), pu_cl (by omega), hAp]
        by_cases hlt : l[i].1 < l[p].1
        · rw [if_pos (nI_lt hlt (by omega))]
          refine keep (fun t ht q => ?_)
          have et : l[i].2.1 = t := by have := q.1; simp [lr_f] at this; exact this.2
          subst et
          have := q.2
          rw [hp] at this
          simp only [Option.bind_some, hxp, lm_le, decide_eq_true_eq] at this
          omega
        · rw [if_neg (nI_nlt (by omega) (by omega))]
          exact put ⟨hff, by rw [hp]; simp only [Option.bind_some, hxp, lm_le, decide_eq_true_eq]; omega⟩
    · rw [if_pos (nI_lt (by omega) (by omega))]
      exact keep (fun t ht q => by have := q.1; simp [lr_f, hle] at this)
theorem lm_see_97 {l : List lr_E} {S : Int32} {A T C : Nat → Int32} {n w N : Nat} (h : lr_rep l S A T C) (ok : lr_ok l) (hn : n < 62) (hw : w ≤ 62) {La : Nat → Int32} (hL : ∀ t, t < 2048 → La t = lr_pl (lm_bp l n t l.length)) :
    ∀ (k fuel i : Nat) (Se : Nat → Int32), i + k = 2048 → k < fuel → (∀ t, t < i → Se t = pu_b (lr_sv (lm_best l n t) n w)) →
    ∃ Se', f_M_see_97 N S A T C (nI n) (nI w) fuel Se La (nI i) = some (Se', La) ∧ ∀ t, t < 2048 → Se' t = pu_b (lr_sv (lm_best l n t) n w) := by
  intro k
  have h4 := ok.1
  induction k with
  | zero =>
    intro fuel i Se hi hf hS
    obtain ⟨fuel, rfl⟩ : ∃ m, fuel = m + 1 := ⟨fuel - 1, by omega⟩
    rw [f_M_see_97.eq_2, if_pos (show 2048 ≤ nI i from nI_le (a := 2048) (by omega) (by omega))]
    exact ⟨Se, rfl, fun t ht => hS t (by omega)⟩
  | succ k ih =>
    intro fuel i Se hi hf hS
    obtain ⟨fuel, rfl⟩ : ∃ m, fuel = m + 1 := ⟨fuel - 1, by omega⟩
    have go : ∀ b : Bool, b = lr_sv (lm_best l n i) n w → ∃ Se', f_M_see_97 N S A T C (nI n) (nI w) fuel (upd Se i (vp_nar .boolean (pu_b b))) La (nI (i + 1)) = some (Se', La) ∧ ∀ t, t < 2048 → Se' t = pu_b (lr_sv (lm_best l n t) n w) := by
      intro b hb
      refine ih fuel (i + 1) _ (by omega) (by omega) (fun t ht => ?_)
      by_cases e : t = i
      · subst e; rw [pk_us, pu_bn, hb]
      · rw [pk_un e]; exact hS t (by omega)
    rw [f_M_see_97.eq_2, if_neg (show ¬ 2048 ≤ nI i from nI_ge (b := 2048) (by omega) (by decide))]
    simp only [pu_in (show i < 2048 by omega) (by decide), if_true, pu_cl (show i < 2 ^ 31 by omega), nI_1, hL i (by omega)]
    have eb := lm_best_eq (l := l) (n := n) (t := i)
    cases hp : lm_bp l n i l.length with
    | none =>
      rw [hp] at eb
      rw [if_pos (by decide)]
      exact go false (by rw [eb]; rfl)
    | some p =>
      have hpl := lm_bp_lt _ p hp
      have hxp : l[p]? = some l[p] := List.getElem?_eq_getElem hpl.2
      obtain ⟨hAp, _, hCp⟩ := h.2 p _ hxp
      have hbp := ok.2 l[p] (List.getElem_mem _)
      rw [hp, Option.bind_some, hxp] at eb
      rw [show lr_pl (some p) = nI p from rfl, if_neg (nI_pos (by omega))]
      simp only [pu_in (show p < 400 by omega) (by decide), if_true, pu_cl (show p < 2 ^ 31 by omega), hAp, hCp]
      have hle : l[p].1 ≤ n := by
        have : lr_f n i l[p] = true := by
          have key : ∀ k q, lm_bp l n i k = some q → ∀ x, l[q]? = some x → lr_f n i x = true := by
            intro k
            induction k with
            | zero => intro q hq; cases hq
            | succ k ihk =>
              intro q hq x hx
              rw [lm_bp] at hq
              cases hy : l[k]? with
              | none => rw [hy] at hq; exact ihk q hq x hx
              | some y =>
                rw [hy] at hq
                dsimp only at hq
                by_cases hc : lr_f n i y = true ∧ lm_le ((lm_bp l n i k).bind (fun p => l[p]?)) y = true
                · rw [if_pos hc] at hq
                  cases hq
                  rw [hy] at hx
                  cases hx
                  exact hc.1
                · rw [if_neg hc] at hq; exact ihk q hq x hx
          exact key _ p hp _ hxp
        simp [lr_f] at this
        exact this.1
      cases hc : l[p].2.2 with
      | false =>
        rw [if_pos (by rfl)]
        exact go false (by rw [eb]; simp [lr_sv, lr_sh, hc])
      | true =>
        rw [if_neg pu_b1]
        by_cases hw0 : w = 0
        · rw [if_pos (by rw [hw0]; rfl)]
          exact go true (by rw [eb]; simp [lr_sv, lr_sh, hc, hw0])
        · rw [if_neg (nI_ne0 (by omega) (by omega)), pk_sub hle]
          by_cases hlt : n - l[p].1 < w
          · rw [if_neg (nI_ge hlt (by omega))]
            exact go true (by rw [eb]; simp [lr_sv, lr_sh, hc, hlt])
          · rw [if_pos (nI_le (by omega) (by omega))]
            exact go false (by rw [eb]; simp [lr_sv, lr_sh, hc, hlt, hw0])
theorem lm_see {l : List lr_E} {S : Int32} {A T C : Nat → Int32} {n w N : Nat} (h : lr_rep l S A T C) (ok : lr_ok l) (hn : n < 62) (hw : w ≤ 62) (hN : 5000 ≤ N) (Se La : Nat → Int32) :
    ∃ Se' La', f_M_see N S A T C Se La (nI n) (nI w) = some (Se', La') ∧ ∀ t, t < 2048 → Se' t = pu_b (lr_sv (lm_best l n t) n w) := by
  have h4 := ok.1
  obtain ⟨La1, h1, e1⟩ := lm_see_2 (N := N) (S := S) (A := A) (T := T) (C := C) (v1 := nI n) (v2 := nI w) 2048 N 0 Se La (by omega) (by omega) (fun j hj => by omega)
  obtain ⟨La2, h2, e2⟩ := lm_see_24 (N := N) (v2 := nI w) h ok hn l.length N 0 Se La1 (by omega) (by omega) (fun t ht => h1 t ht)
  obtain ⟨Se', e3, h3⟩ := lm_see_97 (N := N) h ok hn hw h2 2048 N 0 Se (by omega) (by omega) (fun t ht => by omega)
  exact ⟨Se', La2, e1.trans (e2.trans e3), h3⟩

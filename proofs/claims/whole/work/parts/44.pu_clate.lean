/-! PURE ROWS 25: the class's late -/
theorem lr_rep_lt {l : List lr_E} {j : Nat} {x : lr_E} (ok : lr_ok l) (h : l[j]? = some x) : j < 400 ∧ x.1 < 62 ∧ x.2.1 < 2048 := by
  have h1 := (List.getElem?_eq_some_iff.mp h).1
  have h2 := ok.1
  obtain ⟨h3, h4⟩ := ok.2 x (List.mem_of_getElem? h)
  exact ⟨by omega, h3, h4⟩
theorem hu_14 {l : List lr_E} {S : Int32} {A T C : Nat → Int32} {p N : Nat} {z : lr_E} (h : lr_rep l S A T C) (ok : lr_ok l) (hz : l[p]? = some z) :
    ∀ (k fuel j : Nat), j + k = l.length → k < fuel →
    ∃ U, f_Lg_heldUntil_14 N S A T (nI p) fuel (nI j) = some (nI U) ∧ ((U = 62 ∧ ∀ i x, j ≤ i → l[i]? = some x → ¬ x.2.1 = z.2.1) ∨ ∃ i x, j ≤ i ∧ l[i]? = some x ∧ x.2.1 = z.2.1 ∧ U = x.1 ∧ ∀ i' x', j ≤ i' → i' < i → l[i']? = some x' → ¬ x'.2.1 = z.2.1) := by
  intro k
  have h4 := ok.1
  obtain ⟨_, hT, _⟩ := h.2 p z hz
  obtain ⟨hp, _, hzt⟩ := lr_rep_lt ok hz
  induction k with
  | zero =>
    intro fuel j hj hf
    obtain ⟨fuel, rfl⟩ : ∃ m, fuel = m + 1 := ⟨fuel - 1, by omega⟩
    rw [f_Lg_heldUntil_14.eq_2, if_pos (by rw [h.1]; exact nI_le (by omega) (by omega))]
    refine ⟨62, rfl, Or.inl ⟨rfl, fun i x h1 h2 => ?_⟩⟩
    have := (List.getElem?_eq_some_iff.mp h2).1
    omega
  | succ k ih =>
    intro fuel j hj hf
    obtain ⟨fuel, rfl⟩ : ∃ m, fuel = m + 1 := ⟨fuel - 1, by omega⟩
    have hx : l[j]? = some l[j] := List.getElem?_eq_getElem (by omega)
    obtain ⟨hA, hT2, _⟩ := h.2 j _ hx
    obtain ⟨hj4, hx62, hxt⟩ := lr_rep_lt ok hx
    rw [f_Lg_heldUntil_14.eq_2, if_neg (by rw [h.1]; exact nI_ge (by omega) (by omega)), if_pos (pu_in (by omega) (by decide)), if_pos (pu_in (by omega) (by decide)), pu_cl (by omega), pu_cl (by omega), hT, hT2, hA]
    by_cases e : l[j].2.1 = z.2.1
    · rw [if_pos (by rw [e]), if_pos (pu_in (by omega) (by decide))]
      exact ⟨_, rfl, Or.inr ⟨j, _, Nat.le_refl _, hx, e, rfl, fun i' x' h1 h2 => by omega⟩⟩
    · rw [if_neg (fun q => e ((nI_eq (by omega) (by omega)).mp q)), nI_1]
      obtain ⟨U, e1, r⟩ := ih fuel (j + 1) (by omega) (by omega)
      refine ⟨U, e1, ?_⟩
      rcases r with ⟨r1, r2⟩ | ⟨i, x, r1, r2, r3, r4, r5⟩
      · refine Or.inl ⟨r1, fun i x h1 h2 => ?_⟩
        by_cases ei : i = j
        · subst ei; rw [hx] at h2; cases h2; exact e
        · exact r2 i x (by omega) h2
      · refine Or.inr ⟨i, x, by omega, r2, r3, r4, fun i' x' h1 h2 h3 => ?_⟩
        by_cases ei : i' = j
        · subst ei; rw [hx] at h3; cases h3; exact e
        · exact r5 i' x' (by omega) h2 h3
theorem lr_lp_ge {l : List lr_E} {n t j : Nat} {x : lr_E} (hx : l[j]? = some x) (h1 : x.1 ≤ n) (h2 : x.2.1 = t) : ∀ k, j < k → ∃ p, lr_lp l n t k = some p ∧ j ≤ p := by
  intro k
  induction k with
  | zero => intro h; omega
  | succ k ih =>
    intro h
    rw [lr_lp]
    by_cases e : j = k
    · subst e
      rw [hx]
      show ∃ p, (if x.1 ≤ n ∧ x.2.1 = t then some j else _) = some p ∧ _
      rw [if_pos ⟨h1, h2⟩]
      exact ⟨j, rfl, Nat.le_refl _⟩
    · obtain ⟨p, e1, e2⟩ := ih (by omega)
      cases hk : l[k]? with
      | none => exact ⟨p, e1, e2⟩
      | some y =>
        show ∃ p, (if y.1 ≤ n ∧ y.2.1 = t then some k else _) = some p ∧ _
        split
        · exact ⟨k, rfl, by omega⟩
        · exact ⟨p, e1, e2⟩
theorem lr_lp_f {l : List lr_E} {n t : Nat} : ∀ k p, lr_lp l n t k = some p → ∃ x, l[p]? = some x ∧ x.1 ≤ n ∧ x.2.1 = t := by
  intro k
  induction k with
  | zero => intro p h; cases h
  | succ k ih =>
    intro p h
    rw [lr_lp] at h
    cases hk : l[k]? with
    | none => rw [hk] at h; exact ih p h
    | some y =>
      rw [hk] at h
      have h : (if y.1 ≤ n ∧ y.2.1 = t then some k else lr_lp l n t k) = some p := h
      split at h
      · rename_i hc
        cases h
        exact ⟨y, hk, hc⟩
      · exact ih p h
theorem lr_last_le {l : List lr_E} {n t : Nat} {x : lr_E} (h : lr_last l n t = some x) : x ∈ l ∧ x.1 ≤ n ∧ x.2.1 = t := by
  unfold lr_last at h
  have := List.mem_of_getLast? h
  obtain ⟨h1, h2⟩ := List.mem_filter.mp this
  unfold lr_f at h2
  simp at h2
  exact ⟨h1, h2⟩
/-- what a thing said between says of the number until which it stands -/
theorem hu_E {l : List lr_E} {p n t U : Nat} {c : Bool} (ok : lr_ok l) (hs : lr_srt l) (hp : p ≤ l.length) (h1 : ∀ j x, l[j]? = some x → j < p → x.1 ≤ n) (h2 : ∀ j x, l[j]? = some x → p ≤ j → n < x.1)
    (hU : (U = 62 ∧ ∀ i x, p + 1 ≤ i → (lr_ins l p (n, t, c))[i]? = some x → ¬ x.2.1 = t) ∨ ∃ i x, p + 1 ≤ i ∧ (lr_ins l p (n, t, c))[i]? = some x ∧ x.2.1 = t ∧ U = x.1 ∧ ∀ i' x', p + 1 ≤ i' → i' < i → (lr_ins l p (n, t, c))[i']? = some x' → ¬ x'.2.1 = t) :
    n < U ∨ 62 ≤ n → (∀ m, n ≤ m → m < U → lr_last l m t = lr_last l n t ∧ lm_step m t (lr_last l m t) (n, t, c) = some (n, t, c)) ∧ (∀ m, U ≤ m → m < 62 → lm_step m t (lr_last l m t) (n, t, c) = lr_last l m t) := by
  intro _
  constructor
  · intro m hm1 hm2
    have ha : ∀ (j : Nat) (x : lr_E), l[j]? = some x → x.2.1 = t → x.1 ≤ m → x.1 ≤ n := by
      intro j x hx ht hxm
      by_cases hj : j < p
      · exact h1 j x hx hj
      · exfalso
        have hx' : (lr_ins l p (n, t, c))[j + 1]? = some x := by
          rw [lr_ins_at hp, if_neg (by omega), if_neg (by omega), Nat.add_sub_cancel]; exact hx
        rcases hU with ⟨_, hU⟩ | ⟨i, y, g1, g2, g3, g4, g5⟩
        · exact hU (j + 1) x (by omega) hx' ht
        · by_cases hij : j + 1 < i
          · exact g5 (j + 1) x (by omega) hij hx' ht
          · rw [lr_ins_at hp, if_neg (by omega), if_neg (by omega)] at g2
            have := hs (i - 1) j y x g2 hx (by omega)
            omega
    have hf : l.filter (lr_f m t) = l.filter (lr_f n t) := by
      apply List.filter_congr
      intro x hx
      obtain ⟨j, hj⟩ := List.getElem?_of_mem hx
      unfold lr_f
      by_cases ht : x.2.1 = t
      · by_cases hxm : x.1 ≤ m
        · have := ha j x hj ht hxm
          simp [ht, hxm, this]
        · have : ¬ x.1 ≤ n := by omega
          simp [hxm, this]
      · simp [ht]
    have he : lr_last l m t = lr_last l n t := by unfold lr_last; rw [hf]
    refine ⟨he, ?_⟩
    unfold lm_step
    rw [if_pos]
    refine ⟨by unfold lr_f; simp [hm1], ?_⟩
    rw [he]
    cases hl : lr_last l n t with
    | none => rfl
    | some y =>
      have := (lr_last_le hl).2.1
      show decide (y.1 ≤ n) = true
      simp [this]
  · intro m hm1 hm2
    rcases hU with ⟨hU, _⟩ | ⟨i, y, g1, g2, g3, g4, g5⟩
    · omega
    · rw [lr_ins_at hp, if_neg (by omega), if_neg (by omega)] at g2
      have hlt := (List.getElem?_eq_some_iff.mp g2).1
      have hny := h2 (i - 1) y g2 (by omega)
      obtain ⟨q, e1, e2⟩ := lr_lp_ge (n := m) g2 (by omega) g3 l.length hlt
      obtain ⟨x, k1, k2, k3⟩ := lr_lp_f _ _ e1
      have hle := hs (i - 1) q y x g2 k1 e2
      have hl : lr_last l m t = some x := by rw [lr_lp_last, e1]; exact k1
      rw [hl]
      unfold lm_step
      rw [if_neg]
      rintro ⟨_, hh⟩
      have hh : decide (x.1 ≤ n) = true := hh
      have := of_decide_eq_true hh
      omega
/-- the questions of the class: its array, and the pool -/
def qsr (qs : List mQ) (Q : Int32) (qsf : Nat → Option Nat) (PL : List mt_Q) : Prop := Q = nI qs.length ∧ qs.length ≤ 12 ∧ PL.length = qs.length ∧ ∀ q x, qs[q]? = some x → ∃ u, PL[q]? = some u ∧ qsf q = some u.1.1 ∧ qc_rep x.1 x.2 u.2.1.1 u.2.1.2.1 u.2.1.2.2 u.2.2.1 u.2.2.2
theorem fn_qs {α : Type} {L : List mt_Q} {i : Nat} {k : Nat → Nat → Nat → Int32 → Int32 → Int32 → (Nat → Int32) → (Nat → Int32) → Option α} {u : mt_Q} (h : L[i]? = some u) : fn_q L i k = k u.1.1 u.1.2.1 u.1.2.2 u.2.1.1 u.2.1.2.1 u.2.1.2.2 u.2.2.1 u.2.2.2 := by
  unfold fn_q
  rw [h]
theorem pu_bi (a b : Bool) : pu_b a = pu_b b ↔ a = b := by cases a <;> cases b <;> decide
theorem aro_3 {l0 l : List lr_E} {lS : Int32} {lA lT lC : Nat → Int32} {n N s p o : Nat} {qs : List mQ} {Q : Int32} {qsf : Nat → Option Nat} {PL : List mt_Q} {old : Option Nat} {pl : Nat} (hN : 5000 ≤ N) (h : lr_rep l lS lA lT lC) (ok : lr_ok l) (hs : lr_srt l) (hq : qsr qs Q qsf PL) (hn : n < 62) (hs16 : s < 16) (hp8 : p < 8) (ho16 : o < 16)
    (hE : ∀ u, ¬ u = 128 * s + 16 * p + o → lr_last l0 n u = lr_last l n u)
    (hold : ∀ w, w ≤ 62 → f_Lg_shows lS lA lC (lr_pl old) (nI n) (nI w) = some (pu_b (lr_sv (lr_last l0 n (128 * s + 16 * p + o)) n w)))
    (hfresh : ∀ w, w ≤ 62 → f_Lg_shows lS lA lC (nI pl) (nI n) (nI w) = some (pu_b (lr_sv (lr_last l n (128 * s + 16 * p + o)) n w))) :
    ∀ (k fuel i : Nat) (sf of vf : Nat → Int32) (S : Int32) (f : Nat → Int32), i + k = qs.length → k < fuel → (∀ j x, j < i → qs[j]? = some x → df (qB (lr_last l0) x n) (qB (lr_last l) x n) = false) →
    ∃ sf' of' vf' S' f', f_C_areRowsOthers_3 PL N Q qsf lS lA lT lC (nI n) (nI (128 * s + 16 * p + o)) (lr_pl old) (nI pl) fuel sf of vf S f (nI i) = some (pu_b (lc (lr_last l0) (lr_last l) qs n), sf', of', vf', S', f') := by
  intro k
  have h12 := hq.2.1
  induction k with
  | zero =>
    intro fuel i sf of vf S f hi hf hd
    obtain ⟨fuel, rfl⟩ : ∃ m, fuel = m + 1 := ⟨fuel - 1, by omega⟩
    rw [f_C_areRowsOthers_3.eq_2, if_pos (by rw [hq.1]; exact nI_le (by omega) (by omega))]
    have : lc (lr_last l0) (lr_last l) qs n = false := by
      unfold lc
      rw [List.any_eq_false]
      intro x hx
      obtain ⟨j, hj⟩ := List.getElem?_of_mem hx
      have := (List.getElem?_eq_some_iff.mp hj).1
      rw [hd j x (by omega) hj]
      decide
    rw [this]
    exact ⟨_, _, _, _, _, rfl⟩
  | succ k ih =>
    intro fuel i sf of vf S f hi hf hd
    obtain ⟨fuel, rfl⟩ : ∃ m, fuel = m + 1 := ⟨fuel - 1, by omega⟩
    have hx : qs[i]? = some qs[i] := List.getElem?_eq_getElem (by omega)
    obtain ⟨u, hu, hqs, hqc⟩ := hq.2.2.2 i _ hx
    generalize qs[i] = x at hx hqc
    have hw := hqc.2.1
    rw [f_C_areRowsOthers_3.eq_2, if_neg (by rw [hq.1]; exact nI_ge (by omega) (by omega)), if_pos (pu_in (by omega) (by decide)), pu_cl (by omega), hqs]
    unfold fn_o
    show ∃ sf' of' vf' S' f', fn_q PL i _ = _
    rw [fn_qs hu, if_pos rfl]
    have hdf := hr_df (sn0 := fun t => lr_sv (lr_last l0 n t) n x.1) (sn1 := fun t => lr_sv (lr_last l n t) n x.1) (ps := x.2) (s := s) (p := p) (o := o) hp8 hqc.2.2.2 (fun v hv => by rw [hE v hv]) ho16
    have sh1 := hold x.1 hw
    have sh2 := hfresh x.1 hw
    rw [← hqc.1] at sh1 sh2
    rw [sh1, fn_s1, sh2, fn_s1]
    have next : ∀ (sf' of' vf' : Nat → Int32) (S' : Int32) (f' : Nat → Int32), df (qB (lr_last l0) x n) (qB (lr_last l) x n) = false → ∃ sf'' of'' vf'' S'' f'', f_C_areRowsOthers_3 PL N Q qsf lS lA lT lC (nI n) (nI (128 * s + 16 * p + o)) (lr_pl old) (nI pl) fuel sf' of' vf' S' f' (nI i + 1) = some (pu_b (lc (lr_last l0) (lr_last l) qs n), sf'', of'', vf'', S'', f'') := by
      intro sf' of' vf' S' f' hno
      rw [nI_1]
      refine ih fuel (i + 1) sf' of' vf' S' f' (by omega) (by omega) (fun j y hj hy => ?_)
      by_cases ej : j = i
      · subst ej; rw [hx] at hy; cases hy; exact hno
      · exact hd j y (by omega) hy
    by_cases hb : lr_sv (lr_last l0 n (128 * s + 16 * p + o)) n x.1 = lr_sv (lr_last l n (128 * s + 16 * p + o)) n x.1
    · rw [if_pos ((pu_bi _ _).mpr hb)]
      refine next _ _ _ _ _ ?_
      cases hz : df (qB (lr_last l0) x n) (qB (lr_last l) x n) with
      | false => rfl
      | true => exact absurd hb (hdf.mp hz).1
    · rw [if_neg (fun z => hb ((pu_bi _ _).mp z))]
      obtain ⟨b, sf1, of1, vf1, S1, f1, e1, hb1⟩ := hr_all (N := N) (s := s) (p := p) (o := o) (sf := sf) (of := of) (vf := vf) (S := S) (f := f) hN h ok hs hqc hn hs16 hp8 ho16
      rw [e1, fn_s6]
      cases b with
      | false =>
        rw [if_pos (by rfl)]
        refine next _ _ _ _ _ ?_
        cases hz : df (qB (lr_last l0) x n) (qB (lr_last l) x n) with
        | false => rfl
        | true => have := hb1.mpr (hdf.mp hz).2; cases this
      | true =>
        rw [if_neg pu_b1]
        have hz : df (qB (lr_last l0) x n) (qB (lr_last l) x n) = true := hdf.mpr ⟨hb, hb1.mp rfl⟩
        have : lc (lr_last l0) (lr_last l) qs n = true := by
          unfold lc
          rw [List.any_eq_true]
          exact ⟨x, List.mem_of_getElem? hx, hz⟩
        rw [this]
        exact ⟨_, _, _, _, _, rfl⟩
theorem cn_zero {P : Nat → Bool} : ∀ (k a : Nat), (∀ m, a ≤ m → m < a + k → P m = false) → cn P a k = 0 := by
  intro k
  induction k with
  | zero => intro a _; rfl
  | succ k ih =>
    intro a h
    rw [cn, h a (by omega) (by omega), if_neg (by decide), ih (a + 1) (fun m h1 h2 => h m (by omega) (by omega))]
theorem cl_89 {l0 l : List lr_E} {lS : Int32} {lA lT lC : Nat → Int32} {N s p o L U : Nat} {qs : List mQ} {Q : Int32} {qsf : Nat → Option Nat} {PL : List mt_Q} {old : Option Nat} {pl n0 : Nat} (hN : 5000 ≤ N) (h : lr_rep l lS lA lT lC) (ok : lr_ok l) (hs : lr_srt l) (hq : qsr qs Q qsf PL) (hL : L < 62) (hU : U ≤ 62) (hs16 : s < 16) (hp8 : p < 8) (ho16 : o < 16)
    (hE : ∀ n u, ¬ u = 128 * s + 16 * p + o → lr_last l0 n u = lr_last l n u)
    (hold : ∀ n w, n0 ≤ n → n < U → n < 62 → w ≤ 62 → f_Lg_shows lS lA lC (lr_pl old) (nI n) (nI w) = some (pu_b (lr_sv (lr_last l0 n (128 * s + 16 * p + o)) n w)))
    (hfresh : ∀ n w, n0 ≤ n → n < U → n < 62 → w ≤ 62 → f_Lg_shows lS lA lC (nI pl) (nI n) (nI w) = some (pu_b (lr_sv (lr_last l n (128 * s + 16 * p + o)) n w)))
    (hlate : ∀ n, n0 ≤ n → U ≤ n → n < 62 → lr_last l0 n = lr_last l n) :
    ∀ (k fuel n v : Nat) (sf of vf : Nat → Int32) (S : Int32) (f : Nat → Int32), n + k = L + 1 → k < fuel → n0 ≤ n →
    ∃ sf' of' vf' S' f', f_C_late_89 PL N (nI L) Q qsf (nI (128 * s + 16 * p + o)) (lr_pl old) (nI pl) (nI U) fuel lS lA lT lC sf of vf S f (nI v) (nI n) = some (nI (v + cn (lc (lr_last l0) (lr_last l) qs) n k), lS, lA, lT, lC, sf', of', vf', S', f') := by
  intro k
  have h12 := hq.2.1
  induction k with
  | zero =>
    intro fuel n v sf of vf S f hn hf h0
    obtain ⟨fuel, rfl⟩ : ∃ m, fuel = m + 1 := ⟨fuel - 1, by omega⟩
    rw [f_C_late_89.eq_2, if_pos (nI_lt (by omega) (by omega))]
    exact ⟨_, _, _, _, _, rfl⟩
  | succ k ih =>
    intro fuel n v sf of vf S f hn hf h0
    obtain ⟨fuel, rfl⟩ : ∃ m, fuel = m + 1 := ⟨fuel - 1, by omega⟩
    rw [f_C_late_89.eq_2, if_neg (nI_nlt (by omega) (by omega))]
    by_cases hu : U ≤ n
    · rw [if_pos (nI_le hu (by omega)), cn_zero (k + 1) n (fun m h1 h2 => ?_)]
      · exact ⟨_, _, _, _, _, rfl⟩
      · unfold lc
        rw [List.any_eq_false]
        intro x _ hz
        unfold qB at hz
        rw [hlate m (by omega) (by omega) (by omega)] at hz
        obtain ⟨κ, _, hκ⟩ := df_true.mp hz
        exact hκ rfl
    · rw [if_neg (nI_ge (by omega) (by omega))]
      unfold f_C_areRowsOthers
      obtain ⟨sf1, of1, vf1, S1, f1, e1⟩ := aro_3 (N := N) (l0 := l0) (n := n) (old := old) (pl := pl) hN h ok hs hq (by omega) hs16 hp8 ho16 (hE n) (fun w hw => hold n w h0 (by omega) (by omega) hw) (fun w hw => hfresh n w h0 (by omega) (by omega) hw) qs.length N 0 sf of vf S f (by omega) (by omega) (fun j x hj => by omega)
      rw [show f_C_areRowsOthers_3 PL N Q qsf lS lA lT lC (nI n) (nI (128 * s + 16 * p + o)) (lr_pl old) (nI pl) N sf of vf S f 0 = _ from e1, fn_s6, cn, nI_1]
      cases hb : lc (lr_last l0) (lr_last l) qs n with
      | false =>
        rw [if_pos (by rfl), if_neg (by decide)]
        obtain ⟨sf2, of2, vf2, S2, f2, e2⟩ := ih fuel (n + 1) v sf1 of1 vf1 S1 f1 (by omega) (by omega) (by omega)
        exact ⟨sf2, of2, vf2, S2, f2, by rw [e2, Nat.zero_add]⟩
      | true =>
        rw [if_neg pu_b1, if_pos rfl, nI_1]
        obtain ⟨sf2, of2, vf2, S2, f2, e2⟩ := ih fuel (n + 1) (v + 1) sf1 of1 vf1 S1 f1 (by omega) (by omega) (by omega)
        exact ⟨sf2, of2, vf2, S2, f2, by rw [e2, Nat.add_assoc]⟩

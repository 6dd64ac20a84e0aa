/-! PURE ROWS 26: class and model side by side -/
def JR (N num L : Nat) (l ml : List lr_E) (qs : List mQ) (crN crL crQ : Int32) (qsf : Nat → Option Nat) (lgS : Int32) (lgA lgT lgC : Nat → Int32) (PL : List mt_Q) (mdN mdL mdS mdQ : Int32) (Wh Tr Co Wi Pc It : Nat → Int32) (Ro : Nat → Int64) (Kn : Nat → Int32) : Prop :=
  (crN = nI num ∧ crL = nI L ∧ mdN = nI num ∧ mdL = nI L ∧ L < num ∧ num ≤ 62) ∧ (lr_rep l lgS lgA lgT lgC ∧ lr_ok l ∧ lr_srt l) ∧ (l.length = ml.length ∧ lr_last l = lm_best ml) ∧ qsr qs crQ qsf PL ∧ MC N ml qs mdS mdQ Wh Tr Co Wi Pc It ∧ ca (lm_best ml) qs L Ro Kn
def JX (N : Nat) (crN crL crQ : Int32) (qsf : Nat → Option Nat) (lgS : Int32) (lgA lgT lgC : Nat → Int32) (PL : List mt_Q) (mdN mdL mdS mdQ : Int32) (Wh Tr Co Wi Pc It : Nat → Int32) (Ro : Nat → Int64) (Kn : Nat → Int32) : Prop := ∃ num L l ml qs, JR N num L l ml qs crN crL crQ qsf lgS lgA lgT lgC PL mdN mdL mdS mdQ Wh Tr Co Wi Pc It Ro Kn
theorem tr_cases (v0 v1 v2 : Int32) : (f_C_isTriple v0 v1 v2 = some 0 ∧ f_M_isTriple v0 v1 v2 = some 0) ∨ ∃ s p o, s < 16 ∧ p < 8 ∧ o < 16 ∧ v0 = nI s ∧ v1 = nI p ∧ v2 = nI o ∧ f_C_isTriple v0 v1 v2 = some 1 ∧ f_M_isTriple v0 v1 v2 = some 1 := by
  have e : f_M_isTriple v0 v1 v2 = f_C_isTriple v0 v1 v2 := rfl
  rw [e]
  unfold f_C_isTriple
  rcases pk_ix v0 (n := 16) (by decide) with h | h | ⟨s, hs, rfl⟩
  · left; rw [if_pos h]; exact ⟨rfl, rfl⟩
  · left
    have h : (16 : Int32) ≤ v0 := h
    rw [if_pos h]
    split <;> exact ⟨rfl, rfl⟩
  rw [if_neg (nI_pos (by omega)), if_neg (show ¬ (16 : Int32) ≤ nI s from nI_ge (b := 16) hs (by decide))]
  rcases pk_ix v1 (n := 8) (by decide) with h | h | ⟨p, hp, rfl⟩
  · left; rw [if_pos h]; exact ⟨rfl, rfl⟩
  · left
    have h : (8 : Int32) ≤ v1 := h
    rw [if_pos h]
    split <;> exact ⟨rfl, rfl⟩
  rw [if_neg (nI_pos (by omega)), if_neg (show ¬ (8 : Int32) ≤ nI p from nI_ge (b := 8) hp (by decide))]
  rcases pk_ix v2 (n := 16) (by decide) with h | h | ⟨o, ho, rfl⟩
  · left; rw [if_pos h]; exact ⟨rfl, rfl⟩
  · left
    have h : (16 : Int32) ≤ v2 := h
    rw [if_pos h]
    split <;> exact ⟨rfl, rfl⟩
  rw [if_neg (nI_pos (by omega)), if_neg (show ¬ (16 : Int32) ≤ nI o from nI_ge (b := 16) ho (by decide))]
  exact Or.inr ⟨s, p, o, hs, hp, ho, rfl, rfl, rfl, rfl, rfl⟩
theorem tr_of {s p o : Nat} : f_C_tripleOf (nI s) (nI p) (nI o) = some (nI (128 * s + 16 * p + o)) := by
  unfold f_C_tripleOf
  rw [show (8 : Int32) = nI 8 from rfl, show (16 : Int32) = nI 16 from rfl, pk_mul, nI_add, pk_mul, nI_add]
  congr 2
  omega
theorem pa_cases {L : Nat} (hL : L < 62) (v : Int32) : (f_C_isPast (nI L) v = some 0 ∧ f_M_isNumber (nI L) v = some 0) ∨ ∃ n, n ≤ L ∧ v = nI n ∧ f_C_isPast (nI L) v = some 1 ∧ f_M_isNumber (nI L) v = some 1 := by
  have e : f_M_isNumber (nI L) v = f_C_isPast (nI L) v := rfl
  rw [e]
  unfold f_C_isPast
  by_cases h : v < 0
  · left; rw [if_pos h]; exact ⟨rfl, rfl⟩
  · obtain ⟨n, hn, rfl⟩ := nI_of h
    rw [if_neg h]
    by_cases hl : n ≤ L
    · right
      rw [if_neg (nI_nlt hl (by omega))]
      exact ⟨n, hl, rfl, rfl, rfl⟩
    · left
      rw [if_pos (nI_lt (by omega) hn)]
      exact ⟨rfl, rfl⟩
theorem fi_cases {qs : List mQ} {Q mQ' : Int32} {qsf : Nat → Option Nat} {PL : List mt_Q} (h : qsr qs Q qsf PL) (hm : mQ' = nI qs.length) (v : Int32) : (f_C_find Q qsf v = some none ∧ f_M_isQuestion mQ' v = some 0) ∨ ∃ q x u, v = nI q ∧ q < 12 ∧ qs[q]? = some x ∧ PL[q]? = some u ∧ qc_rep x.1 x.2 u.2.1.1 u.2.1.2.1 u.2.1.2.2 u.2.2.1 u.2.2.2 ∧ f_C_find Q qsf v = some (some u.1.1) ∧ f_M_isQuestion mQ' v = some 1 := by
  obtain ⟨h1, h2, h3, h4⟩ := h
  unfold f_C_find f_M_isQuestion
  rw [h1, hm]
  by_cases hv : v < 0
  · left; rw [if_pos hv, if_pos hv]; exact ⟨rfl, rfl⟩
  · obtain ⟨q, hq, rfl⟩ := nI_of hv
    rw [if_neg hv, if_neg hv]
    by_cases hl : q < qs.length
    · right
      have hx : qs[q]? = some qs[q] := List.getElem?_eq_getElem hl
      obtain ⟨u, hu, hf, hr⟩ := h4 q _ hx
      rw [if_neg (nI_ge hl (by omega)), if_neg (nI_ge hl (by omega)), if_pos (pu_in (by omega) (by decide)), pu_cl hq, hf]
      exact ⟨q, _, u, rfl, by omega, hx, hu, hr, rfl, rfl⟩
    · left
      rw [if_pos (nI_le (by omega) hq), if_pos (nI_le (by omega) hq)]
      exact ⟨rfl, rfl⟩
theorem fg_2 {N q : Nat} (hq : q < 12) : ∀ (k fuel n : Nat) (Kn : Nat → Int32), n + k = 62 → k < fuel →
    ∃ Kn', f_M_forget_2 N (nI q) fuel Kn (nI n) = some Kn' ∧ (∀ n', n ≤ n' → n' < 62 → Kn' (62 * q + n') = 0) ∧ (∀ j, (j < 62 * q + n ∨ 62 * q + 62 ≤ j) → Kn' j = Kn j) := by
  intro k
  induction k with
  | zero =>
    intro fuel n Kn hn hf
    obtain ⟨fuel, rfl⟩ : ∃ m, fuel = m + 1 := ⟨fuel - 1, by omega⟩
    rw [f_M_forget_2.eq_2, if_pos (show (62 : Int32) ≤ nI n from nI_le (a := 62) (by omega) (by omega))]
    exact ⟨Kn, rfl, fun n' h1 h2 => by omega, fun j hj => rfl⟩
  | succ k ih =>
    intro fuel n Kn hn hf
    obtain ⟨fuel, rfl⟩ : ∃ m, fuel = m + 1 := ⟨fuel - 1, by omega⟩
    have e : (62 : Int32) * nI q + nI n = nI (62 * q + n) := by rw [show (62 : Int32) = nI 62 from rfl, pk_mul, nI_add]
    rw [f_M_forget_2.eq_2, if_neg (show ¬ (62 : Int32) ≤ nI n from nI_ge (b := 62) (by omega) (by decide)), e, if_pos (pu_in (by omega) (by decide)), pu_cl (by omega), nI_1]
    obtain ⟨Kn', e1, h1, h2⟩ := ih fuel (n + 1) (upd Kn (62 * q + n) (vp_nar .boolean 0)) (by omega) (by omega)
    refine ⟨Kn', e1, fun n' g1 g2 => ?_, fun j hj => ?_⟩
    · by_cases en : n' = n
      · rw [en, h2 _ (by omega), pk_us]; rfl
      · exact h1 n' (by omega) g2
    · rw [h2 j (by omega), pk_un (by omega)]
theorem fg_all {N q n : Nat} (hN : 5000 ≤ N) (hq : q < 12) (hn : n < 62) (Kn : Nat → Int32) : ∃ Kn', f_M_forget N Kn (nI q) (nI n) = some Kn' ∧ (∀ n', n ≤ n' → n' < 62 → Kn' (62 * q + n') = 0) ∧ (∀ j, (j < 62 * q + n ∨ 62 * q + 62 ≤ j) → Kn' j = Kn j) :=
  fg_2 (N := N) hq (62 - n) N n Kn (by omega) (by omega)
theorem ch_59 {N L Qn : Nat} {v4 v5 : Int32} (hN : 5000 ≤ N) (hL : L < 62) (hQ : Qn ≤ 12) {S : Int32} {Wh Tr Co : Nat → Int32} : ∀ (k fuel q : Nat) (Kn : Nat → Int32), q + k = Qn → k < fuel →
    ∃ Kn', f_M_change_59 N (nI L) (nI Qn) v4 v5 fuel S Wh Tr Co Kn (nI q) = some (if v5 = v4 then 0 else 1, S, Wh, Tr, Co, Kn') ∧ (∀ q' n', q ≤ q' → q' < Qn → L ≤ n' → n' < 62 → Kn' (62 * q' + n') = 0) ∧ (∀ j, Kn' j = Kn j ∨ Kn' j = 0) ∧ (∀ j, j < 62 * q → Kn' j = Kn j) := by
  intro k
  induction k with
  | zero =>
    intro fuel q Kn hq hf
    obtain ⟨fuel, rfl⟩ : ∃ m, fuel = m + 1 := ⟨fuel - 1, by omega⟩
    rw [f_M_change_59.eq_2, if_pos (nI_le (by omega) (by omega))]
    refine ⟨Kn, ?_, fun q' n' h1 h2 => by omega, fun j => Or.inl rfl, fun j hj => rfl⟩
    split <;> rfl
  | succ k ih =>
    intro fuel q Kn hq hf
    obtain ⟨fuel, rfl⟩ : ∃ m, fuel = m + 1 := ⟨fuel - 1, by omega⟩
    rw [f_M_change_59.eq_2, if_neg (nI_ge (by omega) (by omega))]
    obtain ⟨Kn1, e1, h1, h2⟩ := fg_all (N := N) (q := q) hN (by omega) hL Kn
    rw [e1, fn_s1, nI_1]
    obtain ⟨Kn2, e2, g1, g2, g3⟩ := ih fuel (q + 1) Kn1 (by omega) (by omega)
    refine ⟨Kn2, e2, fun q' n' a1 a2 a3 a4 => ?_, fun j => ?_, fun j hj => ?_⟩
    · by_cases eq : q' = q
      · rw [eq, g3 _ (by omega)]; exact h1 n' a3 a4
      · exact g1 q' n' (by omega) a2 a3 a4
    · rcases g2 j with r | r
      · by_cases hj : j < 62 * q + L ∨ 62 * q + 62 ≤ j
        · left; rw [r, h2 j hj]
        · right
          rw [r]
          have := h1 (j - 62 * q) (by omega) (by omega)
          rwa [show 62 * q + (j - 62 * q) = j by omega] at this
      · exact Or.inr r
    · rw [g3 j (by omega), h2 j (by omega)]
theorem ml_full {ml : List lr_E} (h : ml.length ≤ 400) : (nI ml.length = 400) ↔ ¬ ml.length < 400 := by
  rw [show (400 : Int32) = nI 400 from rfl, nI_eq (by omega) (by decide)]
  omega
theorem lk_say {l ml : List lr_E} {p n t : Nat} {c : Bool} (hlk : lr_last l = lm_best ml) (h1 : ∀ j x, l[j]? = some x → j < p → x.1 ≤ n) (h2 : ∀ j x, l[j]? = some x → p ≤ j → n < x.1) : lr_last (lr_ins l p (n, t, c)) = lm_best (ml ++ [(n, t, c)]) := by
  funext m u
  rw [lr_ins_last (z := (n, t, c)) h1 h2, lm_best_snoc, hlk]
theorem j_change {N : Nat} {crN crL crQ : Int32} {qsf : Nat → Option Nat} {lgS : Int32} {lgA lgT lgC : Nat → Int32} {PL : List mt_Q} {mdN mdL mdS mdQ : Int32} {Wh Tr Co Wi Pc It : Nat → Int32} {Ro : Nat → Int64} {Kn : Nat → Int32} (h : JX N crN crL crQ qsf lgS lgA lgT lgC PL mdN mdL mdS mdQ Wh Tr Co Wi Pc It Ro Kn) (v1 v2 v3 : Int32) (c : Bool) :
    ∃ r lgS' lgA' lgT' lgC' mdS' Wh' Tr' Co' Kn', f_C_change N crL lgS lgA lgT lgC v1 v2 v3 (pu_b c) = some (r, lgS', lgA', lgT', lgC') ∧ f_M_change N mdL mdS mdQ Wh Tr Co Kn v1 v2 v3 (pu_b c) = some (r, mdS', Wh', Tr', Co', Kn') ∧ JX N crN crL crQ qsf lgS' lgA' lgT' lgC' PL mdN mdL mdS' mdQ Wh' Tr' Co' Wi Pc It Ro Kn' := by
  have h0 := h
  obtain ⟨num, L, l, ml, qs, ⟨hcN, hcL, hmN, hmL, hLn, hn62⟩, ⟨hrep, hok, hsrt⟩, ⟨hlen, hlk⟩, hqs, hM, hca⟩ := h
  have hN := hM.hN
  have h4 := hok.1
  unfold f_C_change f_M_change
  rcases tr_cases v1 v2 v3 with ⟨e1, e2⟩ | ⟨s, p, o, hs, hp, ho, rfl, rfl, rfl, e1, e2⟩
  · rw [e1, e2, fn_s1, fn_s1, if_pos rfl, if_pos rfl]
    exact ⟨_, _, _, _, _, _, _, _, _, _, rfl, rfl, h0⟩
  · rw [e1, e2, fn_s1, fn_s1, if_neg (by decide), if_neg (by decide)]
    have hmS := hM.rep.1
    have hlS := hrep.1
    unfold f_Lg_isFull
    by_cases hl : l.length < 400
    · have t2 : 128 * s + 16 * p + o < 2048 := by omega
      obtain ⟨pp, A', T', C', es, hpp, g1, g2, grep⟩ := lr_say (N := N) (n := L) (t := 128 * s + 16 * p + o) (c := c) hrep hok hsrt hl (by omega) hN
      obtain ⟨Wh2, Tr2, Co2, es2, mrep⟩ := lm_say (n := L) (t := 128 * s + 16 * p + o) (c := c) hM.rep (by omega)
      have hlo := lr_lastOf (N := N) (n := L) (t := 128 * s + 16 * p + o) hrep hok (by omega) t2 hN
      have hco := lr_comesAt (o := lr_lp l L (128 * s + 16 * p + o) l.length) hrep hok (fun p' e => (lr_lp_lt _ _ e).2)
      have hth := lm_isThere (N := N) (n := L) (t := 128 * s + 16 * p + o) hM.rep hM.ok (by omega) t2 hN
      rw [← lr_lp_last, hlk] at hco
      have f1 : (if lgS < 400 then (some 0 : Option Int32) else some 1) = some 0 := if_pos (by rw [hlS]; exact nI_lt (b := 400) hl (by decide))
      have f2 : ¬ mdS = 400 := by rw [hmS]; intro z; exact (ml_full (by omega)).mp z (by omega)
      rw [f1, fn_s1, if_pos rfl, if_neg f2, tr_of, fn_s1, mq_triple, fn_s1, hcL, hmL, hlo, fn_s1, hco, fn_s1, hth, fn_s1, fn_s1, es, fn_s5, es2, fn_s4, hM.qr.1]
      obtain ⟨Kn', e5, k1, k2, _⟩ := ch_59 (N := N) (L := L) (Qn := qs.length) (v4 := pu_b c) (v5 := pu_b ((lm_best ml L (128 * s + 16 * p + o)).any (fun x => x.2.2))) (S := nI (ml.length + 1)) (Wh := Wh2) (Tr := Tr2) (Co := Co2) hN (by omega) hqs.2.1 qs.length N 0 Kn (by omega) (by have := hqs.2.1; omega)
      rw [show (0 : Int32) = nI 0 from rfl, e5]
      refine ⟨_, _, _, _, _, _, _, _, _, _, ?_, rfl, num, L, lr_ins l pp (L, 128 * s + 16 * p + o, c), ml ++ [(L, 128 * s + 16 * p + o, c)], qs, ⟨hcN, rfl, hmN, rfl, hLn, hn62⟩, ⟨grep, lr_ins_ok hok hl hpp (by omega) t2, lr_ins_srt hpp hsrt g1 g2⟩, ⟨?_, lk_say hlk g1 g2⟩, hqs, ⟨hN, mrep, lr_ok_snoc hM.ok (by omega) (by omega) t2, ?_⟩, ?_⟩
      · split <;> rfl
      · rw [lr_ins_len hpp, List.length_append, hlen]; rfl
      · have := hM.qr; rw [hM.qr.1] at this; exact this
      · intro q x n hx hn hk
        have hq := (List.getElem?_eq_some_iff.mp hx).1
        have hnL : n < L := Classical.byContradiction (fun z => hk (k1 q n (by omega) hq (by omega) hn))
        rcases k2 (62 * q + n) with r | r
        · rw [r] at hk
          obtain ⟨a1, a2⟩ := hca q x n hx hn hk
          refine ⟨a1, fun w hw => ?_⟩
          rw [a2 w hw]
          unfold qB
          rw [lm_best_early (show n < (L, 128 * s + 16 * p + o, c).1 from hnL)]
        · exact absurd r hk
    · have f1 : (if lgS < 400 then (some 0 : Option Int32) else some 1) = some 1 := if_neg (by rw [hlS]; exact nI_nlt (b := 400) (by omega) (by omega))
      have f2 : mdS = 400 := by rw [hmS]; exact (ml_full (by omega)).mpr (by omega)
      rw [f1, fn_s1, if_neg (by decide), if_pos f2]
      exact ⟨_, _, _, _, _, _, _, _, _, _, rfl, rfl, h0⟩
theorem j_step {N : Nat} {crN crL crQ : Int32} {qsf : Nat → Option Nat} {lgS : Int32} {lgA lgT lgC : Nat → Int32} {PL : List mt_Q} {mdN mdL mdS mdQ : Int32} {Wh Tr Co Wi Pc It : Nat → Int32} {Ro : Nat → Int64} {Kn : Nat → Int32} (h : JX N crN crL crQ qsf lgS lgA lgT lgC PL mdN mdL mdS mdQ Wh Tr Co Wi Pc It Ro Kn) :
    ∃ r crL' mdL', f_C_step crN crL = some (r, crL') ∧ f_M_step mdN mdL = some (r, mdL') ∧ JX N crN crL' crQ qsf lgS lgA lgT lgC PL mdN mdL' mdS mdQ Wh Tr Co Wi Pc It Ro Kn := by
  have h0 := h
  obtain ⟨num, L, l, ml, qs, ⟨hcN, hcL, hmN, hmL, hLn, hn62⟩, hl, hlk, hqs, hM, hca⟩ := h
  unfold f_C_step f_M_step
  obtain ⟨num, rfl⟩ : ∃ k, num = k + 1 := ⟨num - 1, by omega⟩
  rw [hcN, hcL, hmN, hmL, nI_pred, nI_1]
  by_cases e : L < num
  · rw [if_pos (nI_lt e (by omega)), if_neg (fun z => by have := (nI_eq (by omega) (by omega)).mp z; omega)]
    refine ⟨_, _, _, rfl, rfl, num + 1, L + 1, l, ml, qs, ⟨rfl, rfl, rfl, rfl, by omega, hn62⟩, hl, hlk, hqs, hM, fun q x n hx hn hk => ?_⟩
    obtain ⟨a1, a2⟩ := hca q x n hx hn hk
    exact ⟨by omega, a2⟩
  · rw [if_neg (nI_nlt (by omega) (by omega)), if_pos (by rw [nI_eq (by omega) (by omega)]; omega)]
    exact ⟨_, _, _, rfl, rfl, num + 1, L, l, ml, qs, ⟨rfl, rfl, rfl, rfl, hLn, hn62⟩, hl, hlk, hqs, hM, hca⟩
theorem j_latest {N : Nat} {crN crL crQ : Int32} {qsf : Nat → Option Nat} {lgS : Int32} {lgA lgT lgC : Nat → Int32} {PL : List mt_Q} {mdN mdL mdS mdQ : Int32} {Wh Tr Co Wi Pc It : Nat → Int32} {Ro : Nat → Int64} {Kn : Nat → Int32} (h : JX N crN crL crQ qsf lgS lgA lgT lgC PL mdN mdL mdS mdQ Wh Tr Co Wi Pc It Ro Kn) : ∃ r, f_C_latest crL = some r ∧ f_M_latest mdL = some r := by
  obtain ⟨num, L, l, ml, qs, ⟨hcN, hcL, hmN, hmL, hLn, hn62⟩, _⟩ := h
  rw [hcL, hmL]
  exact ⟨_, rfl, rfl⟩
theorem j_there {N : Nat} {crN crL crQ : Int32} {qsf : Nat → Option Nat} {lgS : Int32} {lgA lgT lgC : Nat → Int32} {PL : List mt_Q} {mdN mdL mdS mdQ : Int32} {Wh Tr Co Wi Pc It : Nat → Int32} {Ro : Nat → Int64} {Kn : Nat → Int32} (h : JX N crN crL crQ qsf lgS lgA lgT lgC PL mdN mdL mdS mdQ Wh Tr Co Wi Pc It Ro Kn) (v1 v2 v3 v4 : Int32) : ∃ r, f_C_there N crL lgS lgA lgT lgC v1 v2 v3 v4 = some r ∧ f_M_there N mdL mdS Wh Tr Co v1 v2 v3 v4 = some r := by
  obtain ⟨num, L, l, ml, qs, ⟨hcN, hcL, hmN, hmL, hLn, hn62⟩, ⟨hrep, hok, hsrt⟩, ⟨hlen, hlk⟩, hqs, hM, hca⟩ := h
  have hN := hM.hN
  unfold f_C_there f_M_there
  rw [hcL, hmL]
  rcases pa_cases (L := L) (by omega) v1 with ⟨e1, e2⟩ | ⟨n, hn, rfl, e1, e2⟩
  · rw [e1, e2]; exact ⟨_, rfl, rfl⟩
  rw [e1, e2, fn_s1, fn_s1, if_neg (by decide), if_neg (by decide)]
  rcases tr_cases v2 v3 v4 with ⟨e1, e2⟩ | ⟨s, p, o, hs, hp, ho, rfl, rfl, rfl, e1, e2⟩
  · rw [e1, e2]; exact ⟨_, rfl, rfl⟩
  have t2 : 128 * s + 16 * p + o < 2048 := by omega
  have hlo := lr_lastOf (N := N) (n := n) (t := 128 * s + 16 * p + o) hrep hok (by omega) t2 hN
  have hco := lr_comesAt (o := lr_lp l n (128 * s + 16 * p + o) l.length) hrep hok (fun p' e => (lr_lp_lt _ _ e).2)
  have hth := lm_isThere (N := N) (n := n) (t := 128 * s + 16 * p + o) hM.rep hM.ok (by omega) t2 hN
  rw [← lr_lp_last, hlk] at hco
  rw [e1, e2, fn_s1, fn_s1, if_neg (by decide), if_neg (by decide), tr_of, fn_s1, mq_triple, fn_s1, hlo, fn_s1, hco, fn_s1, hth, fn_s1]
  split <;> exact ⟨_, rfl, rfl⟩
theorem j_age {N : Nat} {crN crL crQ : Int32} {qsf : Nat → Option Nat} {lgS : Int32} {lgA lgT lgC : Nat → Int32} {PL : List mt_Q} {mdN mdL mdS mdQ : Int32} {Wh Tr Co Wi Pc It : Nat → Int32} {Ro : Nat → Int64} {Kn : Nat → Int32} (h : JX N crN crL crQ qsf lgS lgA lgT lgC PL mdN mdL mdS mdQ Wh Tr Co Wi Pc It Ro Kn) (v1 v2 v3 v4 : Int32) : ∃ r, f_C_age N crL lgS lgA lgT lgC v1 v2 v3 v4 = some r ∧ f_M_age N mdL mdS Wh Tr Co v1 v2 v3 v4 = some r := by
  obtain ⟨num, L, l, ml, qs, ⟨hcN, hcL, hmN, hmL, hLn, hn62⟩, ⟨hrep, hok, hsrt⟩, ⟨hlen, hlk⟩, hqs, hM, hca⟩ := h
  have hN := hM.hN
  unfold f_C_age f_M_age
  rw [hcL, hmL]
  rcases pa_cases (L := L) (by omega) v1 with ⟨e1, e2⟩ | ⟨n, hn, rfl, e1, e2⟩
  · rw [e1, e2]; exact ⟨_, rfl, rfl⟩
  rw [e1, e2, fn_s1, fn_s1, if_neg (by decide), if_neg (by decide)]
  rcases tr_cases v2 v3 v4 with ⟨e1, e2⟩ | ⟨s, p, o, hs, hp, ho, rfl, rfl, rfl, e1, e2⟩
  · rw [e1, e2]; exact ⟨_, rfl, rfl⟩
  have t2 : 128 * s + 16 * p + o < 2048 := by omega
  have hlo := lr_lastOf (N := N) (n := n) (t := 128 * s + 16 * p + o) hrep hok (by omega) t2 hN
  have hml := lm_last (N := N) (n := n) (t := 128 * s + 16 * p + o) hM.rep hM.ok (by omega) t2 hN
  have hco := lr_comesAt (o := lr_lp l n (128 * s + 16 * p + o) l.length) hrep hok (fun p' e => (lr_lp_lt _ _ e).2)
  have hth := lm_isThere (N := N) (n := n) (t := 128 * s + 16 * p + o) hM.rep hM.ok (by omega) t2 hN
  rw [← lr_lp_last, hlk] at hco
  rw [e1, e2, fn_s1, fn_s1, if_neg (by decide), if_neg (by decide), tr_of, fn_s1, mq_triple, fn_s1, hlo, fn_s1, hco, fn_s1, hth, fn_s1]
  cases hb : (lm_best ml n (128 * s + 16 * p + o)).any (fun x => x.2.2) with
  | false =>
    rw [if_pos (by rfl), if_pos (by rfl)]
    exact ⟨_, rfl, rfl⟩
  | true =>
    rw [if_neg pu_b1, if_neg pu_b1, fn_s1, hml, fn_s1]
    cases hx : lm_best ml n (128 * s + 16 * p + o) with
    | none => rw [hx] at hb; cases hb
    | some x =>
      have h1 : lr_last l n (128 * s + 16 * p + o) = some x := by rw [hlk]; exact hx
      rw [lr_lp_last] at h1
      rw [lm_best_eq] at hx
      cases hp1 : lr_lp l n (128 * s + 16 * p + o) l.length with
      | none => rw [hp1] at h1; cases h1
      | some p1 =>
        cases hp2 : lm_bp ml n (128 * s + 16 * p + o) ml.length with
        | none => rw [hp2] at hx; cases hx
        | some p2 =>
          rw [hp1] at h1
          rw [hp2] at hx
          have h1 : l[p1]? = some x := h1
          have hx : ml[p2]? = some x := hx
          have b2 := (List.getElem?_eq_some_iff.mp hx).1
          have := hM.ok.1
          have hnum := lr_numberAt hrep hok h1
          obtain ⟨w1, _, _⟩ := hM.rep.2 p2 x hx
          show ∃ r, fn_b1 (f_Lg_numberAt lgS lgA (nI p1)) _ = some r ∧ (if fn_in (nI p2) 400 = true then some (nI n - Wh (Int32.toNatClampNeg (nI p2))) else none) = some r
          rw [hnum, fn_s1, if_pos (pu_in (by omega) (by decide)), pu_cl (by omega), w1]
          exact ⟨_, rfl, rfl⟩

/-! PURE ROWS 28: the calls that ask rows -/
theorem j_rows {N : Nat} {crN crL crQ : Int32} {qsf : Nat → Option Nat} {lgS : Int32} {lgA lgT lgC : Nat → Int32} {PL : List mt_Q} {mdN mdL mdS mdQ : Int32} {Wh Tr Co Wi Pc It : Nat → Int32} {Ro : Nat → Int64} {Kn : Nat → Int32} {rt rb : Nat} {sf of vf : Nat → Int32} {tS : Int32} {tf : Nat → Int32} {bS : Int32} {bf : Nat → Int32} {Ne : Nat → Int64} {Se Va La : Nat → Int32} (h : JX N crN crL crQ qsf lgS lgA lgT lgC PL mdN mdL mdS mdQ Wh Tr Co Wi Pc It Ro Kn) (v1 v2 : Int32) :
    (f_C_rows crQ qsf v1 v2 = some (-1) ∧ f_M_rows N mdL mdS mdQ Wh Tr Co Wi Pc It Ro Kn Ne Se Va La v1 v2 = some (-1, Ro, Kn, Ne, Se, Va, La)) ∨
    ∃ (q : Nat) (u : mt_Q), ∃ r sf' of' vf' tS' tf' bS' bf' Ro' Kn' Ne' Se' Va' La', PL[q]? = some u ∧ f_C_rowsq N rt rb u.1.1 crL crQ qsf lgS lgA lgT lgC sf of vf tS tf bS bf u.2.1.1 u.2.1.2.1 u.2.1.2.2 u.2.2.1 u.2.2.2 v1 v2 = some (r, sf', of', vf', tS', tf', bS', bf') ∧ f_M_rows N mdL mdS mdQ Wh Tr Co Wi Pc It Ro Kn Ne Se Va La v1 v2 = some (r, Ro', Kn', Ne', Se', Va', La') ∧ JX N crN crL crQ qsf lgS lgA lgT lgC PL mdN mdL mdS mdQ Wh Tr Co Wi Pc It Ro' Kn' := by
  have h0 := h
  obtain ⟨num, L, l, ml, qs, ⟨hcN, hcL, hmN, hmL, hLn, hn62⟩, ⟨hrep, hok, hsrt⟩, ⟨hlen, hlk⟩, hqs, hM, hca⟩ := h
  have hN := hM.hN
  unfold f_C_rows f_C_rowsq f_M_rows
  rcases fi_cases hqs hM.qr.1 v1 with ⟨e1, e2⟩ | ⟨q, x, u, rfl, hq, hx, hu, hr, e1, e2⟩
  · left
    rw [e1, e2]
    exact ⟨rfl, rfl⟩
  right
  rcases pa_cases (L := L) (by omega) v2 with ⟨g1, g2⟩ | ⟨n, hn, rfl, g1, g2⟩
  · refine ⟨q, u, -1, sf, of, vf, tS, tf, bS, bf, Ro, Kn, Ne, Se, Va, La, hu, ?_, ?_, h0⟩
    · rw [e1, fn_s1, fn_o, if_pos rfl, hcL, g1]; rfl
    · rw [e2, fn_s1, if_neg (by decide), hmL, g2]; rfl
  · obtain ⟨sf', of', vf', tS', tf', bS', bf', e3, r1, r2⟩ := fr_all (N := N) (c := 0) (rt := rt) (rb := rb) (sf := sf) (of := of) (vf := vf) (tS := tS) (tf := tf) (bS := bS) (bf := bf) hN hrep hok hsrt hr (show n < 62 by omega) (by decide)
    obtain ⟨Ro', Kn', Ne', Se', Va', La', e4, hc'⟩ := co_all (N := N) (c := 0) (Ne := Ne) (Se := Se) (Va := Va) (La := La) hM hca hx (by omega) hn (by decide)
    refine ⟨q, u, nI (ks 65536 (wB (lm_best ml) x n 0)).length, sf', of', vf', tS', tf', bS', bf', Ro', Kn', Ne', Se', Va', La', hu, ?_, ?_, num, L, l, ml, qs, ⟨hcN, hcL, hmN, hmL, hLn, hn62⟩, ⟨hrep, hok, hsrt⟩, ⟨hlen, hlk⟩, hqs, hM, hc'⟩
    rotate_left
    · rw [e2, fn_s1, if_neg (by decide), hmL, g2, fn_s1, if_neg (by decide), show f_M_count N mdS Wh Tr Co Wi Pc It Ro Kn Ne Se Va La (nI q) (nI n) 0 = _ from e4, fn_s7]
    · rw [e1, fn_s1, fn_o, if_pos rfl, hcL, g1, fn_s1, if_neg (by decide), show f_C_findRows N rt rb lgS lgA lgT lgC sf of vf tS tf bS bf u.2.1.1 u.2.1.2.1 u.2.1.2.2 u.2.2.1 u.2.2.2 (nI n) 0 = some (rt, sf', of', vf', tS', tf', bS', bf') from e3, fn_s8, if_pos rfl, rs_count hN (r2 (by decide)), fn_s1, hlk]
theorem j_changed {N : Nat} {crN crL crQ : Int32} {qsf : Nat → Option Nat} {lgS : Int32} {lgA lgT lgC : Nat → Int32} {PL : List mt_Q} {mdN mdL mdS mdQ : Int32} {Wh Tr Co Wi Pc It : Nat → Int32} {Ro : Nat → Int64} {Kn : Nat → Int32} {rt rb : Nat} {sf of vf : Nat → Int32} {tS : Int32} {tf : Nat → Int32} {bS : Int32} {bf : Nat → Int32} {Ne : Nat → Int64} {Se Va La : Nat → Int32} (h : JX N crN crL crQ qsf lgS lgA lgT lgC PL mdN mdL mdS mdQ Wh Tr Co Wi Pc It Ro Kn) (hne : ¬ rb = rt) (v1 v2 : Int32) (c : Bool) :
    (f_C_changed crQ qsf v1 v2 (pu_b c) = some (-1) ∧ f_M_changed N mdL mdS mdQ Wh Tr Co Wi Pc It Ro Kn Ne Se Va La v1 v2 (pu_b c) = some (-1, Ro, Kn, Ne, Se, Va, La)) ∨
    ∃ (q : Nat) (u : mt_Q), ∃ r sf' of' vf' tS' tf' bS' bf' Ro' Kn' Ne' Se' Va' La', PL[q]? = some u ∧ f_C_changedq N rt rb u.1.1 crL crQ qsf lgS lgA lgT lgC sf of vf tS tf bS bf u.2.1.1 u.2.1.2.1 u.2.1.2.2 u.2.2.1 u.2.2.2 v1 v2 (pu_b c) = some (r, sf', of', vf', tS', tf', bS', bf') ∧ f_M_changed N mdL mdS mdQ Wh Tr Co Wi Pc It Ro Kn Ne Se Va La v1 v2 (pu_b c) = some (r, Ro', Kn', Ne', Se', Va', La') ∧ JX N crN crL crQ qsf lgS lgA lgT lgC PL mdN mdL mdS mdQ Wh Tr Co Wi Pc It Ro' Kn' := by
  have h0 := h
  obtain ⟨num, L, l, ml, qs, ⟨hcN, hcL, hmN, hmL, hLn, hn62⟩, ⟨hrep, hok, hsrt⟩, ⟨hlen, hlk⟩, hqs, hM, hca⟩ := h
  have hN := hM.hN
  unfold f_C_changed f_C_changedq f_M_changed
  rcases fi_cases hqs hM.qr.1 v1 with ⟨e1, e2⟩ | ⟨q, x, u, rfl, hq, hx, hu, hr, e1, e2⟩
  · left
    rw [e1, e2]
    exact ⟨rfl, rfl⟩
  right
  rcases pa_cases (L := L) (by omega) v2 with ⟨g1, g2⟩ | ⟨n, hn, rfl, g1, g2⟩
  · refine ⟨q, u, -1, sf, of, vf, tS, tf, bS, bf, Ro, Kn, Ne, Se, Va, La, hu, ?_, ?_, h0⟩
    · rw [e1, fn_s1, fn_o, if_pos rfl, hcL, g1]; rfl
    · rw [e2, fn_s1, if_neg (by decide), hmL, g2]; rfl
  · obtain ⟨sf', of', vf', tS', tf', bS', bf', e3, r1, r2⟩ := fr_all (N := N) (c := if c = true then 1 else 2) (rt := rt) (rb := rb) (sf := sf) (of := of) (vf := vf) (tS := tS) (tf := tf) (bS := bS) (bf := bf) hN hrep hok hsrt hr (show n < 62 by omega) (by cases c <;> decide)
    obtain ⟨Ro', Kn', Ne', Se', Va', La', e4, hc'⟩ := co_all (N := N) (c := if c = true then 1 else 2) (Ne := Ne) (Se := Se) (Va := Va) (La := La) hM hca hx (by omega) hn (by cases c <;> decide)
    refine ⟨q, u, nI (ks 65536 (wB (lm_best ml) x n (if c = true then 1 else 2))).length, sf', of', vf', tS', tf', bS', bf', Ro', Kn', Ne', Se', Va', La', hu, ?_, ?_, num, L, l, ml, qs, ⟨hcN, hcL, hmN, hmL, hLn, hn62⟩, ⟨hrep, hok, hsrt⟩, ⟨hlen, hlk⟩, hqs, hM, hc'⟩
    rotate_left
    · rw [e2, fn_s1, if_neg (by decide), hmL, g2, fn_s1, if_neg (by decide)]
      cases c
      · rw [if_pos (by rfl), show f_M_count N mdS Wh Tr Co Wi Pc It Ro Kn Ne Se Va La (nI q) (nI n) 2 = _ from e4, fn_s7]
      · rw [if_neg pu_b1, show f_M_count N mdS Wh Tr Co Wi Pc It Ro Kn Ne Se Va La (nI q) (nI n) 1 = _ from e4, fn_s7]
    · rw [e1, fn_s1, fn_o, if_pos rfl, hcL, g1, fn_s1, if_neg (by decide)]
      cases c
      · rw [if_pos (by rfl), show f_C_findRows N rt rb lgS lgA lgT lgC sf of vf tS tf bS bf u.2.1.1 u.2.1.2.1 u.2.1.2.2 u.2.2.1 u.2.2.2 (nI n) 2 = some (rb, sf', of', vf', tS', tf', bS', bf') from e3, fn_s8, if_neg hne, if_pos rfl, rs_count hN (r1 rfl), fn_s1, hlk]
      · rw [if_neg pu_b1, show f_C_findRows N rt rb lgS lgA lgT lgC sf of vf tS tf bS bf u.2.1.1 u.2.1.2.1 u.2.1.2.2 u.2.2.1 u.2.2.2 (nI n) 1 = some (rt, sf', of', vf', tS', tf', bS', bf') from e3, fn_s8, if_pos rfl, rs_count hN (r2 (by decide)), fn_s1, hlk]
theorem j_row {N : Nat} {crN crL crQ : Int32} {qsf : Nat → Option Nat} {lgS : Int32} {lgA lgT lgC : Nat → Int32} {PL : List mt_Q} {mdN mdL mdS mdQ : Int32} {Wh Tr Co Wi Pc It : Nat → Int32} {Ro : Nat → Int64} {Kn : Nat → Int32} {rt rb : Nat} {sf of vf : Nat → Int32} {tS : Int32} {tf : Nat → Int32} {bS : Int32} {bf : Nat → Int32} {Ne : Nat → Int64} {Se Va La : Nat → Int32} (h : JX N crN crL crQ qsf lgS lgA lgT lgC PL mdN mdL mdS mdQ Wh Tr Co Wi Pc It Ro Kn) (hne : ¬ rb = rt) (v1 v2 v3 v4 : Int32) :
    (f_C_row crQ qsf v1 v2 v3 v4 = some (-1) ∧ f_M_row N mdL mdS mdQ Wh Tr Co Wi Pc It Ro Kn Ne Se Va La v1 v2 v3 v4 = some (-1, Ro, Kn, Ne, Se, Va, La)) ∨
    ∃ (q : Nat) (u : mt_Q), ∃ r sf' of' vf' tS' tf' bS' bf' Ro' Kn' Ne' Se' Va' La', PL[q]? = some u ∧ f_C_rowq N rt rb u.1.1 crL crQ qsf lgS lgA lgT lgC sf of vf tS tf bS bf u.2.1.1 u.2.1.2.1 u.2.1.2.2 u.2.2.1 u.2.2.2 v1 v2 v3 v4 = some (r, sf', of', vf', tS', tf', bS', bf') ∧ f_M_row N mdL mdS mdQ Wh Tr Co Wi Pc It Ro Kn Ne Se Va La v1 v2 v3 v4 = some (r, Ro', Kn', Ne', Se', Va', La') ∧ JX N crN crL crQ qsf lgS lgA lgT lgC PL mdN mdL mdS mdQ Wh Tr Co Wi Pc It Ro' Kn' := by
  have h0 := h
  obtain ⟨num, L, l, ml, qs, ⟨hcN, hcL, hmN, hmL, hLn, hn62⟩, ⟨hrep, hok, hsrt⟩, ⟨hlen, hlk⟩, hqs, hM, hca⟩ := h
  have hN := hM.hN
  unfold f_C_row f_C_rowq f_M_row
  rcases fi_cases hqs hM.qr.1 v1 with ⟨e1, e2⟩ | ⟨q, x, u, rfl, hq, hx, hu, hr, e1, e2⟩
  · left
    rw [e1, e2]
    exact ⟨rfl, rfl⟩
  right
  rcases pa_cases (L := L) (by omega) v2 with ⟨g1, g2⟩ | ⟨n, hn, rfl, g1, g2⟩
  · refine ⟨q, u, -1, sf, of, vf, tS, tf, bS, bf, Ro, Kn, Ne, Se, Va, La, hu, ?_, ?_, h0⟩
    · rw [e1, fn_s1, fn_o, if_pos rfl, hcL, g1]; rfl
    · rw [e2, fn_s1, if_neg (by decide), hmL, g2]; rfl
  by_cases k1 : v3 < 0
  · refine ⟨q, u, -1, sf, of, vf, tS, tf, bS, bf, Ro, Kn, Ne, Se, Va, La, hu, ?_, ?_, h0⟩
    · rw [e1, fn_s1, fn_o, if_pos rfl, hcL, g1, fn_s1, if_neg (by decide), if_pos k1]
    · rw [e2, fn_s1, if_neg (by decide), hmL, g2, fn_s1, if_neg (by decide), if_pos k1]
  by_cases k2 : v3 ≤ 2
  · obtain ⟨c, hc2, rfl⟩ := nI_of2 (n := 2) (M := 2) (by decide) k1 k2
    obtain ⟨sf', of', vf', tS', tf', bS', bf', e3, r1, r2⟩ := fr_all (N := N) (c := c) (rt := rt) (rb := rb) (sf := sf) (of := of) (vf := vf) (tS := tS) (tf := tf) (bS := bS) (bf := bf) hN hrep hok hsrt hr (show n < 62 by omega) (by omega)
    obtain ⟨Ro', Kn', Ne', Se', Va', La', e4, hc'⟩ := rw_all (N := N) (Lm := mdL) (c := c) (Ne := Ne) (Se := Se) (Va := Va) (La := La) hM hca hx (by omega) hn (by omega) v4
    refine ⟨q, u, if v4 < 0 then -2 else rs_ans ((ks 65536 (wB (lm_best ml) x n c))[v4.toNatClampNeg]?), sf', of', vf', tS', tf', bS', bf', Ro', Kn', Ne', Se', Va', La', hu, ?_, ?_, num, L, l, ml, qs, ⟨hcN, hcL, hmN, hmL, hLn, hn62⟩, ⟨hrep, hok, hsrt⟩, ⟨hlen, hlk⟩, hqs, hM, hc'⟩
    rotate_left
    · rw [e2, fn_s1, if_neg (by decide), show f_M_isNumber mdL (nI n) = some 1 from (by rw [hmL]; exact g2), fn_s1, if_neg (by decide), if_neg k1, if_pos k2, e4]
    · rw [e1, fn_s1, fn_o, if_pos rfl, hcL, g1, fn_s1, if_neg (by decide), if_neg k1, if_pos k2, e3, fn_s8]
      by_cases c2 : c = 2
      · rw [if_pos c2, if_neg hne, if_pos rfl, rs_keyAt hN (r1 c2), fn_s1, hlk]
      · rw [if_neg c2, if_pos rfl, rs_keyAt hN (r2 c2), fn_s1, hlk]
  · refine ⟨q, u, -1, sf, of, vf, tS, tf, bS, bf, Ro, Kn, Ne, Se, Va, La, hu, ?_, ?_, h0⟩
    · rw [e1, fn_s1, fn_o, if_pos rfl, hcL, g1, fn_s1, if_neg (by decide), if_neg k1, if_neg k2]
    · rw [e2, fn_s1, if_neg (by decide), hmL, g2, fn_s1, if_neg (by decide), if_neg k1, if_neg k2]
theorem j_aggregate {N : Nat} {crN crL crQ : Int32} {qsf : Nat → Option Nat} {lgS : Int32} {lgA lgT lgC : Nat → Int32} {PL : List mt_Q} {mdN mdL mdS mdQ : Int32} {Wh Tr Co Wi Pc It : Nat → Int32} {Ro : Nat → Int64} {Kn : Nat → Int32} {rt rb : Nat} {sf of vf : Nat → Int32} {tS : Int32} {tf : Nat → Int32} {bS : Int32} {bf : Nat → Int32} {Ne : Nat → Int64} {Se Va La : Nat → Int32} (h : JX N crN crL crQ qsf lgS lgA lgT lgC PL mdN mdL mdS mdQ Wh Tr Co Wi Pc It Ro Kn) (v1 v2 v3 v4 : Int32) :
    (f_C_aggregate crQ qsf v1 v2 v3 v4 = some (-1) ∧ f_M_aggregate N mdL mdS mdQ Wh Tr Co Wi Pc It Ro Kn Ne Se Va La v1 v2 v3 v4 = some (-1, Ro, Kn, Ne, Se, Va, La)) ∨
    ∃ (q : Nat) (u : mt_Q), ∃ r sf' of' vf' tS' tf' bS' bf' Ro' Kn' Ne' Se' Va' La', PL[q]? = some u ∧ f_C_aggregateq N rt rb u.1.1 crL crQ qsf lgS lgA lgT lgC sf of vf tS tf bS bf u.2.1.1 u.2.1.2.1 u.2.1.2.2 u.2.2.1 u.2.2.2 v1 v2 v3 v4 = some (r, sf', of', vf', tS', tf', bS', bf') ∧ f_M_aggregate N mdL mdS mdQ Wh Tr Co Wi Pc It Ro Kn Ne Se Va La v1 v2 v3 v4 = some (r, Ro', Kn', Ne', Se', Va', La') ∧ JX N crN crL crQ qsf lgS lgA lgT lgC PL mdN mdL mdS mdQ Wh Tr Co Wi Pc It Ro' Kn' := by
  have h0 := h
  obtain ⟨num, L, l, ml, qs, ⟨hcN, hcL, hmN, hmL, hLn, hn62⟩, ⟨hrep, hok, hsrt⟩, ⟨hlen, hlk⟩, hqs, hM, hca⟩ := h
  have hN := hM.hN
  unfold f_C_aggregate f_C_aggregateq f_M_aggregate
  rcases fi_cases hqs hM.qr.1 v1 with ⟨e1, e2⟩ | ⟨q, x, u, rfl, hq, hx, hu, hr, e1, e2⟩
  · left
    rw [e1, e2]
    exact ⟨rfl, rfl⟩
  right
  rcases pa_cases (L := L) (by omega) v2 with ⟨g1, g2⟩ | ⟨n, hn, rfl, g1, g2⟩
  · refine ⟨q, u, -1, sf, of, vf, tS, tf, bS, bf, Ro, Kn, Ne, Se, Va, La, hu, ?_, ?_, h0⟩
    · rw [e1, fn_s1, fn_o, if_pos rfl, hcL, g1]; rfl
    · rw [e2, fn_s1, if_neg (by decide), hmL, g2]; rfl
  by_cases k1 : v3 < 0
  · refine ⟨q, u, -1, sf, of, vf, tS, tf, bS, bf, Ro, Kn, Ne, Se, Va, La, hu, ?_, ?_, h0⟩
    · rw [e1, fn_s1, fn_o, if_pos rfl, hcL, g1, fn_s1, if_neg (by decide), if_pos k1]
    · rw [e2, fn_s1, if_neg (by decide), hmL, g2, fn_s1, if_neg (by decide), if_pos k1]
  by_cases k2 : 2 < v3
  · refine ⟨q, u, -1, sf, of, vf, tS, tf, bS, bf, Ro, Kn, Ne, Se, Va, La, hu, ?_, ?_, h0⟩
    · rw [e1, fn_s1, fn_o, if_pos rfl, hcL, g1, fn_s1, if_neg (by decide), if_neg k1, if_pos k2]
    · rw [e2, fn_s1, if_neg (by decide), hmL, g2, fn_s1, if_neg (by decide), if_neg k1, if_pos k2]
  by_cases k3 : v4 < 1
  · refine ⟨q, u, -1, sf, of, vf, tS, tf, bS, bf, Ro, Kn, Ne, Se, Va, La, hu, ?_, ?_, h0⟩
    · rw [e1, fn_s1, fn_o, if_pos rfl, hcL, g1, fn_s1, if_neg (by decide), if_neg k1, if_neg k2, if_pos k3]
    · rw [e2, fn_s1, if_neg (by decide), hmL, g2, fn_s1, if_neg (by decide), if_neg k1, if_neg k2, if_pos k3]
  by_cases k4 : v4 ≤ 4
  · obtain ⟨i, hi, rfl⟩ : ∃ i, i < 4 ∧ v4 = nI (i + 1) := by
      have p1 : ¬ v4 < 0 := fun z => by
        have a := Int32.lt_iff_toInt_lt.mp z
        apply k3
        rw [Int32.lt_iff_toInt_lt, show (1 : Int32).toInt = 1 by decide]
        rw [show (0 : Int32).toInt = 0 from rfl] at a
        omega
      obtain ⟨j, hj, rfl⟩ := nI_of2 (n := 4) (M := 4) (by decide) p1 k4
      have : ¬ j = 0 := fun z => k3 (by rw [z]; decide)
      exact ⟨j - 1, by omega, by rw [show j - 1 + 1 = j by omega]⟩
    obtain ⟨sf', of', vf', tS', tf', bS', bf', e3, r1, r2⟩ := fr_all (N := N) (c := 0) (rt := rt) (rb := rb) (sf := sf) (of := of) (vf := vf) (tS := tS) (tf := tf) (bS := bS) (bf := bf) hN hrep hok hsrt hr (show n < 62 by omega) (by decide)
    have r2 := r2 (by decide)
    obtain ⟨Ro', Kn', Ne', Se', Va', La', s', lo', hi', e4, hc', hst⟩ := ag_52 (N := N) (Lm := mdL) (v3 := v3) hM hx (by omega) hn hi 1024 N 0 Ro Ne Kn Se Va La 0 16 (-1) (by omega) (by omega) hca ⟨rfl, Or.inl ⟨rfl, rfl, rfl⟩⟩
    have ans : ∃ r, f_M_aggregate_175 N mdL mdS mdQ Wh Tr Co Wi Pc It Ro' Kn' Ne' Se' Va' La' v3 s' lo' hi' = some (r, Ro', Kn', Ne', Se', Va', La') ∧ (if v3 = 0 then f_Rs_sumOf N tS' 4096 tf' (nI (i + 1)) else if v3 = 1 then f_Rs_leastOf N tS' 4096 tf' (nI (i + 1)) else f_Rs_greatestOf N tS' 4096 tf' (nI (i + 1))) = some r := by
      unfold f_M_aggregate_175
      obtain ⟨h1, h2⟩ := hst
      unfold ag_l at h1 h2
      rw [← hlk] at h1 h2
      by_cases q0 : v3 = 0
      · rw [if_pos q0, if_pos q0, rs_sumOf hN hi r2, h1]
        exact ⟨_, rfl, rfl⟩
      · rw [if_neg q0, if_neg q0]
        rcases h2 with ⟨h3, h4, h5⟩ | ⟨a, b, h3, h4, h5, h6⟩
        · have hnil : ks 65536 (wB (lr_last l) x n 0) = [] := List.map_eq_nil_iff.mp h3
          rw [h5, if_neg (by decide)]
          refine ⟨_, rfl, ?_⟩
          by_cases q1 : v3 = 1
          · rw [if_pos q1]
            rcases rs_least (N := N) hN hi r2 with ⟨_, z⟩ | ⟨m, z, _⟩
            · exact z
            · rw [hnil] at z; cases z.1
          · rw [if_neg q1]
            rcases rs_greatest (N := N) hN hi r2 with ⟨_, z⟩ | ⟨m, z, _⟩
            · exact z
            · rw [hnil] at z; cases z.1
        · have hne : ¬ ks 65536 (wB (lr_last l) x n 0) = [] := fun z => by rw [z] at h3; cases h3.1
          have hb16 : b < 16 := by
            obtain ⟨k, _, e⟩ := List.mem_map.mp h4.1
            rw [← e]; exact dg_lt k i
          rw [h6, if_pos (nI_pos' (by omega))]
          by_cases q1 : v3 = 1
          · rw [if_pos q1, if_pos q1]
            rcases rs_least (N := N) hN hi r2 with ⟨z, _⟩ | ⟨m, z, e⟩
            · exact absurd z hne
            · rw [e, h5, ag_least_eq z h3]; exact ⟨_, rfl, rfl⟩
          · rw [if_neg q1, if_neg q1]
            rcases rs_greatest (N := N) hN hi r2 with ⟨z, _⟩ | ⟨m, z, e⟩
            · exact absurd z hne
            · rw [e, ag_great_eq z h4]; exact ⟨_, rfl, rfl⟩
    obtain ⟨r, a1, a2⟩ := ans
    refine ⟨q, u, r, sf', of', vf', tS', tf', bS', bf', Ro', Kn', Ne', Se', Va', La', hu, ?_, ?_, num, L, l, ml, qs, ⟨hcN, hcL, hmN, hmL, hLn, hn62⟩, ⟨hrep, hok, hsrt⟩, ⟨hlen, hlk⟩, hqs, hM, hc'⟩
    · rw [e1, fn_s1, fn_o, if_pos rfl, hcL, g1, fn_s1, if_neg (by decide), if_neg k1, if_neg k2, if_neg k3, if_pos k4, show f_C_findRows N rt rb lgS lgA lgT lgC sf of vf tS tf bS bf u.2.1.1 u.2.1.2.1 u.2.1.2.2 u.2.2.1 u.2.2.2 (nI n) 0 = some (rt, sf', of', vf', tS', tf', bS', bf') from e3, fn_s8, if_pos rfl]
      by_cases q0 : v3 = 0
      · rw [if_pos q0] at a2 ⊢
        rw [a2, fn_s1]
      · rw [if_neg q0] at a2 ⊢
        by_cases q1 : v3 = 1
        · rw [if_pos q1] at a2 ⊢
          rw [a2, fn_s1]
        · rw [if_neg q1] at a2 ⊢
          rw [a2, fn_s1]
    · rw [e2, fn_s1, if_neg (by decide), show f_M_isNumber mdL (nI n) = some 1 from (by rw [hmL]; exact g2), fn_s1, if_neg (by decide), if_neg k1, if_neg k2, if_neg k3, if_pos k4, ← a1]
      exact e4
  · refine ⟨q, u, -1, sf, of, vf, tS, tf, bS, bf, Ro, Kn, Ne, Se, Va, La, hu, ?_, ?_, h0⟩
    · rw [e1, fn_s1, fn_o, if_pos rfl, hcL, g1, fn_s1, if_neg (by decide), if_neg k1, if_neg k2, if_neg k3, if_neg k4]
    · rw [e2, fn_s1, if_neg (by decide), hmL, g2, fn_s1, if_neg (by decide), if_neg k1, if_neg k2, if_neg k3, if_neg k4]
theorem cs_30 {l : List lr_E} {lS : Int32} {lA lT lC : Nat → Int32} {N qr L : Nat} {x : mQ} {W P V tS cL cQ : Int32} {I Lf tf : Nat → Int32} {qsf : Nat → Option Nat} (hN : 5000 ≤ N) (h : lr_rep l lS lA lT lC) (ok : lr_ok l) (hs : lr_srt l) (hq : qc_rep x.1 x.2 W P V I Lf) (hL : L < 62) (ht : fd_rep (wd (qB (lr_last l) x L)) tS tf) :
    ∀ (n fuel : Nat) (sf of vf : Nat → Int32) (bS : Int32) (bf : Nat → Int32), n ≤ L → n < fuel → wd (qB (lr_last l) x n) = wd (qB (lr_last l) x L) →
    ∃ sf' of' vf' bS' bf', f_C_stillq_30 N qr cL cQ qsf lS lA lT lC W P V I Lf fuel sf of vf tS tf bS bf (nI n) = some (nI (sl (fun n => df (qB (lr_last l) x n) (qB (lr_last l) x (n - 1))) n), sf', of', vf', tS, tf, bS', bf') := by
  intro n
  induction n with
  | zero =>
    intro fuel sf of vf bS bf hn hf he
    obtain ⟨fuel, rfl⟩ : ∃ m, fuel = m + 1 := ⟨fuel - 1, by omega⟩
    rw [f_C_stillq_30.eq_2, if_pos (by decide)]
    exact ⟨_, _, _, _, _, rfl⟩
  | succ n ih =>
    intro fuel sf of vf bS bf hn hf he
    obtain ⟨fuel, rfl⟩ : ∃ m, fuel = m + 1 := ⟨fuel - 1, by omega⟩
    obtain ⟨sf1, of1, vf1, S1, f1, e1, r1⟩ := fr_fill (N := N) (sf := sf) (of := of) (vf := vf) (S := bS) (f := bf) hN h ok hs hq (show n < 62 by omega)
    have hsm := rs_same (N := N) (M := 4096) (M' := 4096) hN r1 ht (wd_len _) (wd_len _) (Nat.le_refl _) (Nat.le_refl _) (fun w hw => wd_lt hw) (fun w hw => wd_lt hw)
    rw [f_C_stillq_30.eq_2, if_neg (nI_nle (by omega) (by omega)), nI_pred, e1, fn_s5, hsm, fn_s1, sl]
    show ∃ sf' of' vf' bS' bf', _ = some (nI (if df (qB (lr_last l) x (n + 1)) (qB (lr_last l) x (n + 1 - 1)) = true then n + 1 else _), sf', of', vf', tS, tf, bS', bf')
    rw [Nat.add_sub_cancel]
    by_cases hd : wd (qB (lr_last l) x n) = wd (qB (lr_last l) x L)
    · have hdf : ¬ df (qB (lr_last l) x (n + 1)) (qB (lr_last l) x n) = true := by
        unfold df
        rw [he, ← hd]
        simp
      rw [if_neg hdf, if_neg (by rw [decide_eq_true hd]; exact pu_b1), pk_m1]
      exact ih fuel _ _ _ _ _ (by omega) (by omega) hd
    · have hdf : df (qB (lr_last l) x (n + 1)) (qB (lr_last l) x n) = true := by
        unfold df
        rw [he, decide_eq_false (fun z => hd z.symm)]
        rfl
      rw [if_pos hdf, if_pos (by rw [decide_eq_false hd]; rfl)]
      exact ⟨_, _, _, _, _, rfl⟩
theorem j_still {N : Nat} {crN crL crQ : Int32} {qsf : Nat → Option Nat} {lgS : Int32} {lgA lgT lgC : Nat → Int32} {PL : List mt_Q} {mdN mdL mdS mdQ : Int32} {Wh Tr Co Wi Pc It : Nat → Int32} {Ro : Nat → Int64} {Kn : Nat → Int32} {rt rb : Nat} {sf of vf : Nat → Int32} {tS : Int32} {tf : Nat → Int32} {bS : Int32} {bf : Nat → Int32} {Ne : Nat → Int64} {Se Va La : Nat → Int32} (h : JX N crN crL crQ qsf lgS lgA lgT lgC PL mdN mdL mdS mdQ Wh Tr Co Wi Pc It Ro Kn) (v1 : Int32) :
    (f_C_still N crQ qsf v1 = some (-1) ∧ f_M_still N mdL mdS mdQ Wh Tr Co Wi Pc It Ro Kn Ne Se Va La v1 = some (-1, Ro, Kn, Ne, Se, Va, La)) ∨
    ∃ (q : Nat) (u : mt_Q), ∃ r sf' of' vf' tS' tf' bS' bf' Ro' Kn' Ne' Se' Va' La', PL[q]? = some u ∧ f_C_stillq N u.1.1 crL crQ qsf lgS lgA lgT lgC sf of vf tS tf bS bf u.2.1.1 u.2.1.2.1 u.2.1.2.2 u.2.2.1 u.2.2.2 v1 = some (r, sf', of', vf', tS', tf', bS', bf') ∧ f_M_still N mdL mdS mdQ Wh Tr Co Wi Pc It Ro Kn Ne Se Va La v1 = some (r, Ro', Kn', Ne', Se', Va', La') ∧ JX N crN crL crQ qsf lgS lgA lgT lgC PL mdN mdL mdS mdQ Wh Tr Co Wi Pc It Ro' Kn' := by
  have h0 := h
  obtain ⟨num, L, l, ml, qs, ⟨hcN, hcL, hmN, hmL, hLn, hn62⟩, ⟨hrep, hok, hsrt⟩, ⟨hlen, hlk⟩, hqs, hM, hca⟩ := h
  have hN := hM.hN
  unfold f_C_still f_C_stillq f_M_still
  rcases fi_cases hqs hM.qr.1 v1 with ⟨e1, e2⟩ | ⟨q, x, u, rfl, hq, hx, hu, hr, e1, e2⟩
  · left
    rw [e1, e2]
    exact ⟨rfl, rfl⟩
  right
  obtain ⟨sf1, of1, vf1, S1, f1, e3, r3⟩ := fr_fill (N := N) (sf := sf) (of := of) (vf := vf) (S := tS) (f := tf) hN hrep hok hsrt hr (show L < 62 by omega)
  obtain ⟨sf2, of2, vf2, S2, f2, e5⟩ := cs_30 (N := N) (qr := u.1.1) (cL := crL) (cQ := crQ) (qsf := qsf) hN hrep hok hsrt hr (show L < 62 by omega) r3 L N sf1 of1 vf1 bS bf (Nat.le_refl _) (by omega) rfl
  obtain ⟨Ro', Kn', Ne', Se', Va', La', e4, hc'⟩ := st_17 (N := N) (Lm := mdL) hM hx (show L < 62 by omega) L N Ro Ne Kn Se Va La (Nat.le_refl _) (by omega) hca
  refine ⟨q, u, nI (sl (fun n => df (qB (lm_best ml) x n) (qB (lm_best ml) x (n - 1))) L), sf2, of2, vf2, S1, f1, S2, f2, Ro', Kn', Ne', Se', Va', La', hu, ?_, ?_, num, L, l, ml, qs, ⟨hcN, hcL, hmN, hmL, hLn, hn62⟩, ⟨hrep, hok, hsrt⟩, ⟨hlen, hlk⟩, hqs, hM, hc'⟩
  rotate_left
  · rw [e2, fn_s1, if_neg (by decide), show f_M_still_17 N mdL mdS mdQ Wh Tr Co Wi Pc It (nI q) N Ro Kn Ne Se Va La mdL 1 = f_M_still_17 N mdL mdS mdQ Wh Tr Co Wi Pc It (nI q) N Ro Kn Ne Se Va La (nI L) 1 from by rw [hmL], e4]
  · rw [e1, fn_s1, fn_o, if_pos rfl, show f_C_fill N lgS lgA lgT lgC sf of vf tS 4096 tf u.2.1.1 u.2.1.2.1 u.2.1.2.2 u.2.2.1 u.2.2.2 crL = some (sf1, of1, vf1, S1, f1) from (by rw [hcL]; exact e3), fn_s5]
    rw [hlk] at e5
    rw [← e5, hcL]
theorem j_late {N : Nat} {crN crL crQ : Int32} {qsf : Nat → Option Nat} {lgS : Int32} {lgA lgT lgC : Nat → Int32} {PL : List mt_Q} {mdN mdL mdS mdQ : Int32} {Wh Tr Co Wi Pc It : Nat → Int32} {Ro : Nat → Int64} {Kn : Nat → Int32} {sf of vf : Nat → Int32} {oS : Int32} {ow : Nat → Int32} {Ne : Nat → Int64} {Se Va La : Nat → Int32} (h : JX N crN crL crQ qsf lgS lgA lgT lgC PL mdN mdL mdS mdQ Wh Tr Co Wi Pc It Ro Kn) (v1 v2 v3 v4 : Int32) (c : Bool) :
    ∃ r lgS' lgA' lgT' lgC' sf' of' vf' oS' ow' mdS' Wh' Tr' Co' Ro' Kn' Ne' Se' Va' La', f_C_late PL N crL crQ qsf lgS lgA lgT lgC sf of vf oS ow v1 v2 v3 v4 (pu_b c) = some (r, lgS', lgA', lgT', lgC', sf', of', vf', oS', ow') ∧ f_M_late N mdL mdS mdQ Wh Tr Co Wi Pc It Ro Kn Ne Se Va La v1 v2 v3 v4 (pu_b c) = some (r, mdS', Wh', Tr', Co', Ro', Kn', Ne', Se', Va', La') ∧ JX N crN crL crQ qsf lgS' lgA' lgT' lgC' PL mdN mdL mdS' mdQ Wh' Tr' Co' Wi Pc It Ro' Kn' := by
  have h0 := h
  obtain ⟨num, L, l, ml, qs, ⟨hcN, hcL, hmN, hmL, hLn, hn62⟩, ⟨hrep, hok, hsrt⟩, ⟨hlen, hlk⟩, hqs, hM, hca⟩ := h
  have hN := hM.hN
  have h4 := hok.1
  unfold f_C_late f_M_late
  rcases tr_cases v2 v3 v4 with ⟨e1, e2⟩ | ⟨s, p, o, hs, hp, ho, rfl, rfl, rfl, e1, e2⟩
  · rw [e1, e2, fn_s1, fn_s1, if_pos rfl, if_pos rfl]
    exact ⟨_, _, _, _, _, _, _, _, _, _, _, _, _, _, _, _, _, _, _, _, rfl, rfl, h0⟩
  rw [e1, e2, fn_s1, fn_s1, if_neg (show ¬ (1 : Int32) = 0 by decide), if_neg (show ¬ (1 : Int32) = 0 by decide)]
  by_cases k1 : v1 < 0
  · rw [if_pos k1, if_pos k1]
    exact ⟨_, _, _, _, _, _, _, _, _, _, _, _, _, _, _, _, _, _, _, _, rfl, rfl, h0⟩
  rw [if_neg k1, if_neg k1]
  obtain ⟨n, hn31, rfl⟩ := nI_of k1
  by_cases hn : n < L
  · have kl1 : nI n < crL := by rw [hcL]; exact nI_lt hn (by omega)
    have kl2 : nI n < mdL := by rw [hmL]; exact nI_lt hn (by omega)
    rw [if_pos kl1, if_pos kl2]
    have hmS := hM.rep.1
    have hlS := hrep.1
    unfold f_Lg_isFull
    by_cases hl : l.length < 400
    · have t2 : 128 * s + 16 * p + o < 2048 := by omega
      obtain ⟨pp, A', T', C', es, hpp, g1, g2, grep⟩ := lr_say (N := N) (n := n) (t := 128 * s + 16 * p + o) (c := c) hrep hok hsrt hl (by omega) hN
      have gok := lr_ins_ok (c := c) hok hl hpp (show n < 62 by omega) t2
      have gsrt := lr_ins_srt (z := (n, 128 * s + 16 * p + o, c)) hpp hsrt g1 g2
      have hlo := lr_lastOf (N := N) (n := n) (t := 128 * s + 16 * p + o) hrep hok (by omega) t2 hN
      have hins := lr_ins_last (z := (n, 128 * s + 16 * p + o, c)) g1 g2
      have hpz : (lr_ins l pp (n, 128 * s + 16 * p + o, c))[pp]? = some (n, 128 * s + 16 * p + o, c) := by rw [lr_ins_at hpp, if_neg (by omega), if_pos rfl]
      have hilen := lr_ins_len (z := (n, 128 * s + 16 * p + o, c)) hpp
      obtain ⟨U, eU, rU⟩ := hu_14 (N := N) grep gok hpz (l.length - pp) N (pp + 1) (by omega) (by omega)
      have hU62 : U ≤ 62 := by
        rcases rU with ⟨z, _⟩ | ⟨i, y, _, z2, _, z4, _⟩
        · omega
        · have := (lr_rep_lt gok z2).2.1; omega
      have hnU : n < U := by
        rcases rU with ⟨z, _⟩ | ⟨i, y, z1, z2, _, z4, _⟩
        · omega
        · rw [lr_ins_at hpp, if_neg (by omega), if_neg (by omega)] at z2
          have := g2 (i - 1) y z2 (by omega)
          omega
      obtain ⟨hA, hB⟩ := hu_E (c := c) hok hsrt hpp g1 g2 rU (Or.inl hnU)
      have hHU : f_Lg_heldUntil N (nI (l.length + 1)) A' T' (nI pp) = some (nI U) := by
        unfold f_Lg_heldUntil
        have := lr_isPlace (l := lr_ins l pp (n, 128 * s + 16 * p + o, c)) (o := some pp) gok (fun p' e => by cases e; omega)
        rw [hilen] at this
        rw [show f_Lg_isPlace (nI (l.length + 1)) (nI pp) = some (pu_b (some pp).isSome) from this, fn_s1, if_neg (show ¬ pu_b (some pp).isSome = 0 from pu_b1), nI_1]
        exact eU
      have hplok : lr_plok (lr_ins l pp (n, 128 * s + 16 * p + o, c)) (lr_lp l n (128 * s + 16 * p + o) l.length) := fun p' e => by have := (lr_lp_lt _ _ e).2; omega
      have hbind : (lr_lp l n (128 * s + 16 * p + o) l.length).bind (fun p' => (lr_ins l pp (n, 128 * s + 16 * p + o, c))[p']?) = lr_last l n (128 * s + 16 * p + o) := by
        rw [lr_lp_last]
        cases hz : lr_lp l n (128 * s + 16 * p + o) l.length with
        | none => rfl
        | some p' =>
          obtain ⟨y, y1, y2, _⟩ := lr_lp_f _ _ hz
          have : p' < pp := Classical.byContradiction (fun z => by have := g2 p' y y1 (by omega); omega)
          show (lr_ins l pp (n, 128 * s + 16 * p + o, c))[p']? = l[p']?
          rw [lr_ins_at hpp, if_pos this]
      obtain ⟨sf', of', vf', oS', ow', e89⟩ := cl_89 (N := N) (l0 := l) (L := L) (U := U) (old := lr_lp l n (128 * s + 16 * p + o) l.length) (pl := pp) (n0 := n) hN grep gok gsrt hqs (by omega) hU62 hs hp ho
        (fun m u hu => by
          rw [hins]
          unfold lm_step
          rw [if_neg]
          rintro ⟨z, _⟩
          unfold lr_f at z
          simp at z
          exact hu z.2.symm)
        (fun m w m1 m2 m3 hw => by
          have := lr_shows (l := lr_ins l pp (n, 128 * s + 16 * p + o, c)) (n := m) (w := w) grep gok hplok m3 hw (fun y hy => by
            rw [hbind] at hy
            have := (lr_last_le hy).2.1
            omega)
          rw [hbind, ← (hA m m1 m2).1] at this
          exact this)
        (fun m w m1 m2 m3 hw => by
          have := lr_shows (l := lr_ins l pp (n, 128 * s + 16 * p + o, c)) (o := some pp) (n := m) (w := w) grep gok (fun p' e => by cases e; omega) m3 hw (fun y hy => by
            have hy : (lr_ins l pp (n, 128 * s + 16 * p + o, c))[pp]? = some y := hy
            rw [hpz] at hy
            cases hy
            exact m1)
          rw [show (some pp).bind (fun p' => (lr_ins l pp (n, 128 * s + 16 * p + o, c))[p']?) = some (n, 128 * s + 16 * p + o, c) from hpz, ← (hA m m1 m2).2, ← hins] at this
          exact this)
        (fun m m1 m2 m3 => by
          funext u
          by_cases hu : u = 128 * s + 16 * p + o
          · rw [hu, hins, hB m m2 m3]
          · rw [hins]
            unfold lm_step
            rw [if_neg]
            rintro ⟨z, _⟩
            unfold lr_f at z
            simp at z
            exact hu z.2.symm)
        (L + 1 - n) N n 0 sf of vf oS ow (by omega) (by omega) (Nat.le_refl _)
      obtain ⟨S', Wh', Tr', Co', Ro', Kn', Ne', Se', Va', La', e40, m2, hc2⟩ := la_all (N := N) (Ne := Ne) (Se := Se) (Va := Va) (La := La) (s := s) (p := p) (o := o) (c := c) hM (by omega) hn hca (by omega) t2
      have f1 : (if lgS < 400 then (some 0 : Option Int32) else some 1) = some 0 := if_pos (by rw [hlS]; exact nI_lt (b := 400) hl (by decide))
      have f2 : ¬ mdS = 400 := by rw [hmS]; intro z; exact (ml_full (by omega)).mp z (by omega)
      have hlk2 := lk_say (t := 128 * s + 16 * p + o) (c := c) hlk g1 g2
      rw [hlk, hlk2, Nat.zero_add] at e89
      rw [f1, fn_s1, if_pos rfl, if_neg f2, tr_of, fn_s1, hlo, fn_s1, es, fn_s5, hHU, fn_s1, hcL, show (0 : Int32) = nI 0 from rfl, e89, hmL, show f_M_late_40 N (nI L) mdQ Wi Pc It (nI n) (nI s) (nI p) (nI o) (pu_b c) N mdS Wh Tr Co Ro Kn Ne Se Va La (nI 0) = _ from e40]
      refine ⟨_, _, _, _, _, _, _, _, _, _, _, _, _, _, _, _, _, _, _, _, rfl, rfl, num, L, _, _, qs, ⟨hcN, rfl, hmN, rfl, hLn, hn62⟩, ⟨grep, gok, gsrt⟩, ⟨?_, hlk2⟩, hqs, m2, hc2⟩
      rw [lr_ins_len hpp, List.length_append, hlen]; rfl
    · have f1 : (if lgS < 400 then (some 0 : Option Int32) else some 1) = some 1 := if_neg (by rw [hlS]; exact nI_nlt (b := 400) (by omega) (by omega))
      have f2 : mdS = 400 := by rw [hmS]; exact (ml_full (by omega)).mpr (by omega)
      rw [f1, fn_s1, if_neg (by decide), if_pos f2]
      exact ⟨_, _, _, _, _, _, _, _, _, _, _, _, _, _, _, _, _, _, _, _, rfl, rfl, h0⟩
  · have kl1 : ¬ nI n < crL := by rw [hcL]; exact nI_nlt (by omega) hn31
    have kl2 : ¬ nI n < mdL := by rw [hmL]; exact nI_nlt (by omega) hn31
    rw [if_neg kl1, if_neg kl2]
    exact ⟨_, _, _, _, _, _, _, _, _, _, _, _, _, _, _, _, _, _, _, _, rfl, rfl, h0⟩

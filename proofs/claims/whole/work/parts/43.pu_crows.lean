/-! PURE ROWS 24: the class's findRows and hasRowThrough -/
theorem fr_fill {l : List lr_E} {lS : Int32} {lA lT lC : Nat → Int32} {n N : Nat} {x : mQ} {W P V S : Int32} {I L sf of vf f : Nat → Int32} (hN : 5000 ≤ N) (h : lr_rep l lS lA lT lC) (ok : lr_ok l) (hs : lr_srt l) (hq : qc_rep x.1 x.2 W P V I L) (hn : n < 62) :
    ∃ sf' of' vf' S' f', f_C_fill N lS lA lT lC sf of vf S 4096 f W P V I L (nI n) = some (sf', of', vf', S', f') ∧ fd_rep (wd (qB (lr_last l) x n)) S' f' := by
  obtain ⟨sf', of', vf', S', f', e, r⟩ := fill_all (N := N) (M := 4096) (sf := sf) (of := of) (vf := vf) (S := S) (f := f) hN h ok hs hq hn (Nat.le_refl _)
  rw [List.take_of_length_le (wd_len _)] at r
  exact ⟨sf', of', vf', S', f', e, r⟩
theorem fr_all {l : List lr_E} {lS : Int32} {lA lT lC : Nat → Int32} {n c N rt rb : Nat} {x : mQ} {W P V tS bS : Int32} {I L sf of vf tf bf : Nat → Int32} (hN : 5000 ≤ N) (h : lr_rep l lS lA lT lC) (ok : lr_ok l) (hs : lr_srt l) (hq : qc_rep x.1 x.2 W P V I L) (hn : n < 62) (hc : c < 3) :
    ∃ sf' of' vf' tS' tf' bS' bf', f_C_findRows N rt rb lS lA lT lC sf of vf tS tf bS bf W P V I L (nI n) (nI c) = some (if c = 2 then rb else rt, sf', of', vf', tS', tf', bS', bf') ∧ (c = 2 → fd_rep (wd (wB (lr_last l) x n c)) bS' bf') ∧ (¬ c = 2 → fd_rep (wd (wB (lr_last l) x n c)) tS' tf') := by
  unfold f_C_findRows
  obtain ⟨sf1, of1, vf1, S1, f1, e1, r1⟩ := fr_fill (N := N) (sf := sf) (of := of) (vf := vf) (S := tS) (f := tf) hN h ok hs hq hn
  rw [e1, fn_s5]
  by_cases h0 : c = 0
  · subst h0
    rw [if_pos (by rfl)]
    refine ⟨_, _, _, _, _, _, _, rfl, (fun z => by omega), fun _ => ?_⟩
    rw [show wd (wB (lr_last l) x n 0) = wd (qB (lr_last l) x n) from wd_congr (fun k _ => rfl)]
    exact r1
  · rw [if_neg (show ¬ nI c = 0 from nI_ne0 (by omega) (by omega))]
    have fin : ∀ (sf2 of2 vf2 : Nat → Int32) (S2 : Int32) (f2 : Nat → Int32) (B : Nat → Bool), (∀ k, B k = (!decide (n = 0) && qB (lr_last l) x (n - 1) k)) → fd_rep (wd B) S2 f2 →
        ∃ sf' of' vf' tS' tf' bS' bf', f_C_findRows_42 N rt rb lS lA lT lC W P V I L sf2 of2 vf2 S1 f1 S2 f2 (nI c) = some (if c = 2 then rb else rt, sf', of', vf', tS', tf', bS', bf') ∧ (c = 2 → fd_rep (wd (wB (lr_last l) x n c)) bS' bf') ∧ (¬ c = 2 → fd_rep (wd (wB (lr_last l) x n c)) tS' tf') := by
      intro sf2 of2 vf2 S2 f2 B hB hr
      unfold f_C_findRows_42
      rcases (show c = 1 ∨ c = 2 by omega) with r | r <;> subst r
      · rw [if_pos (by rfl)]
        obtain ⟨S3, f3, e3, r3⟩ := rs_removeAll (N := N) hN r1 hr
        rw [e3, fn_s2]
        refine ⟨_, _, _, _, _, _, _, rfl, (fun z => by omega), fun _ => ?_⟩
        rw [show wd (wB (lr_last l) x n 1) = wd (fun k => qB (lr_last l) x n k && !B k) from wd_congr (fun k _ => by unfold wB; rw [hB]; rfl)]
        exact r3
      · rw [if_neg (by decide)]
        obtain ⟨S3, f3, e3, r3⟩ := rs_removeAll (N := N) hN hr r1
        rw [e3, fn_s2]
        refine ⟨_, _, _, _, _, _, _, rfl, fun _ => ?_, (fun z => by omega)⟩
        rw [show wd (wB (lr_last l) x n 2) = wd (fun k => B k && !qB (lr_last l) x n k) from wd_congr (fun k _ => by unfold wB; rw [hB]; rfl)]
        exact r3
    unfold f_Rs_clear
    rw [fn_s1]
    by_cases hn0 : n = 0
    · subst hn0
      rw [if_pos (show nI 0 ≤ 0 by decide)]
      refine fin _ _ _ _ _ (fun _ => false) (fun k => by simp) ?_
      rw [wd_none (fun _ _ => rfl)]
      exact fd_nil rfl
    · rw [if_neg (nI_nle (by omega) (by omega))]
      obtain ⟨n', rfl⟩ : ∃ n', n = n' + 1 := ⟨n - 1, by omega⟩
      rw [nI_pred]
      obtain ⟨sf2, of2, vf2, S2, f2, e2, r2⟩ := fr_fill (N := N) (sf := sf1) (of := of1) (vf := vf1) (S := 0) (f := bf) hN h ok hs hq (show n' < 62 by omega)
      rw [e2, fn_s5]
      exact fin _ _ _ _ _ _ (fun k => by simp) r2
theorem kp_1 {op : Nat → Nat} {f : Nat → Int32} {c d : Nat} (h : op_rep op f) (hc : c < 20) (hd : d < 16) : ∃ f' b, f_Sr_keep f (it_I c) (nI (2 ^ d)) = some (pu_b b, f') ∧ op_rep (op_kp op c (2 ^ d)) f' ∧ (b = true → ∀ v, op_box (op_kp op c (2 ^ d)) v ↔ op_box op v ∧ it_v v c = d) ∧ (b = false → ∀ v, op_box op v → ¬ it_v v c = d) := by
  obtain ⟨f', e, r⟩ := op_keep (m := 2 ^ d) h hc
  refine ⟨f', _, e, r, fun hb v => ?_, fun hb v hv hd' => ?_⟩
  · have hne : ¬ op_al op c &&& 2 ^ d = 0 := by simpa using hb
    constructor
    · intro hv
      refine ⟨op_kp_sub hv, ?_⟩
      unfold it_v
      by_cases h1 : c < 16
      · rw [if_pos h1]
        unfold op_al at hne
        rw [if_pos h1] at hne
        apply Classical.byContradiction
        intro hcd
        apply hne
        apply Nat.eq_of_testBit_eq
        intro i
        rw [Nat.testBit_and, Nat.testBit_two_pow, Nat.testBit_two_pow, Nat.zero_testBit]
        by_cases ei : c = i
        · have : ¬ d = i := by omega
          simp [this]
        · simp [ei]
      · obtain ⟨j, rfl⟩ : ∃ j, c = j + 16 := ⟨c - 16, by omega⟩
        rw [if_neg h1, Nat.add_sub_cancel]
        have := hv j (by omega)
        unfold op_kp at this
        rw [if_pos rfl, Nat.testBit_and, Bool.and_eq_true, Nat.testBit_two_pow] at this
        have := of_decide_eq_true this.2
        omega
    · rintro ⟨hv, hd'⟩
      exact op_kp_in hv (by rw [hd']; exact Nat.testBit_two_pow_self)
  · have hz : op_al op c &&& 2 ^ d = 0 := by simpa using hb
    exact op_ne (op_al_bit hv hc) (by rw [hd']; exact Nat.testBit_two_pow_self) hz
def ht (x : it_P) (v : Nat → Nat) (s p o : Nat) : Prop := it_v v x.1 = s ∧ it_v v x.2.1 = p ∧ it_v v x.2.2 = o
theorem bd_all {op : Nat → Nat} {f I : Nat → Int32} {x : it_P} {k s p o : Nat} (h : op_rep op f) (hx : it_ok x) (hk : k < 3) (hI : I (3 * k) = it_I x.1 ∧ I (3 * k + 1) = it_I x.2.1 ∧ I (3 * k + 2) = it_I x.2.2) (hs : s < 16) (hp : p < 8) (ho : o < 16) :
    ∃ f' b, f_Sr_bind f I (nI k) (nI (128 * s + 16 * p + o)) = some (pu_b b, f') ∧ (b = true → ∃ op', op_rep op' f' ∧ ∀ v, op_box op' v ↔ op_box op v ∧ ht x v s p o) ∧ (b = false → ∀ v, op_box op v → ¬ ht x v s p o) := by
  obtain ⟨x1, x2, x3⟩ := nw_lt20 hx
  have d1 : nI (128 * s + 16 * p + o) / 16 = nI (8 * s + p) := by
    rw [show (16 : Int32) = nI 16 from rfl, pk_div (by omega) (by decide) (by decide)]
    congr 1
    omega
  have d2 : nI (8 * s + p) / 8 = nI s := by
    rw [show (8 : Int32) = nI 8 from rfl, pk_div (by omega) (by decide) (by decide)]
    congr 1
    omega
  have d3 : nI (8 * s + p) - nI s * 8 = nI p := by
    rw [show (8 : Int32) = nI 8 from rfl, pk_mul, pk_sub (by omega)]
    congr 1
    omega
  have d4 : nI (128 * s + 16 * p + o) - nI (8 * s + p) * 16 = nI o := by
    rw [show (16 : Int32) = nI 16 from rfl, pk_mul, pk_sub (by omega)]
    congr 1
    omega
  have i0 : f_Qu_itemAt I (nI k) 0 = some (it_I x.1) := by rw [← hI.1]; exact qu_itemAt (j := 0) hk (by decide)
  have i1 : f_Qu_itemAt I (nI k) 1 = some (it_I x.2.1) := by rw [← hI.2.1]; exact qu_itemAt (j := 1) hk (by decide)
  have i2 : f_Qu_itemAt I (nI k) 2 = some (it_I x.2.2) := by rw [← hI.2.2]; exact qu_itemAt (j := 2) hk (by decide)
  unfold f_Sr_bind
  rw [d1, d2, d3, d4, pb_pow (k := s) (by omega), pb_pow (k := p) (by omega), pb_pow (k := o) (by omega), i0, fn_s1]
  obtain ⟨f1, b1, e1, r1, t1, n1⟩ := kp_1 (d := s) h x1 hs
  rw [e1, fn_s2]
  cases b1 with
  | false =>
    rw [if_pos (by rfl)]
    exact ⟨f1, false, rfl, (fun z => by cases z), fun _ v hv hh => n1 rfl v hv hh.1⟩
  | true =>
    rw [if_neg pu_b1]
    obtain ⟨f2, b2, e2, r2, t2, n2⟩ := kp_1 (d := p) r1 x2 (show p < 16 by omega)
    rw [i1, fn_s1, e2, fn_s2]
    cases b2 with
    | false =>
      rw [if_pos (by rfl)]
      exact ⟨f2, false, rfl, (fun z => by cases z), fun _ v hv hh => n2 rfl v ((t1 rfl v).mpr ⟨hv, hh.1⟩) hh.2.1⟩
    | true =>
      rw [if_neg pu_b1]
      obtain ⟨f3, b3, e3, r3, t3, n3⟩ := kp_1 (d := o) r2 x3 ho
      rw [i2, fn_s1, e3, fn_s2]
      cases b3 with
      | false =>
        rw [if_pos (by rfl)]
        exact ⟨f3, false, rfl, (fun z => by cases z), fun _ v hv hh => n3 rfl v ((t2 rfl v).mpr ⟨(t1 rfl v).mpr ⟨hv, hh.1⟩, hh.2.1⟩) hh.2.2⟩
      | true =>
        rw [if_neg pu_b1]
        refine ⟨f3, true, rfl, fun _ => ⟨_, r3, fun v => ?_⟩, (fun z => by cases z)⟩
        rw [t3 rfl v, t2 rfl v, t1 rfl v]
        unfold ht
        constructor
        · rintro ⟨⟨⟨a, b⟩, c⟩, d⟩; exact ⟨a, b, c, d⟩
        · rintro ⟨a, b, c, d⟩; exact ⟨⟨⟨a, b⟩, c⟩, d⟩
theorem wd_nil {B : Nat → Bool} : wd B = [] ↔ ∀ k, k < 65536 → B k = false := by
  have e : wd (fun _ => false) = [] := wd_none (fun _ _ => rfl)
  rw [← e, wd_inj]
def hr (sn : Nat → Bool) (ps : List it_P) (s p o : Nat) (x : it_P) : Prop := ∃ k, k < 65536 ∧ rB (fun u => if u = 128 * s + 16 * p + o then true else sn u) ps k = true ∧ ht x (dg k) s p o
theorem hr_3 {l : List lr_E} {lS : Int32} {lA lT lC : Nat → Int32} {n N s p o : Nat} {x : mQ} {W P V : Int32} {I L : Nat → Int32} (hN : 5000 ≤ N) (h : lr_rep l lS lA lT lC) (ok : lr_ok l) (hs : lr_srt l) (hq : qc_rep x.1 x.2 W P V I L) (hn : n < 62) (hs16 : s < 16) (hp8 : p < 8) (ho16 : o < 16) :
    ∀ (m fuel k : Nat) (sf of vf : Nat → Int32) (S : Int32) (f : Nat → Int32), k + m = x.2.length → m < fuel →
    ∃ b sf' of' vf' S' f', f_C_hasRowThrough_3 N lS lA lT lC W P V I L (nI n) (nI (128 * s + 16 * p + o)) fuel sf of vf S f (nI k) = some (pu_b b, sf', of', vf', S', f') ∧ (b = true ↔ ∃ j y, k ≤ j ∧ x.2[j]? = some y ∧ hr (fun t => lr_sv (lr_last l n t) n x.1) x.2 s p o y) := by
  intro m
  obtain ⟨hW, hw, hr1, hok⟩ := hq
  have h3 := hok.1
  induction m with
  | zero =>
    intro fuel k sf of vf S f hk hf
    obtain ⟨fuel, rfl⟩ : ∃ m, fuel = m + 1 := ⟨fuel - 1, by omega⟩
    rw [f_C_hasRowThrough_3.eq_2, if_pos (by rw [hr1.1]; exact nI_le (by omega) (by omega))]
    refine ⟨false, _, _, _, _, _, rfl, ⟨(fun z => by cases z), fun ⟨j, y, h1, h2, _⟩ => ?_⟩⟩
    have := (List.getElem?_eq_some_iff.mp h2).1
    omega
  | succ m ih =>
    intro fuel k sf of vf S f hk hf
    obtain ⟨fuel, rfl⟩ : ∃ m, fuel = m + 1 := ⟨fuel - 1, by omega⟩
    have hkl : k < x.2.length := by omega
    have hx : x.2[k]? = some x.2[k] := List.getElem?_eq_getElem hkl
    obtain ⟨j1, j2, j3, _⟩ := hr1.2.2 k _ hx
    have hit := hok.2 x.2[k] (List.getElem_mem _)
    obtain ⟨of1, e1, o1⟩ := op_begin (N := N) (g := it_sd x.2) hN of
    obtain ⟨of2, b2, e2, t2, n2⟩ := bd_all (s := s) (p := p) (o := o) o1 hit (show k < 3 by omega) ⟨j1, j2, j3⟩ hs16 hp8 ho16
    rw [f_C_hasRowThrough_3.eq_2, if_neg (by rw [hr1.1]; exact nI_ge hkl (by omega)), hr1.2.1, e1, fn_s1, e2, fn_s2]
    have next : ∀ (sf' of' vf' : Nat → Int32) (S' : Int32) (f' : Nat → Int32), ¬ hr (fun t => lr_sv (lr_last l n t) n x.1) x.2 s p o x.2[k] →
        ∃ b sf'' of'' vf'' S'' f'', f_C_hasRowThrough_3 N lS lA lT lC W P V I L (nI n) (nI (128 * s + 16 * p + o)) fuel sf' of' vf' S' f' (nI k + 1) = some (pu_b b, sf'', of'', vf'', S'', f'') ∧ (b = true ↔ ∃ j y, k ≤ j ∧ x.2[j]? = some y ∧ hr (fun t => lr_sv (lr_last l n t) n x.1) x.2 s p o y) := by
      intro sf' of' vf' S' f' hno
      rw [nI_1]
      obtain ⟨b, sf'', of'', vf'', S'', f'', e, hb⟩ := ih fuel (k + 1) sf' of' vf' S' f' (by omega) (by omega)
      refine ⟨b, sf'', of'', vf'', S'', f'', e, hb.trans ⟨fun ⟨j, y, a1, a2, a3⟩ => ⟨j, y, by omega, a2, a3⟩, fun ⟨j, y, a1, a2, a3⟩ => ?_⟩⟩
      by_cases ej : j = k
      · subst ej
        rw [hx] at a2
        cases a2
        exact absurd a3 hno
      · exact ⟨j, y, by omega, a2, a3⟩
    rw [← hr1.2.1]
    cases b2 with
    | false =>
      rw [if_pos (by rfl)]
      refine next _ _ _ _ _ (fun ⟨κ, c1, c2, c3⟩ => n2 rfl (dg κ) ?_ c3)
      unfold rB at c2
      exact (rO_box.mp c2).1
    | true =>
      rw [if_neg pu_b1]
      obtain ⟨op', o2, hop⟩ := t2 rfl
      unfold f_Rs_clear
      rw [fn_s1]
      obtain ⟨sf3, e3, r3⟩ := se_read (w := x.1) h ok hs hn hw hN sf
      rw [hW, e3, fn_s1]
      obtain ⟨sf4, e4, r4⟩ := se_put (t := 128 * s + 16 * p + o) (b := true) r3 (by omega)
      rw [show f_Se_put sf3 (nI (128 * s + 16 * p + o)) 1 = some sf4 from e4, fn_s1]
      obtain ⟨of5, vf5, S5, f5, e5, r5⟩ := run_all (N := N) (M := 1) (op := op') (of := of2) (vf := vf) (f := f) (S := 0) hN r4 hr1 hok (by omega) o2 rfl
      rw [e5, fn_s4, ← hW]
      have key : ∀ B : Nat → Bool, B = rO (fun u => if u = 128 * s + 16 * p + o then true else lr_sv (lr_last l n u) n x.1) op' x.2 → ((wd B = []) ↔ ¬ hr (fun t => lr_sv (lr_last l n t) n x.1) x.2 s p o x.2[k]) := by
        intro B hB
        rw [wd_nil, hB]
        constructor
        · rintro hh ⟨κ, c1, c2, c3⟩
          have : rO (fun u => if u = 128 * s + 16 * p + o then true else lr_sv (lr_last l n u) n x.1) op' x.2 κ = true := by
            unfold rB at c2
            have c2' := rO_box.mp c2
            exact rO_box.mpr ⟨(hop _).mpr ⟨c2'.1, c3⟩, c2'.2⟩
          rw [hh κ c1] at this
          cases this
        · intro hh κ c1
          cases hc : rO (fun u => if u = 128 * s + 16 * p + o then true else lr_sv (lr_last l n u) n x.1) op' x.2 κ with
          | false => rfl
          | true =>
            exfalso
            have hc' := rO_box.mp hc
            have hb := (hop _).mp hc'.1
            exact hh ⟨κ, c1, rO_box.mpr ⟨hb.1, hc'.2⟩, hb.2⟩
      obtain ⟨B, hB⟩ : ∃ B : Nat → Bool, B = rO (fun u => if u = 128 * s + 16 * p + o then true else lr_sv (lr_last l n u) n x.1) op' x.2 := ⟨_, rfl⟩
      have key := key B hB
      rw [← hB] at r5
      rw [r5.1]
      by_cases hw0 : wd B = []
      · rw [if_pos (by rw [hw0]; decide)]
        exact next _ _ _ _ _ (key.mp hw0)
      · have hlen : 0 < ((wd B).take 1).length := by
          rw [List.length_take]
          have := List.length_pos_iff.mpr hw0
          omega
        have hlen2 : ((wd B).take 1).length ≤ 1 := by
          rw [List.length_take]
          omega
        rw [if_neg (nI_nle hlen (by omega))]
        have hyes := Classical.not_not.mp (mt key.mpr hw0)
        exact ⟨true, _, _, _, _, _, rfl, ⟨fun _ => ⟨k, _, Nat.le_refl _, hx, hyes⟩, fun _ => rfl⟩⟩
theorem hr_all {l : List lr_E} {lS : Int32} {lA lT lC : Nat → Int32} {n N s p o : Nat} {x : mQ} {W P V S : Int32} {I L sf of vf f : Nat → Int32} (hN : 5000 ≤ N) (h : lr_rep l lS lA lT lC) (ok : lr_ok l) (hs : lr_srt l) (hq : qc_rep x.1 x.2 W P V I L) (hn : n < 62) (hs16 : s < 16) (hp8 : p < 8) (ho16 : o < 16) :
    ∃ b sf' of' vf' S' f', f_C_hasRowThrough N lS lA lT lC sf of vf S f W P V I L (nI n) (nI (128 * s + 16 * p + o)) = some (pu_b b, sf', of', vf', S', f') ∧ (b = true ↔ ∃ y ∈ x.2, hr (fun t => lr_sv (lr_last l n t) n x.1) x.2 s p o y) := by
  obtain ⟨b, sf', of', vf', S', f', e, hb⟩ := hr_3 (N := N) (s := s) (p := p) (o := o) hN h ok hs hq hn hs16 hp8 ho16 x.2.length N 0 sf of vf S f (by omega) (by have := hq.2.2.2.1; omega)
  refine ⟨b, sf', of', vf', S', f', e, hb.trans ⟨fun ⟨j, y, _, a2, a3⟩ => ⟨y, List.mem_of_getElem? a2, a3⟩, fun ⟨y, hy, a3⟩ => ?_⟩⟩
  obtain ⟨j, hj⟩ := List.getElem?_of_mem hy
  exact ⟨j, y, Nat.zero_le _, hj, a3⟩
/-- which rows are others when one triple comes or goes -/
theorem hr_df {sn0 sn1 : Nat → Bool} {ps : List it_P} {s p o : Nat} (hp8 : p < 8) (ok : qu_ok ps) (hsn : ∀ u, ¬ u = 128 * s + 16 * p + o → sn0 u = sn1 u) (ho16 : o < 16) :
    df (rB sn0 ps) (rB sn1 ps) = true ↔ ¬ sn0 (128 * s + 16 * p + o) = sn1 (128 * s + 16 * p + o) ∧ ∃ y ∈ ps, hr sn1 ps s p o y := by
  have pmt : ∀ (y : it_P) (v : Nat → Nat), (∀ i, i < 4 → v i < 16) → it_ok y → (it_v v y.2.1 < 8 ∧ 128 * it_v v y.1 + 16 * it_v v y.2.1 + it_v v y.2.2 = 128 * s + 16 * p + o ↔ ht y v s p o) := fun y v hv hy => by
    obtain ⟨y1, y2, y3⟩ := nw_lt20 hy
    have a1 := it_v16 hv y1
    have a3 := it_v16 hv y3
    unfold ht
    constructor
    · rintro ⟨h1, h2⟩; omega
    · rintro ⟨h1, h2, h3⟩; rw [h1, h2, h3]; exact ⟨hp8, rfl⟩
  by_cases he : sn0 (128 * s + 16 * p + o) = sn1 (128 * s + 16 * p + o)
  · have : sn0 = sn1 := by
      funext u
      by_cases eu : u = 128 * s + 16 * p + o
      · rw [eu]; exact he
      · exact hsn u eu
    constructor
    · intro h
      rw [this, df_true] at h
      obtain ⟨k, _, hk⟩ := h
      exact absurd rfl hk
    · rintro ⟨h, _⟩; exact absurd he h
  · rw [df_true]
    have hT : ∀ k, (rB (fun u => if u = 128 * s + 16 * p + o then true else sn1 u) ps k = true ∧ ∃ y ∈ ps, ht y (dg k) s p o) ↔ ¬ rB sn0 ps k = rB sn1 ps k := by
      intro k
      -- with the triple and without it
      have main : ∀ (a b : Nat → Bool), (∀ u, ¬ u = 128 * s + 16 * p + o → a u = sn1 u) → (∀ u, ¬ u = 128 * s + 16 * p + o → b u = sn1 u) → a (128 * s + 16 * p + o) = true → b (128 * s + 16 * p + o) = false → ((rB (fun u => if u = 128 * s + 16 * p + o then true else sn1 u) ps k = true ∧ ∃ y ∈ ps, ht y (dg k) s p o) ↔ ¬ rB a ps k = rB b ps k) := by
        intro a b ha hb hat hbt
        have ea : (fun u => if u = 128 * s + 16 * p + o then true else sn1 u) = a := by
          funext u
          by_cases eu : u = 128 * s + 16 * p + o
          · rw [if_pos eu, eu, hat]
          · rw [if_neg eu, ha u eu]
        rw [ea]
        have pmeq : ∀ y ∈ ps, ¬ ht y (dg k) s p o → pm a (dg k) y = pm b (dg k) y := fun y hy hno => by
          unfold pm
          by_cases h7 : it_v (dg k) y.2.1 < 8
          · have : ¬ 128 * it_v (dg k) y.1 + 16 * it_v (dg k) y.2.1 + it_v (dg k) y.2.2 = 128 * s + 16 * p + o := fun z => hno ((pmt y _ (fun i _ => dg_lt _ _) (ok.2 y hy)).mp ⟨h7, z⟩)
            rw [ha _ this, hb _ this]
          · simp [h7]
        have pmf : ∀ y ∈ ps, ht y (dg k) s p o → pm b (dg k) y = false := fun y hy hh => by
          obtain ⟨_, c2⟩ := (pmt y _ (fun i _ => dg_lt _ _) (ok.2 y hy)).mpr hh
          unfold pm
          rw [c2, hbt, Bool.and_false]
        constructor
        · rintro ⟨h1, y, hy, hh⟩ e
          rw [e] at h1
          unfold rB at h1
          have := (rO_box.mp h1).2 y hy
          rw [pmf y hy hh] at this
          cases this
        · intro hne
          by_cases hex : ∃ y ∈ ps, ht y (dg k) s p o
          · refine ⟨?_, hex⟩
            obtain ⟨y, hy, hh⟩ := hex
            cases hra : rB a ps k with
            | true => rfl
            | false =>
              exfalso
              apply hne
              rw [hra]
              cases hrb : rB b ps k with
              | false => rfl
              | true =>
                unfold rB at hrb
                have := (rO_box.mp hrb).2 y hy
                rw [pmf y hy hh] at this
                cases this
          · exfalso
            apply hne
            rw [Bool.eq_iff_iff]
            unfold rB
            rw [rO_box, rO_box]
            have : ∀ y ∈ ps, pm a (dg k) y = pm b (dg k) y := fun y hy => pmeq y hy (fun z => hex ⟨y, hy, z⟩)
            constructor
            · rintro ⟨c1, c2⟩; exact ⟨c1, fun y hy => by rw [← this y hy]; exact c2 y hy⟩
            · rintro ⟨c1, c2⟩; exact ⟨c1, fun y hy => by rw [this y hy]; exact c2 y hy⟩
      cases h1 : sn1 (128 * s + 16 * p + o) with
      | true =>
        have h0 : sn0 (128 * s + 16 * p + o) = false := by
          cases h0 : sn0 (128 * s + 16 * p + o) with
          | false => rfl
          | true => rw [h0, h1] at he; exact absurd rfl he
        rw [main sn1 sn0 (fun _ _ => rfl) hsn h1 h0]
        exact ⟨fun z e => z e.symm, fun z e => z e.symm⟩
      | false =>
        have h0 : sn0 (128 * s + 16 * p + o) = true := by
          cases h0 : sn0 (128 * s + 16 * p + o) with
          | true => rfl
          | false => rw [h0, h1] at he; exact absurd rfl he
        exact main sn0 sn1 hsn (fun _ _ => rfl) h0 h1
    constructor
    · rintro ⟨k, hk, hne⟩
      obtain ⟨c1, y, hy, c2⟩ := (hT k).mpr hne
      exact ⟨he, y, hy, k, hk, c1, c2⟩
    · rintro ⟨_, y, hy, k, hk, c1, c2⟩
      exact ⟨k, hk, (hT k).mp ⟨c1, y, hy, c2⟩⟩

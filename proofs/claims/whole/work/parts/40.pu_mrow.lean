/-! PURE ROWS 21: the model's row and aggregate -/
theorem rw_61 {N : Nat} {Lm S Qm : Int32} {Wh Tr Co Wi Pc It Kn Se Va La : Nat → Int32} {Ro Ne : Nat → Int64} {v1 v2 v3 v4 : Int32} {B : Nat → Bool} {w a : Nat} (hw : w < 1024) (ha : a < 2 ^ 31) {r : (Nat → Int64) → (Nat → Int32) → (Nat → Int64) → (Nat → Int32) → (Nat → Int32) → (Nat → Int32) → Int32 → Int32 → Option (Int32 × (Nat → Int64) × (Nat → Int32) × (Nat → Int64) × (Nat → Int32) × (Nat → Int32) × (Nat → Int32))} :
    ∀ (n fuel k : Nat), k + n = 64 → n < fuel → (ks (64 * w + k) B).length ≤ a →
    ((ks (64 * (w + 1)) B).length ≤ a ∧ f_M_row_61 N Lm S Qm Wh Tr Co Wi Pc It r v1 v2 v3 v4 (nI w) (mW B w) fuel Ro Kn Ne Se Va La (nI (a - (ks (64 * w + k) B).length)) (nI k) = r Ro Kn Ne Se Va La (nI (a - (ks (64 * (w + 1)) B).length)) (nI (w + 1))) ∨
    (∃ j, (ks 65536 B)[a]? = some j ∧ f_M_row_61 N Lm S Qm Wh Tr Co Wi Pc It r v1 v2 v3 v4 (nI w) (mW B w) fuel Ro Kn Ne Se Va La (nI (a - (ks (64 * w + k) B).length)) (nI k) = some (nI j, Ro, Kn, Ne, Se, Va, La)) := by
  intro n
  induction n with
  | zero =>
    intro fuel k hk hf hl
    obtain ⟨fuel, rfl⟩ : ∃ m, fuel = m + 1 := ⟨fuel - 1, by omega⟩
    have : k = 64 := by omega
    subst this
    rw [f_M_row_61.eq_2, if_pos (show (64 : Int32) ≤ nI 64 by decide), nI_1]
    exact Or.inl ⟨hl, rfl⟩
  | succ n ih =>
    intro fuel k hk hf hl
    obtain ⟨fuel, rfl⟩ : ∃ m, fuel = m + 1 := ⟨fuel - 1, by omega⟩
    rw [f_M_row_61.eq_2, if_neg (show ¬ (64 : Int32) ≤ nI k from nI_ge (b := 64) (by omega) (by decide))]
    by_cases hz : lg_cmp (mW B w) 0 = 0
    · rw [if_pos hz, nI_1]
      have h0 := mW_c0.mp hz
      have e : ks (64 * (w + 1)) B = ks (64 * w + k) B := ks_same (by omega) (fun j h1 h2 => by have := h0 (j - 64 * w) (by omega); rwa [show 64 * w + (j - 64 * w) = j by omega] at this)
      rw [e]
      exact Or.inl ⟨hl, rfl⟩
    · rw [if_neg hz]
      by_cases hb : B (64 * w + k) = false
      · rw [if_pos ((mW_bit (by omega)).mpr hb), nI_1]
        have e : ks (64 * w + k) B = ks (64 * w + (k + 1)) B := by rw [← Nat.add_assoc, ks_succ, if_neg (by rw [hb]; decide)]
        rw [e] at hl ⊢
        exact ih fuel (k + 1) (by omega) (by omega) hl
      · rw [if_neg (fun z => hb ((mW_bit (by omega)).mp z))]
        have hb1 : B (64 * w + k) = true := by cases h : B (64 * w + k) with
          | true => rfl
          | false => exact absurd h hb
        by_cases he : (ks (64 * w + k) B).length = a
        · rw [if_pos (by rw [he, Nat.sub_self]; rfl)]
          refine Or.inr ⟨64 * w + k, by rw [← he]; exact ks_at (by omega) hb1, ?_⟩
          rw [show (64 : Int32) = nI 64 from rfl, pk_mul, nI_add]
        · have e : (ks (64 * w + (k + 1)) B).length = (ks (64 * w + k) B).length + 1 := by rw [← Nat.add_assoc, ks_succ, if_pos hb1, List.length_append]; rfl
          rw [if_neg (nI_ne0 (by omega) (by omega)), nI_1, show a - (ks (64 * w + k) B).length = a - (ks (64 * w + (k + 1)) B).length + 1 by omega, pk_m1]
          exact ih fuel (k + 1) (by omega) (by omega) (by omega)
theorem rw_34 {N : Nat} {ml : List lr_E} {qs : List mQ} {Lm S Q : Int32} {Wh Tr Co Wi Pc It : Nat → Int32} {L q n c a : Nat} {x : mQ} (m : MC N ml qs S Q Wh Tr Co Wi Pc It) (hx : qs[q]? = some x) (hL : L < 62) (hn : n ≤ L) (hc3 : c < 3) (ha : a < 2 ^ 31) :
    ∀ (k fuel w : Nat) (Ro Ne : Nat → Int64) (Kn Se Va La : Nat → Int32), w + k = 1024 → k < fuel → ca (lm_best ml) qs L Ro Kn → (ks (64 * w) (wB (lm_best ml) x n c)).length ≤ a →
    ∃ Ro' Kn' Ne' Se' Va' La', f_M_row_34 N Lm S Q Wh Tr Co Wi Pc It (nI q) (nI n) (nI c) (nI a) fuel Ro Kn Ne Se Va La (nI (a - (ks (64 * w) (wB (lm_best ml) x n c)).length)) (nI w) = some (rs_ans ((ks 65536 (wB (lm_best ml) x n c))[a]?), Ro', Kn', Ne', Se', Va', La') ∧ ca (lm_best ml) qs L Ro' Kn' := by
  intro k
  induction k with
  | zero =>
    intro fuel w Ro Ne Kn Se Va La hw hf hc hl
    obtain ⟨fuel, rfl⟩ : ∃ m, fuel = m + 1 := ⟨fuel - 1, by omega⟩
    have : w = 1024 := by omega
    subst this
    rw [f_M_row_34.eq_2, if_pos (show (1024 : Int32) ≤ nI 1024 by decide), List.getElem?_eq_none hl]
    exact ⟨_, _, _, _, _, _, rfl, hc⟩
  | succ k ih =>
    intro fuel w Ro Ne Kn Se Va La hw hf hc hl
    obtain ⟨fuel, rfl⟩ : ∃ m, fuel = m + 1 := ⟨fuel - 1, by omega⟩
    obtain ⟨Ro1, Kn1, Ne1, Se1, Va1, La1, e1, hc1⟩ := bi_all (N := N) (Ne := Ne) (Se := Se) (Va := Va) (La := La) m hc hx hL hn hc3 (show w < 1024 by omega)
    rw [f_M_row_34.eq_2, if_neg (show ¬ (1024 : Int32) ≤ nI w from nI_ge (b := 1024) (by omega) (by decide)), if_neg (nI_pos ha), e1, fn_s7]
    rcases rw_61 (N := N) (Lm := Lm) (S := S) (Qm := Q) (Wh := Wh) (Tr := Tr) (Co := Co) (Wi := Wi) (Pc := Pc) (It := It) (Kn := Kn1) (Se := Se1) (Va := Va1) (La := La1) (Ro := Ro1) (Ne := Ne1) (v1 := nI q) (v2 := nI n) (v3 := nI c) (v4 := nI a) (B := wB (lm_best ml) x n c) (w := w) (by omega) ha (r := f_M_row_34 N Lm S Q Wh Tr Co Wi Pc It (nI q) (nI n) (nI c) (nI a) fuel) 64 N 0 (by omega) (by have := m.hN; omega) hl with ⟨h1, h2⟩ | ⟨j, h1, h2⟩
    · rw [Nat.add_zero] at h2
      rw [show (0 : Int32) = nI 0 from rfl, h2]
      exact ih fuel (w + 1) _ _ _ _ _ _ (by omega) (by omega) hc1 h1
    · rw [Nat.add_zero] at h2
      rw [show (0 : Int32) = nI 0 from rfl, h2, h1]
      exact ⟨_, _, _, _, _, _, rfl, hc1⟩
theorem rw_all {N : Nat} {ml : List lr_E} {qs : List mQ} {Lm S Q : Int32} {Wh Tr Co Wi Pc It Kn Se Va La : Nat → Int32} {Ro Ne : Nat → Int64} {L q n c : Nat} {x : mQ} (m : MC N ml qs S Q Wh Tr Co Wi Pc It) (hc : ca (lm_best ml) qs L Ro Kn) (hx : qs[q]? = some x) (hL : L < 62) (hn : n ≤ L) (hc3 : c < 3) (v : Int32) :
    ∃ Ro' Kn' Ne' Se' Va' La', f_M_row_34 N Lm S Q Wh Tr Co Wi Pc It (nI q) (nI n) (nI c) v N Ro Kn Ne Se Va La v 0 = some (if v < 0 then -2 else rs_ans ((ks 65536 (wB (lm_best ml) x n c))[v.toNatClampNeg]?), Ro', Kn', Ne', Se', Va', La') ∧ ca (lm_best ml) qs L Ro' Kn' := by
  have hN := m.hN
  by_cases hv : v < 0
  · rw [if_pos hv]
    obtain ⟨N', rfl⟩ : ∃ N', N = N' + 1 := ⟨N - 1, by omega⟩
    rw [f_M_row_34.eq_2, if_neg (by decide), if_pos hv]
    exact ⟨_, _, _, _, _, _, rfl, hc⟩
  · obtain ⟨a, ha, rfl⟩ := nI_of hv
    rw [if_neg hv, pu_cl ha]
    exact rw_34 (N := N) m hx hL hn hc3 ha 1024 N 0 Ro Ne Kn Se Va La (by omega) (by omega) hc (Nat.zero_le _)
theorem ag_val {w k i : Nat} (hw : w < 1024) (hk : k < 64) (hi : i < 4) : ((((64 : Int32) * nI w) + nI k) >>> ((16 - (4 * nI (i + 1))) &&& 31)) &&& 15 = nI (dg (64 * w + k) i) := by
  have e0 : (64 : Int32) * nI w + nI k = nI (64 * w + k) := by rw [show (64 : Int32) = nI 64 from rfl, pk_mul, nI_add]
  have e1 : (16 : Int32) - 4 * nI (i + 1) = nI (4 * (3 - i)) := by
    rcases (show i = 0 ∨ i = 1 ∨ i = 2 ∨ i = 3 by omega) with r | r | r | r <;> subst r <;> decide
  rw [e0, e1, pb_shr (by omega) (by omega)]
  have e2 : (15 : Int32) = nI 15 := rfl
  rw [e2, pb_and]
  unfold dg
  rw [show (15 : Nat) = 2 ^ 4 - 1 from rfl, Nat.and_two_pow_sub_one_eq_mod, Nat.pow_mul]
def ag_st (l : List Nat) (s lo hi : Int32) : Prop := s = nI l.sum ∧ (l = [] ∧ lo = 16 ∧ hi = -1 ∨ ∃ a b, ag_least l a ∧ ag_great l b ∧ lo = nI a ∧ hi = nI b)
theorem ag_snoc {l : List Nat} {s lo hi : Int32} {d : Nat} (h : ag_st l s lo hi) (hl : ∀ z ∈ l, z < 16) (hd : d < 16) : ag_st (l ++ [d]) (s + nI d) (if lo ≤ nI d then lo else nI d) (if nI d ≤ hi then hi else nI d) := by
  obtain ⟨h1, h2⟩ := h
  refine ⟨by rw [h1, nI_add, List.sum_append]; simp, Or.inr ?_⟩
  rcases h2 with ⟨h2, h3, h4⟩ | ⟨a, b, h2, h3, h4, h5⟩
  · subst h2
    refine ⟨d, d, ⟨by simp, fun z hz => by simp at hz; omega⟩, ⟨by simp, fun z hz => by simp at hz; omega⟩, ?_, ?_⟩
    · rw [h3, if_neg (show ¬ (16 : Int32) ≤ nI d from nI_ge (b := 16) hd (by decide))]
    · rw [h4, if_neg ((by decide +kernel : ∀ d, d < 16 → ¬ nI d ≤ (-1 : Int32)) d hd)]
  · have ha := hl a h2.1
    have hb := hl b h3.1
    refine ⟨if a ≤ d then a else d, if d ≤ b then b else d, ⟨?_, fun z hz => ?_⟩, ⟨?_, fun z hz => ?_⟩, ?_, ?_⟩
    · split
      · exact List.mem_append_left _ h2.1
      · simp
    · rcases List.mem_append.mp hz with r | r
      · have := h2.2 z r; split <;> omega
      · simp at r; split <;> omega
    · split
      · exact List.mem_append_left _ h3.1
      · simp
    · rcases List.mem_append.mp hz with r | r
      · have := h3.2 z r; split <;> omega
      · simp at r; split <;> omega
    · rw [h4]
      by_cases q : a ≤ d
      · rw [if_pos (nI_le q (by omega)), if_pos q]
      · rw [if_neg (nI_ge (by omega) (by omega)), if_neg q]
    · rw [h5]
      by_cases q : d ≤ b
      · rw [if_pos (nI_le q (by omega)), if_pos q]
      · rw [if_neg (nI_ge (by omega) (by omega)), if_neg q]
def ag_l (B : Nat → Bool) (i j : Nat) : List Nat := (ks j B).map (fun k => dg k i)
theorem ag_l16 {B : Nat → Bool} {i j : Nat} : ∀ z ∈ ag_l B i j, z < 16 := fun z hz => by
  obtain ⟨k, _, e⟩ := List.mem_map.mp hz
  rw [← e]
  exact dg_lt k i
theorem ag_74 {N : Nat} {Lm S Qm : Int32} {Wh Tr Co Wi Pc It Kn Se Va La : Nat → Int32} {Ro Ne : Nat → Int64} {v1 v2 v3 : Int32} {B : Nat → Bool} {w i : Nat} (hw : w < 1024) (hi : i < 4) {r : (Nat → Int64) → (Nat → Int32) → (Nat → Int64) → (Nat → Int32) → (Nat → Int32) → (Nat → Int32) → Int32 → Int32 → Int32 → Int32 → Option (Int32 × (Nat → Int64) × (Nat → Int32) × (Nat → Int64) × (Nat → Int32) × (Nat → Int32) × (Nat → Int32))} :
    ∀ (n fuel k : Nat) (s lo hi : Int32), k + n = 64 → n < fuel → ag_st (ag_l B i (64 * w + k)) s lo hi →
    ∃ s' lo' hi', f_M_aggregate_74 N Lm S Qm Wh Tr Co Wi Pc It r v1 v2 v3 (nI (i + 1)) (nI w) (mW B w) fuel Ro Kn Ne Se Va La s lo hi (nI k) = r Ro Kn Ne Se Va La s' lo' hi' (nI (w + 1)) ∧ ag_st (ag_l B i (64 * (w + 1))) s' lo' hi' := by
  intro n
  induction n with
  | zero =>
    intro fuel k s lo hi hk hf hl
    obtain ⟨fuel, rfl⟩ : ∃ m, fuel = m + 1 := ⟨fuel - 1, by omega⟩
    have : k = 64 := by omega
    subst this
    rw [f_M_aggregate_74.eq_2, if_pos (show (64 : Int32) ≤ nI 64 by decide), nI_1]
    exact ⟨_, _, _, rfl, hl⟩
  | succ n ih =>
    intro fuel k s lo hi' hk hf hl
    obtain ⟨fuel, rfl⟩ : ∃ m, fuel = m + 1 := ⟨fuel - 1, by omega⟩
    rw [f_M_aggregate_74.eq_2, if_neg (show ¬ (64 : Int32) ≤ nI k from nI_ge (b := 64) (by omega) (by decide))]
    by_cases hz : lg_cmp (mW B w) 0 = 0
    · rw [if_pos hz, nI_1]
      have h0 := mW_c0.mp hz
      have e : ks (64 * (w + 1)) B = ks (64 * w + k) B := ks_same (by omega) (fun j h1 h2 => by have := h0 (j - 64 * w) (by omega); rwa [show 64 * w + (j - 64 * w) = j by omega] at this)
      refine ⟨_, _, _, rfl, ?_⟩
      unfold ag_l at hl ⊢
      rw [e]
      exact hl
    · rw [if_neg hz]
      by_cases hb : B (64 * w + k) = false
      · rw [if_pos ((mW_bit (by omega)).mpr hb), nI_1]
        have e : ks (64 * w + k) B = ks (64 * w + (k + 1)) B := by rw [← Nat.add_assoc, ks_succ, if_neg (by rw [hb]; decide)]
        refine ih fuel (k + 1) _ _ _ (by omega) (by omega) ?_
        unfold ag_l at hl ⊢
        rw [← e]
        exact hl
      · rw [if_neg (fun z => hb ((mW_bit (by omega)).mp z)), ag_val hw (by omega) hi, nI_1]
        have hb1 : B (64 * w + k) = true := by cases h : B (64 * w + k) with
          | true => rfl
          | false => exact absurd h hb
        have e : ag_l B i (64 * w + (k + 1)) = ag_l B i (64 * w + k) ++ [dg (64 * w + k) i] := by
          unfold ag_l
          rw [← Nat.add_assoc, ks_succ, if_pos hb1, List.map_append]; rfl
        have st := ag_snoc hl ag_l16 (dg_lt (64 * w + k) i)
        rw [← e] at st
        have go := ih fuel (k + 1) _ _ _ (by omega) (by omega) st
        by_cases q1 : lo ≤ nI (dg (64 * w + k) i)
        · rw [if_pos q1]
          rw [if_pos q1] at go
          by_cases q2 : nI (dg (64 * w + k) i) ≤ hi'
          · rw [if_pos q2]
            rw [if_pos q2] at go
            exact go
          · rw [if_neg q2]
            rw [if_neg q2] at go
            exact go
        · rw [if_neg q1]
          rw [if_neg q1] at go
          by_cases q2 : nI (dg (64 * w + k) i) ≤ hi'
          · rw [if_pos q2]
            rw [if_pos q2] at go
            exact go
          · rw [if_neg q2]
            rw [if_neg q2] at go
            exact go
theorem ag_52 {N : Nat} {ml : List lr_E} {qs : List mQ} {Lm S Q v3 : Int32} {Wh Tr Co Wi Pc It : Nat → Int32} {L q n i : Nat} {x : mQ} (m : MC N ml qs S Q Wh Tr Co Wi Pc It) (hx : qs[q]? = some x) (hL : L < 62) (hn : n ≤ L) (hi : i < 4) :
    ∀ (k fuel w : Nat) (Ro Ne : Nat → Int64) (Kn Se Va La : Nat → Int32) (s lo hi : Int32), w + k = 1024 → k < fuel → ca (lm_best ml) qs L Ro Kn → ag_st (ag_l (wB (lm_best ml) x n 0) i (64 * w)) s lo hi →
    ∃ Ro' Kn' Ne' Se' Va' La' s' lo' hi', f_M_aggregate_52 N Lm S Q Wh Tr Co Wi Pc It (nI q) (nI n) v3 (nI (i + 1)) fuel Ro Kn Ne Se Va La s lo hi (nI w) = f_M_aggregate_175 N Lm S Q Wh Tr Co Wi Pc It Ro' Kn' Ne' Se' Va' La' v3 s' lo' hi' ∧ ca (lm_best ml) qs L Ro' Kn' ∧ ag_st (ag_l (wB (lm_best ml) x n 0) i 65536) s' lo' hi' := by
  intro k
  induction k with
  | zero =>
    intro fuel w Ro Ne Kn Se Va La s lo hi hw hf hc hl
    obtain ⟨fuel, rfl⟩ : ∃ m, fuel = m + 1 := ⟨fuel - 1, by omega⟩
    have : w = 1024 := by omega
    subst this
    rw [f_M_aggregate_52.eq_2, if_pos (show (1024 : Int32) ≤ nI 1024 by decide)]
    exact ⟨_, _, _, _, _, _, _, _, _, rfl, hc, hl⟩
  | succ k ih =>
    intro fuel w Ro Ne Kn Se Va La s lo hi' hw hf hc hl
    obtain ⟨fuel, rfl⟩ : ∃ m, fuel = m + 1 := ⟨fuel - 1, by omega⟩
    obtain ⟨Ro1, Kn1, Ne1, Se1, Va1, La1, e1, hc1⟩ := bi_all (N := N) (Ne := Ne) (Se := Se) (Va := Va) (La := La) m hc hx hL hn (show 0 < 3 by omega) (show w < 1024 by omega)
    rw [f_M_aggregate_52.eq_2, if_neg (show ¬ (1024 : Int32) ≤ nI w from nI_ge (b := 1024) (by omega) (by decide)), show f_M_bits N S Wh Tr Co Wi Pc It Ro Kn Ne Se Va La (nI q) (nI n) 0 (nI w) = _ from e1, fn_s7]
    obtain ⟨s1, lo1, hi1, e2, h2⟩ := ag_74 (N := N) (Lm := Lm) (S := S) (Qm := Q) (Wh := Wh) (Tr := Tr) (Co := Co) (Wi := Wi) (Pc := Pc) (It := It) (Kn := Kn1) (Se := Se1) (Va := Va1) (La := La1) (Ro := Ro1) (Ne := Ne1) (v1 := nI q) (v2 := nI n) (v3 := v3) (B := wB (lm_best ml) x n 0) (w := w) (by omega) hi (r := f_M_aggregate_52 N Lm S Q Wh Tr Co Wi Pc It (nI q) (nI n) v3 (nI (i + 1)) fuel) 64 N 0 s lo hi' (by omega) (by have := m.hN; omega) hl
    rw [show (0 : Int32) = nI 0 from rfl, e2]
    exact ih fuel (w + 1) _ _ _ _ _ _ _ _ _ (by omega) (by omega) hc1 h2

/-! PURE ROWS 18: the model's ask: a set of keys as bits of 1024 longs -/
theorem lb_or (a b : Nat) : lN a ||| lN b = lN (a ||| b) := by
  apply Int64.toBitVec_inj.1
  show BitVec.ofNat 64 a ||| BitVec.ofNat 64 b = BitVec.ofNat 64 (a ||| b)
  apply BitVec.eq_of_getLsbD_eq
  intro i hi
  simp [hi]
theorem lb_and (a b : Nat) : lN a &&& lN b = lN (a &&& b) := by
  apply Int64.toBitVec_inj.1
  show BitVec.ofNat 64 a &&& BitVec.ofNat 64 b = BitVec.ofNat 64 (a &&& b)
  apply BitVec.eq_of_getLsbD_eq
  intro i hi
  simp [hi]
theorem lb_pow : ∀ k, k < 64 → (1 : Int64) <<< (Int32.toInt64 (nI k) &&& 63) = lN (2 ^ k) := by decide +kernel
def nx_in (P : Nat → Prop) (f : Nat → Int64) : Prop := ∀ w, w < 1024 → ∃ m, m < 2 ^ 64 ∧ f w = lN m ∧ ∀ b, b < 64 → (m.testBit b = true ↔ P (64 * w + b))
theorem nx_to {P P' : Nat → Prop} {f : Nat → Int64} (h : nx_in P f) (he : ∀ k, k < 65536 → (P k ↔ P' k)) : nx_in P' f := fun w hw => by
  obtain ⟨m, h1, h2, h3⟩ := h w hw
  exact ⟨m, h1, h2, fun b hb => (h3 b hb).trans (he _ (by omega))⟩
theorem nx_set {P : Nat → Prop} {f : Nat → Int64} {k : Nat} (h : nx_in P f) (hk : k < 65536) : nx_in (fun j => P j ∨ j = k) (vp_updL f (k / 64) (f (k / 64) ||| ((1 : Int64) <<< (Int32.toInt64 (nI (k % 64)) &&& 63)))) := fun w hw => by
  obtain ⟨m, h1, h2, h3⟩ := h w hw
  by_cases e : w = k / 64
  · subst e
    refine ⟨m ||| 2 ^ (k % 64), Nat.or_lt_two_pow h1 (Nat.pow_lt_pow_right (by decide) (by omega)), ?_, fun b hb => ?_⟩
    · rw [pk_uLs, h2, lb_pow _ (by omega), lb_or]
    · rw [Nat.testBit_or, Nat.testBit_two_pow, Bool.or_eq_true, h3 b hb, decide_eq_true_eq]
      have : k % 64 = b ↔ 64 * (k / 64) + b = k := by omega
      rw [this]
  · refine ⟨m, h1, by rw [pk_uLn e]; exact h2, fun b hb => (h3 b hb).trans ?_⟩
    have : ¬ 64 * w + b = k := by omega
    simp [this]
def rR (sn : Nat → Bool) (ps : List it_P) (k : Nat) : Bool := ps.all (pm sn (dg k))
theorem dg_key {x y z u : Nat} (hx : x < 16) (hy : y < 16) (hz : z < 16) (hu : u < 16) : dg (4096 * x + 256 * y + 16 * z + u) 0 = x ∧ dg (4096 * x + 256 * y + 16 * z + u) 1 = y ∧ dg (4096 * x + 256 * y + 16 * z + u) 2 = z ∧ dg (4096 * x + 256 * y + 16 * z + u) 3 = u := by
  unfold dg
  refine ⟨?_, ?_, ?_, ?_⟩
  · rw [show 16 ^ (3 - 0) = 4096 from rfl]; omega
  · rw [show 16 ^ (3 - 1) = 256 from rfl]; omega
  · rw [show 16 ^ (3 - 2) = 16 from rfl]; omega
  · rw [show 16 ^ (3 - 3) = 1 from rfl]; omega
theorem ak_25 {sn : Nat → Bool} {ps : List it_P} {q N x y z d : Nat} {Pc It Se : Nat → Int32} (hN : 5000 ≤ N) (hq : q < 12) (h : mq_rep q ps Pc It) (ok : qu_ok ps) (hse : ∀ t, t < 2048 → Se t = pu_b (sn t)) (hx : x < 16) (hy : y < 16) (hz : z < 16) (hd : d < 16) :
    ∀ (n fuel u : Nat) (P : Nat → Prop) (Ne : Nat → Int64) (Va : Nat → Int32), u + n = d + 1 → n < fuel → nx_in P Ne → Va 1 = nI x → Va 2 = nI y → Va 3 = nI z →
    ∃ Ne' Va', f_M_askLast_25 N Pc It Se (nI q) (nI x) (nI y) (nI z) (nI d) fuel Ne Va (nI u) = some (Ne', Va') ∧ nx_in (fun k => P k ∨ ∃ u', u ≤ u' ∧ u' ≤ d ∧ k = 4096 * x + 256 * y + 16 * z + u' ∧ rR sn ps k = true) Ne' := by
  intro n
  induction n with
  | zero =>
    intro fuel u P Ne Va hu hf hP h1 h2 h3
    obtain ⟨fuel, rfl⟩ : ∃ m, fuel = m + 1 := ⟨fuel - 1, by omega⟩
    rw [f_M_askLast_25.eq_2, if_pos (nI_lt (by omega) (by omega))]
    refine ⟨Ne, Va, rfl, nx_to hP (fun k _ => ⟨Or.inl, fun q => ?_⟩)⟩
    rcases q with q | ⟨u', a, b, _⟩
    · exact q
    · omega
  | succ n ih =>
    intro fuel u P Ne Va hu hf hP h1 h2 h3
    obtain ⟨fuel, rfl⟩ : ∃ m, fuel = m + 1 := ⟨fuel - 1, by omega⟩
    have e4 : Int32.toNatClampNeg 4 = 4 := by decide
    have hvr : mv_rep (dg (4096 * x + 256 * y + 16 * z + u)) (upd Va 4 (nI u)) := fun i hi => by
      obtain ⟨d0, d1, d2, d3⟩ := dg_key hx hy hz (show u < 16 by omega)
      rcases (show i = 0 ∨ i = 1 ∨ i = 2 ∨ i = 3 by omega) with r | r | r | r <;> subst r
      · rw [pk_un (by decide), d0]; exact h1
      · rw [pk_un (by decide), d1]; exact h2
      · rw [pk_un (by decide), d2]; exact h3
      · rw [pk_us, d3]
    have hrow := mq_isRow (N := N) hN hq h ok hvr (fun i _ => dg_lt _ _) hse
    have ek : (4096 : Int32) * nI x + 256 * nI y + 16 * nI z + nI u = nI (4096 * x + 256 * y + 16 * z + u) := by
      rw [show (4096 : Int32) = nI 4096 from rfl, show (256 : Int32) = nI 256 from rfl, show (16 : Int32) = nI 16 from rfl, pk_mul, pk_mul, pk_mul, nI_add, nI_add, nI_add]
    rw [f_M_askLast_25.eq_2, if_neg (nI_nlt (by omega) (by omega)), if_pos (by decide), e4, hrow, fn_s1, ek]
    generalize hK : 4096 * x + 256 * y + 16 * z + u = K at *
    have hKl : K < 65536 := by omega
    have ed : nI K / 64 = nI (K / 64) := pk_div (d := 64) (by omega) (by decide) (by decide)
    have er : nI K - nI (K / 64) * 64 = nI (K % 64) := by
      rw [← ed]; exact pk_rem (d := 64) (by omega) (by decide) (by decide)
    have hin := pu_in (show K / 64 < 1024 by omega) (by decide)
    rw [ed, er, if_pos hin, if_pos hin, pu_cl (by omega), nI_1]
    have hR : rR sn ps K = ps.all (pm sn (dg K)) := rfl
    cases hb : ps.all (pm sn (dg K)) with
    | false =>
      rw [if_pos (by rfl)]
      obtain ⟨Ne', Va', e, hP'⟩ := ih fuel (u + 1) P Ne (upd Va 4 (nI u)) (by omega) (by omega) hP (by rw [pk_un (by decide)]; exact h1) (by rw [pk_un (by decide)]; exact h2) (by rw [pk_un (by decide)]; exact h3)
      refine ⟨Ne', Va', e, nx_to hP' (fun k _ => ?_)⟩
      constructor
      · rintro (q | ⟨u', a, b, c, r⟩)
        · exact Or.inl q
        · exact Or.inr ⟨u', by omega, b, c, r⟩
      · rintro (q | ⟨u', a, b, c, r⟩)
        · exact Or.inl q
        · by_cases eu : u' = u
          · subst eu
            rw [c, hK, hR, hb] at r
            cases r
          · exact Or.inr ⟨u', by omega, b, c, r⟩
    | true =>
      rw [if_neg pu_b1]
      obtain ⟨Ne', Va', e, hP'⟩ := ih fuel (u + 1) _ _ (upd Va 4 (nI u)) (by omega) (by omega) (nx_set hP hKl) (by rw [pk_un (by decide)]; exact h1) (by rw [pk_un (by decide)]; exact h2) (by rw [pk_un (by decide)]; exact h3)
      refine ⟨Ne', Va', e, nx_to hP' (fun k _ => ?_)⟩
      constructor
      · rintro ((q | q) | ⟨u', a, b, c, r⟩)
        · exact Or.inl q
        · exact Or.inr ⟨u, by omega, by omega, by omega, by rw [q, hR]; exact hb⟩
        · exact Or.inr ⟨u', by omega, b, c, r⟩
      · rintro (q | ⟨u', a, b, c, r⟩)
        · exact Or.inl (Or.inl q)
        · by_cases eu : u' = u
          · exact Or.inl (Or.inr (by omega))
          · exact Or.inr ⟨u', by omega, b, c, r⟩
theorem ak_last {sn : Nat → Bool} {ps : List it_P} {q N x y z d : Nat} {Pc It Se : Nat → Int32} (hN : 5000 ≤ N) (hq : q < 12) (h : mq_rep q ps Pc It) (ok : qu_ok ps) (hse : ∀ t, t < 2048 → Se t = pu_b (sn t)) (hx : x < 16) (hy : y < 16) (hz : z < 16) (hd : d < 16) (P : Nat → Prop) (Ne : Nat → Int64) (Va : Nat → Int32) (hP : nx_in P Ne) :
    ∃ Ne' Va', f_M_askLast N Pc It Ne Se Va (nI q) (nI x) (nI y) (nI z) (nI d) = some (Ne', Va') ∧ nx_in (fun k => P k ∨ ∃ u', u' ≤ d ∧ k = 4096 * x + 256 * y + 16 * z + u' ∧ rR sn ps k = true) Ne' := by
  unfold f_M_askLast
  have c1 : Int32.toNatClampNeg 1 = 1 := by decide
  have c2 : Int32.toNatClampNeg 2 = 2 := by decide
  have c3 : Int32.toNatClampNeg 3 = 3 := by decide
  rw [if_pos (by decide), if_pos (by decide), if_pos (by decide), c1, c2, c3]
  obtain ⟨Ne', Va', e, hP'⟩ := ak_25 (N := N) hN hq h ok hse hx hy hz hd (d + 1) N 0 P Ne (upd (upd (upd Va 1 (nI x)) 2 (nI y)) 3 (nI z)) (by omega) (by omega) hP (by rw [pk_un (by decide), pk_un (by decide), pk_us]) (by rw [pk_un (by decide), pk_us]) pk_us
  refine ⟨Ne', Va', e, nx_to hP' (fun k _ => ?_)⟩
  constructor
  · rintro (q | ⟨u', _, b, c, r⟩)
    · exact Or.inl q
    · exact Or.inr ⟨u', b, c, r⟩
  · rintro (q | ⟨u', b, c, r⟩)
    · exact Or.inl q
    · exact Or.inr ⟨u', by omega, b, c, r⟩
theorem ak_122 {sn : Nat → Bool} {ps : List it_P} {q N x y c d : Nat} {S : Int32} {Wh Tr Co Wi Pc It Se La : Nat → Int32} {v3 v4 : Int32} {r1 r2 : (Nat → Int64) → (Nat → Int32) → (Nat → Int32) → (Nat → Int32) → Int32 → Option ((Nat → Int64) × (Nat → Int32) × (Nat → Int32) × (Nat → Int32))} (hN : 5000 ≤ N) (hq : q < 12) (h : mq_rep q ps Pc It) (ok : qu_ok ps) (hse : ∀ t, t < 2048 → Se t = pu_b (sn t)) (hx : x < 16) (hy : y < 16) (hc : c < 16) (hd : d < 16) :
    ∀ (n fuel z : Nat) (P : Nat → Prop) (Ne : Nat → Int64) (Va : Nat → Int32), z + n = c + 1 → n < fuel → nx_in P Ne →
    ∃ Ne' Va', f_M_ask_122 N S Wh Tr Co Wi Pc It r1 r2 (nI q) v3 v4 (nI c) (nI d) (nI x) (nI y) fuel Ne Se Va La (nI z) = r2 Ne' Se Va' La (nI (y + 1)) ∧ nx_in (fun k => P k ∨ ∃ z' u', z ≤ z' ∧ z' ≤ c ∧ u' ≤ d ∧ k = 4096 * x + 256 * y + 16 * z' + u' ∧ rR sn ps k = true) Ne' := by
  intro n
  induction n with
  | zero =>
    intro fuel z P Ne Va hz hf hP
    obtain ⟨fuel, rfl⟩ : ∃ m, fuel = m + 1 := ⟨fuel - 1, by omega⟩
    rw [f_M_ask_122.eq_2, if_pos (nI_lt (by omega) (by omega)), nI_1]
    refine ⟨Ne, Va, rfl, nx_to hP (fun k _ => ⟨Or.inl, fun q => ?_⟩)⟩
    rcases q with q | ⟨z', u', a, b, _⟩
    · exact q
    · omega
  | succ n ih =>
    intro fuel z P Ne Va hz hf hP
    obtain ⟨fuel, rfl⟩ : ∃ m, fuel = m + 1 := ⟨fuel - 1, by omega⟩
    rw [f_M_ask_122.eq_2, if_neg (nI_nlt (by omega) (by omega))]
    obtain ⟨Ne1, Va1, e1, hP1⟩ := ak_last (N := N) (sn := sn) hN hq h ok hse hx hy (show z < 16 by omega) hd P Ne Va hP
    rw [e1, fn_s2, nI_1]
    obtain ⟨Ne', Va', e, hP'⟩ := ih fuel (z + 1) _ Ne1 Va1 (by omega) (by omega) hP1
    refine ⟨Ne', Va', e, nx_to hP' (fun k _ => ?_)⟩
    constructor
    · rintro ((q | ⟨u', b, c', r⟩) | ⟨z', u', a, b, c', d', r⟩)
      · exact Or.inl q
      · exact Or.inr ⟨z, u', by omega, by omega, b, c', r⟩
      · exact Or.inr ⟨z', u', by omega, b, c', d', r⟩
    · rintro (q | ⟨z', u', a, b, c', d', r⟩)
      · exact Or.inl (Or.inl q)
      · by_cases ez : z' = z
        · subst ez; exact Or.inl (Or.inr ⟨u', c', d', r⟩)
        · exact Or.inr ⟨z', u', by omega, b, c', d', r⟩
theorem ak_112 {sn : Nat → Bool} {ps : List it_P} {q N x b c d : Nat} {S : Int32} {Wh Tr Co Wi Pc It Se La : Nat → Int32} {v3 : Int32} {r1 : (Nat → Int64) → (Nat → Int32) → (Nat → Int32) → (Nat → Int32) → Int32 → Option ((Nat → Int64) × (Nat → Int32) × (Nat → Int32) × (Nat → Int32))} (hN : 5000 ≤ N) (hq : q < 12) (h : mq_rep q ps Pc It) (ok : qu_ok ps) (hse : ∀ t, t < 2048 → Se t = pu_b (sn t)) (hx : x < 16) (hb : b < 16) (hc : c < 16) (hd : d < 16) :
    ∀ (n fuel y : Nat) (P : Nat → Prop) (Ne : Nat → Int64) (Va : Nat → Int32), y + n = b + 1 → n < fuel → nx_in P Ne →
    ∃ Ne' Va', f_M_ask_112 N S Wh Tr Co Wi Pc It r1 (nI q) v3 (nI b) (nI c) (nI d) (nI x) fuel Ne Se Va La (nI y) = r1 Ne' Se Va' La (nI (x + 1)) ∧ nx_in (fun k => P k ∨ ∃ y' z' u', y ≤ y' ∧ y' ≤ b ∧ z' ≤ c ∧ u' ≤ d ∧ k = 4096 * x + 256 * y' + 16 * z' + u' ∧ rR sn ps k = true) Ne' := by
  intro n
  induction n with
  | zero =>
    intro fuel y P Ne Va hy hf hP
    obtain ⟨fuel, rfl⟩ : ∃ m, fuel = m + 1 := ⟨fuel - 1, by omega⟩
    rw [f_M_ask_112.eq_2, if_pos (nI_lt (by omega) (by omega)), nI_1]
    refine ⟨Ne, Va, rfl, nx_to hP (fun k _ => ⟨Or.inl, fun q => ?_⟩)⟩
    rcases q with q | ⟨y', z', u', a, b, _⟩
    · exact q
    · omega
  | succ n ih =>
    intro fuel y P Ne Va hy hf hP
    obtain ⟨fuel, rfl⟩ : ∃ m, fuel = m + 1 := ⟨fuel - 1, by omega⟩
    rw [f_M_ask_112.eq_2, if_neg (nI_nlt (by omega) (by omega))]
    obtain ⟨Ne1, Va1, e1, hP1⟩ := ak_122 (N := N) (sn := sn) (S := S) (Wh := Wh) (Tr := Tr) (Co := Co) (Wi := Wi) (La := La) (v3 := v3) (v4 := nI b) (r1 := r1) (r2 := f_M_ask_112 N S Wh Tr Co Wi Pc It r1 (nI q) v3 (nI b) (nI c) (nI d) (nI x) fuel) hN hq h ok hse hx (show y < 16 by omega) hc hd (c + 1) N 0 P Ne Va (by omega) (by omega) hP
    rw [show (0 : Int32) = nI 0 from rfl, e1]
    obtain ⟨Ne', Va', e, hP'⟩ := ih fuel (y + 1) _ Ne1 Va1 (by omega) (by omega) hP1
    refine ⟨Ne', Va', e, nx_to hP' (fun k _ => ?_)⟩
    constructor
    · rintro ((q | ⟨z', u', _, b, c', d', r⟩) | ⟨y', z', u', a, b, c', d', e', r⟩)
      · exact Or.inl q
      · exact Or.inr ⟨y, z', u', by omega, by omega, b, c', d', r⟩
      · exact Or.inr ⟨y', z', u', by omega, b, c', d', e', r⟩
    · rintro (q | ⟨y', z', u', a, b, c', d', e', r⟩)
      · exact Or.inl (Or.inl q)
      · by_cases ey : y' = y
        · subst ey; exact Or.inl (Or.inr ⟨z', u', by omega, c', d', e', r⟩)
        · exact Or.inr ⟨y', z', u', by omega, b, c', d', e', r⟩
theorem ak_103 {sn : Nat → Bool} {ps : List it_P} {q N a b c d : Nat} {S : Int32} {Wh Tr Co Wi Pc It Se La : Nat → Int32} (hN : 5000 ≤ N) (hq : q < 12) (h : mq_rep q ps Pc It) (ok : qu_ok ps) (hse : ∀ t, t < 2048 → Se t = pu_b (sn t)) (ha : a < 16) (hb : b < 16) (hc : c < 16) (hd : d < 16) :
    ∀ (n fuel x : Nat) (P : Nat → Prop) (Ne : Nat → Int64) (Va : Nat → Int32), x + n = a + 1 → n < fuel → nx_in P Ne →
    ∃ Ne' Va', f_M_ask_103 N S Wh Tr Co Wi Pc It (nI q) (nI a) (nI b) (nI c) (nI d) fuel Ne Se Va La (nI x) = some (Ne', Se, Va', La) ∧ nx_in (fun k => P k ∨ ∃ x' y' z' u', x ≤ x' ∧ x' ≤ a ∧ y' ≤ b ∧ z' ≤ c ∧ u' ≤ d ∧ k = 4096 * x' + 256 * y' + 16 * z' + u' ∧ rR sn ps k = true) Ne' := by
  intro n
  induction n with
  | zero =>
    intro fuel x P Ne Va hx hf hP
    obtain ⟨fuel, rfl⟩ : ∃ m, fuel = m + 1 := ⟨fuel - 1, by omega⟩
    rw [f_M_ask_103.eq_2, if_pos (nI_lt (by omega) (by omega))]
    refine ⟨Ne, Va, rfl, nx_to hP (fun k _ => ⟨Or.inl, fun q => ?_⟩)⟩
    rcases q with q | ⟨x', y', z', u', a, b, _⟩
    · exact q
    · omega
  | succ n ih =>
    intro fuel x P Ne Va hx hf hP
    obtain ⟨fuel, rfl⟩ : ∃ m, fuel = m + 1 := ⟨fuel - 1, by omega⟩
    rw [f_M_ask_103.eq_2, if_neg (nI_nlt (by omega) (by omega))]
    obtain ⟨Ne1, Va1, e1, hP1⟩ := ak_112 (N := N) (sn := sn) (S := S) (Wh := Wh) (Tr := Tr) (Co := Co) (Wi := Wi) (La := La) (v3 := nI a) (r1 := f_M_ask_103 N S Wh Tr Co Wi Pc It (nI q) (nI a) (nI b) (nI c) (nI d) fuel) hN hq h ok hse (show x < 16 by omega) hb hc hd (b + 1) N 0 P Ne Va (by omega) (by omega) hP
    rw [show (0 : Int32) = nI 0 from rfl, e1]
    obtain ⟨Ne', Va', e, hP'⟩ := ih fuel (x + 1) _ Ne1 Va1 (by omega) (by omega) hP1
    refine ⟨Ne', Va', e, nx_to hP' (fun k _ => ?_)⟩
    constructor
    · rintro ((q | ⟨y', z', u', _, b, c', d', r⟩) | ⟨x', y', z', u', a, b, c', d', e', f', r⟩)
      · exact Or.inl q
      · exact Or.inr ⟨x, y', z', u', by omega, by omega, b, c', d', r⟩
      · exact Or.inr ⟨x', y', z', u', by omega, b, c', d', e', f', r⟩
    · rintro (q | ⟨x', y', z', u', a, b, c', d', e', f', r⟩)
      · exact Or.inl (Or.inl q)
      · by_cases ex : x' = x
        · subst ex; exact Or.inl (Or.inr ⟨y', z', u', by omega, c', d', e', f', r⟩)
        · exact Or.inr ⟨x', y', z', u', by omega, b, c', d', e', f', r⟩

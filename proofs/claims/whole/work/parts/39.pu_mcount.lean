/-! PURE ROWS 20: the model's count, row, aggregate -/
theorem ks_succ (n : Nat) (B : Nat → Bool) : ks (n + 1) B = if B n = true then ks n B ++ [n] else ks n B := by
  unfold ks
  rw [List.range_succ, List.filter_append]
  cases h : B n <;> simp [h]
theorem ks_app {a b : Nat} (h : a ≤ b) (B : Nat → Bool) : ∃ r, ks b B = ks a B ++ r := by
  obtain ⟨d, rfl⟩ : ∃ d, b = a + d := ⟨b - a, by omega⟩
  induction d with
  | zero => exact ⟨[], by simp⟩
  | succ d ih =>
    obtain ⟨r, hr⟩ := ih (by omega)
    rw [← Nat.add_assoc, ks_succ, hr]
    split
    · exact ⟨r ++ [a + d], by rw [List.append_assoc]⟩
    · exact ⟨r, rfl⟩
theorem ks_at {j n : Nat} {B : Nat → Bool} (hj : j < n) (h : B j = true) : (ks n B)[(ks j B).length]? = some j := by
  obtain ⟨r, hr⟩ := ks_app (show j + 1 ≤ n by omega) B
  rw [hr, ks_succ, if_pos h, List.append_assoc, List.getElem?_append_right (Nat.le_refl _), Nat.sub_self]
  rfl
theorem ks_len (n : Nat) (B : Nat → Bool) : (ks n B).length ≤ n := by
  have := List.length_filter_le B (List.range n)
  rw [List.length_range] at this
  exact this
theorem ks_lt {n k : Nat} {B : Nat → Bool} (h : k ∈ ks n B) : k < n := by
  unfold ks at h
  exact List.mem_range.mp (List.mem_filter.mp h).1
theorem ks_same {a b : Nat} {B : Nat → Bool} (h : a ≤ b) (hB : ∀ k, a ≤ k → k < b → B k = false) : ks b B = ks a B := by
  obtain ⟨d, rfl⟩ : ∃ d, b = a + d := ⟨b - a, by omega⟩
  clear h
  induction d with
  | zero => rfl
  | succ d ih =>
    rw [← Nat.add_assoc, ks_succ, if_neg (by rw [hB _ (by omega) (by omega)]; decide), ih (fun k h1 h2 => hB k h1 (by omega))]
theorem pc_low : ∀ (n m : Nat), 0 < m → m < 2 ^ n → pc n (m &&& (m - 1)) + 1 = pc n m := by
  intro n
  induction n with
  | zero => intro m h0 h; rw [Nat.pow_zero] at h; omega
  | succ n ih =>
    intro m h0 h
    rw [pc, pc, Nat.and_div_two]
    have hm : (m &&& (m - 1)) % 2 = 0 := by
      have := Nat.and_mod_two_pow (a := m) (b := m - 1) (n := 1)
      rw [Nat.pow_one] at this
      rw [this]
      rcases (show m % 2 = 0 ∨ (m - 1) % 2 = 0 by omega) with r | r
      · rw [r, Nat.zero_and]
      · rw [r, Nat.and_zero]
    rw [hm]
    rw [Nat.pow_succ] at h
    by_cases ho : m % 2 = 1
    · rw [show (m - 1) / 2 = m / 2 by omega, Nat.and_self, ho]
      omega
    · rw [show (m - 1) / 2 = m / 2 - 1 by omega, show m % 2 = 0 by omega]
      have := ih (m / 2) (by omega) (by omega)
      omega
theorem pc_zero : ∀ (n : Nat), pc n 0 = 0 := by
  intro n
  induction n with
  | zero => rfl
  | succ n ih => rw [pc, Nat.zero_div, ih]
theorem ks_word (B : Nat → Bool) (w : Nat) : (ks (64 * (w + 1)) B).length = (ks (64 * w) B).length + pc 64 (bm (fun b => B (64 * w + b)) 64) := by
  rw [← pc_bs]
  have : ∀ n, n ≤ 64 → (ks (64 * w + n) B).length = (ks (64 * w) B).length + (bs (bm (fun b => B (64 * w + b)) 64) n).length := by
    intro n
    induction n with
    | zero => intro _; rfl
    | succ n ih =>
      intro hn
      rw [← Nat.add_assoc, ks_succ]
      unfold bs at *
      rw [List.range_succ, List.filter_append, List.length_append, ← Nat.add_assoc, ← ih (by omega)]
      have hb : (bm (fun b => B (64 * w + b)) 64).testBit n = B (64 * w + n) := by rw [bm_bit]; simp [show n < 64 by omega]
      cases h : B (64 * w + n) <;> rw [h] at hb <;> simp [hb]
  exact this 64 (by omega)
theorem co_25 {N : Nat} {S : Int32} {Wh Tr Co Wi Pc It Kn Se Va La : Nat → Int32} {Ro Ne : Nat → Int64} {v1 v2 v3 v5 : Int32} {r : (Nat → Int64) → (Nat → Int32) → (Nat → Int64) → (Nat → Int32) → (Nat → Int32) → (Nat → Int32) → Int32 → Int32 → Option (Int32 × (Nat → Int64) × (Nat → Int32) × (Nat → Int64) × (Nat → Int32) × (Nat → Int32) × (Nat → Int32))} :
    ∀ (k fuel m c : Nat), pc 64 m = k → m < 2 ^ 64 → k < fuel → f_M_count_25 N S Wh Tr Co Wi Pc It r v1 v2 v3 v5 fuel Ro Kn Ne Se Va La (nI c) (lN m) = r Ro Kn Ne Se Va La (nI (c + k)) (v5 + 1) := by
  intro k
  induction k with
  | zero =>
    intro fuel m c hp hm hf
    obtain ⟨fuel, rfl⟩ : ∃ m, fuel = m + 1 := ⟨fuel - 1, by omega⟩
    have h0 : m = 0 := by
      by_cases h : m = 0
      · exact h
      · have := pc_low 64 m (by omega) hm
        omega
    subst h0
    rw [f_M_count_25.eq_2, if_pos (show lg_cmp (lN 0) (0 : Int64) = 0 from (lg_cmp_eq _ _).mpr rfl), Nat.add_zero]
  | succ k ih =>
    intro fuel m c hp hm hf
    obtain ⟨fuel, rfl⟩ : ∃ m, fuel = m + 1 := ⟨fuel - 1, by omega⟩
    have h0 : ¬ m = 0 := fun h => by rw [h, pc_zero] at hp; omega
    have hl := pc_low 64 m (by omega) hm
    rw [f_M_count_25.eq_2, if_neg (show ¬ lg_cmp (lN m) (0 : Int64) = 0 from fun z => h0 ((lb_inj hm (by decide)).mp ((lg_cmp_eq _ _).mp z))), nI_1, show (1 : Int64) = lN 1 from rfl, lN_sub (by omega), lb_and, ih fuel _ (c + 1) (by omega) (Nat.lt_of_le_of_lt Nat.and_le_left hm) (by omega), show c + 1 + k = c + (k + 1) by omega]
theorem co_6 {N : Nat} {ml : List lr_E} {qs : List mQ} {S Q : Int32} {Wh Tr Co Wi Pc It : Nat → Int32} {L q n c : Nat} {x : mQ} (m : MC N ml qs S Q Wh Tr Co Wi Pc It) (hx : qs[q]? = some x) (hL : L < 62) (hn : n ≤ L) (hc3 : c < 3) :
    ∀ (k fuel w : Nat) (Ro Ne : Nat → Int64) (Kn Se Va La : Nat → Int32), w + k = 1024 → k < fuel → ca (lm_best ml) qs L Ro Kn →
    ∃ Ro' Kn' Ne' Se' Va' La', f_M_count_6 N S Wh Tr Co Wi Pc It (nI q) (nI n) (nI c) fuel Ro Kn Ne Se Va La (nI (ks (64 * w) (wB (lm_best ml) x n c)).length) (nI w) = some (nI (ks 65536 (wB (lm_best ml) x n c)).length, Ro', Kn', Ne', Se', Va', La') ∧ ca (lm_best ml) qs L Ro' Kn' := by
  intro k
  induction k with
  | zero =>
    intro fuel w Ro Ne Kn Se Va La hw hf hc
    obtain ⟨fuel, rfl⟩ : ∃ m, fuel = m + 1 := ⟨fuel - 1, by omega⟩
    have : w = 1024 := by omega
    subst this
    rw [f_M_count_6.eq_2, if_pos (show (1024 : Int32) ≤ nI 1024 by decide)]
    exact ⟨_, _, _, _, _, _, rfl, hc⟩
  | succ k ih =>
    intro fuel w Ro Ne Kn Se Va La hw hf hc
    obtain ⟨fuel, rfl⟩ : ∃ m, fuel = m + 1 := ⟨fuel - 1, by omega⟩
    obtain ⟨Ro1, Kn1, Ne1, Se1, Va1, La1, e1, hc1⟩ := bi_all (N := N) (Ne := Ne) (Se := Se) (Va := Va) (La := La) m hc hx hL hn hc3 (show w < 1024 by omega)
    have hp : pc 64 (bm (fun b => wB (lm_best ml) x n c (64 * w + b)) 64) ≤ 64 := by
      rw [← pc_bs]
      have := List.length_filter_le (fun u => (bm (fun b => wB (lm_best ml) x n c (64 * w + b)) 64).testBit u) (List.range 64)
      rw [List.length_range] at this
      exact this
    rw [f_M_count_6.eq_2, if_neg (show ¬ (1024 : Int32) ≤ nI w from nI_ge (b := 1024) (by omega) (by decide)), e1, fn_s7]
    unfold mW
    rw [co_25 _ N _ _ rfl (bm_lt _ _) (by have := m.hN; omega), ← ks_word, nI_1]
    exact ih fuel (w + 1) _ _ _ _ _ _ (by omega) (by omega) hc1
theorem co_all {N : Nat} {ml : List lr_E} {qs : List mQ} {S Q : Int32} {Wh Tr Co Wi Pc It Kn Se Va La : Nat → Int32} {Ro Ne : Nat → Int64} {L q n c : Nat} {x : mQ} (m : MC N ml qs S Q Wh Tr Co Wi Pc It) (hc : ca (lm_best ml) qs L Ro Kn) (hx : qs[q]? = some x) (hL : L < 62) (hn : n ≤ L) (hc3 : c < 3) :
    ∃ Ro' Kn' Ne' Se' Va' La', f_M_count N S Wh Tr Co Wi Pc It Ro Kn Ne Se Va La (nI q) (nI n) (nI c) = some (nI (ks 65536 (wB (lm_best ml) x n c)).length, Ro', Kn', Ne', Se', Va', La') ∧ ca (lm_best ml) qs L Ro' Kn' :=
  co_6 (N := N) m hx hL hn hc3 1024 N 0 Ro Ne Kn Se Va La (by omega) (by have := m.hN; omega) hc
theorem lb_sl : ∀ n, n < 64 → ((Int32.toInt64 (nI n) &&& 63).toBitVec.smod 64).toNat = n := by decide +kernel
theorem lb_bit {m k : Nat} (hm : m < 2 ^ 64) (hk : k < 64) : ((lN m >>> (Int32.toInt64 (nI k) &&& 63)) &&& 1) = lN (if m.testBit k = true then 1 else 0) := by
  apply Int64.toBitVec_inj.1
  have e : (lN m >>> (Int32.toInt64 (nI k) &&& 63)).toBitVec = (BitVec.ofNat 64 m).sshiftRight k := by
    show (BitVec.ofNat 64 m).sshiftRight' _ = _
    unfold BitVec.sshiftRight'
    rw [lb_sl k hk]
  rw [Int64.toBitVec_and, e]
  apply BitVec.eq_of_getLsbD_eq
  intro i hi
  rw [BitVec.getLsbD_and, BitVec.getLsbD_sshiftRight]
  have e1 : (1 : Int64).toBitVec = 1#64 := by decide
  rw [e1]
  by_cases h0 : i = 0
  · subst h0
    simp only [Nat.add_zero, show k < 64 from hk, if_true]
    have eb : (BitVec.ofNat 64 m).getLsbD k = m.testBit k := by rw [BitVec.getLsbD_ofNat]; simp [hk]
    rw [eb]
    cases hb : m.testBit k <;> rfl
  · have : BitVec.getLsbD (1#64) i = false := by
      rw [BitVec.getLsbD_one]; simp [h0]
    rw [this, Bool.and_false]
    cases hb : m.testBit k
    · simp [lN]
    · show false = BitVec.getLsbD (1#64) i
      rw [this]
theorem mW_bit {B : Nat → Bool} {w k : Nat} (hk : k < 64) : (lg_cmp ((mW B w >>> (Int32.toInt64 (nI k) &&& 63)) &&& 1) 0 = 0) ↔ B (64 * w + k) = false := by
  unfold mW
  rw [lg_cmp_eq, lb_bit (bm_lt _ _) hk, bm_bit]
  cases h : B (64 * w + k)
  · simp [h, hk]; rfl
  · simp [h, hk]; decide
theorem mW_c0 {B : Nat → Bool} {w : Nat} : (lg_cmp (mW B w) 0 = 0) ↔ ∀ b, b < 64 → B (64 * w + b) = false := by
  rw [lg_cmp_eq, mW_zero]

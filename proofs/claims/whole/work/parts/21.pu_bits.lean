/-! PURE ROWS 2: bits -/
theorem pb_and (a b : Nat) : nI a &&& nI b = nI (a &&& b) := by
  apply Int32.toBitVec_inj.1
  show BitVec.ofNat 32 a &&& BitVec.ofNat 32 b = BitVec.ofNat 32 (a &&& b)
  apply BitVec.eq_of_getLsbD_eq
  intro i hi
  simp [hi]
theorem pb_or (a b : Nat) : nI a ||| nI b = nI (a ||| b) := by
  apply Int32.toBitVec_inj.1
  show BitVec.ofNat 32 a ||| BitVec.ofNat 32 b = BitVec.ofNat 32 (a ||| b)
  apply BitVec.eq_of_getLsbD_eq
  intro i hi
  simp [hi]
theorem pb_xor (a b : Nat) : nI a ^^^ nI b = nI (a ^^^ b) := by
  apply Int32.toBitVec_inj.1
  show BitVec.ofNat 32 a ^^^ BitVec.ofNat 32 b = BitVec.ofNat 32 (a ^^^ b)
  apply BitVec.eq_of_getLsbD_eq
  intro i hi
  simp [hi]
theorem pb_not {m k : Nat} (hm : m < 2 ^ 16) : nI m &&& (nI k ^^^ (-1)) = nI (m &&& (65535 ^^^ (k % 65536))) := by
  apply Int32.toBitVec_inj.1
  show BitVec.ofNat 32 m &&& (BitVec.ofNat 32 k ^^^ (-1 : Int32).toBitVec) = BitVec.ofNat 32 (m &&& (65535 ^^^ (k % 65536)))
  rw [show (-1 : Int32).toBitVec = BitVec.allOnes 32 by decide]
  apply BitVec.eq_of_getLsbD_eq
  intro i hi
  have h1 : ¬ i < 16 → m.testBit i = false := fun h => Nat.testBit_lt_two_pow (Nat.lt_of_lt_of_le hm (Nat.pow_le_pow_right (by decide) (by omega)))
  have h2 : Nat.testBit 65535 i = decide (i < 16) := by rw [show (65535 : Nat) = 2 ^ 16 - 1 from rfl, Nat.testBit_two_pow_sub_one]
  have h3 : (k % 65536).testBit i = (decide (i < 16) && k.testBit i) := by rw [show (65536 : Nat) = 2 ^ 16 from rfl, Nat.testBit_mod_two_pow]
  rw [BitVec.getLsbD_and, BitVec.getLsbD_xor, BitVec.getLsbD_ofNat, BitVec.getLsbD_ofNat, BitVec.getLsbD_allOnes, BitVec.getLsbD_ofNat, Nat.testBit_and, Nat.testBit_xor, h2, h3]
  by_cases h : i < 16
  · simp only [hi, h, decide_true, Bool.true_and]
    cases m.testBit i <;> cases k.testBit i <;> rfl
  · rw [h1 h]
    simp
theorem pb_sl : ∀ n, n < 32 → ((nI n &&& 31).toBitVec.smod 32).toNat = n := by decide +kernel
theorem pb_shr {m k : Nat} (hm : m < 2 ^ 31) (hk : k < 32) : nI m >>> (nI k &&& 31) = nI (m / 2 ^ k) := pk_shrN hm _ k (pb_sl k hk)
theorem pb_pow {k : Nat} (hk : k < 31) : (1 : Int32) <<< (nI k &&& 31) = nI (2 ^ k) := by
  have := pk_shlN (n := 1) (nI k &&& 31) k (pb_sl k (by omega)) (by rw [Nat.one_mul]; exact Nat.pow_lt_pow_right (by decide) (by omega))
  rw [Nat.one_mul] at this
  exact this
theorem pb_shl {m k : Nat} (hk : k < 32) (h : m * 2 ^ k < 2 ^ 32) : nI m <<< (nI k &&& 31) = nI (m * 2 ^ k) := pk_shlN (nI k &&& 31) k (pb_sl k hk) h
theorem pb_a1 (m : Nat) : nI m &&& 1 = nI (m % 2) := by
  show nI m &&& nI 1 = _
  rw [pb_and, Nat.and_one_is_mod]
theorem pb_bit {m k : Nat} (hm : m < 2 ^ 31) (hk : k < 32) : ((nI m >>> (nI k &&& 31)) &&& 1) = pu_b (m.testBit k) := by
  rw [pb_shr hm hk, pb_a1, Nat.testBit_eq_decide_div_mod_eq]
  rcases Nat.mod_two_eq_zero_or_one (m / 2 ^ k) with h | h <;> rw [h] <;> rfl
theorem pb_bit0 {m k : Nat} (hm : m < 2 ^ 31) (hk : k < 32) : ((nI m >>> (nI k &&& 31)) &&& 1) = 0 ↔ m.testBit k = false := by
  rw [pb_bit hm hk, pu_b0]
theorem pb_mask (m : Nat) : nI m &&& 65535 = nI (m % 65536) := by
  show nI m &&& nI 65535 = _
  rw [pb_and, show (65535 : Nat) = 2 ^ 16 - 1 from rfl, Nat.and_two_pow_sub_one_eq_mod]
/-- the number with the bits g below k -/
def bm (g : Nat → Bool) : Nat → Nat
  | 0 => 0
  | k + 1 => bm g k + (if g k = true then 2 ^ k else 0)
theorem bm_lt (g : Nat → Bool) : ∀ k, bm g k < 2 ^ k := by
  intro k
  induction k with
  | zero => show (0 : Nat) < 2 ^ 0; decide
  | succ k ih =>
    rw [bm, Nat.pow_succ]
    split <;> omega
theorem bm_bit (g : Nat → Bool) : ∀ k i, (bm g k).testBit i = (decide (i < k) && g i) := by
  intro k
  induction k with
  | zero => intro i; simp [bm]
  | succ k ih =>
    intro i
    have hlt := bm_lt g k
    rw [bm]
    by_cases hg : g k = true
    · rw [if_pos hg, Nat.add_comm]
      rcases Nat.lt_trichotomy i k with h | h | h
      · rw [Nat.testBit_two_pow_add_gt h, ih]
        simp [h, Nat.lt_succ_of_lt h]
      · subst h
        rw [Nat.testBit_two_pow_add_eq, Nat.testBit_lt_two_pow hlt]
        simp [hg]
      · rw [Nat.testBit_lt_two_pow (Nat.lt_of_lt_of_le (show 2 ^ k + bm g k < 2 ^ (k + 1) by rw [Nat.pow_succ]; omega) (Nat.pow_le_pow_right (by decide) h))]
        simp
        omega
    · rw [if_neg hg, Nat.add_zero, ih]
      by_cases h : i = k
      · subst h
        simp [hg]
      · have : (i < k) = (i < k + 1) := propext ⟨fun q => by omega, fun q => by omega⟩
        simp [this]
theorem bm_ext {a b : Nat} {k : Nat} (ha : a < 2 ^ k) (hb : b < 2 ^ k) (h : ∀ i, i < k → a.testBit i = b.testBit i) : a = b := by
  apply Nat.eq_of_testBit_eq
  intro i
  by_cases hi : i < k
  · exact h i hi
  · rw [Nat.testBit_lt_two_pow (Nat.lt_of_lt_of_le ha (Nat.pow_le_pow_right (by decide) (by omega))), Nat.testBit_lt_two_pow (Nat.lt_of_lt_of_le hb (Nat.pow_le_pow_right (by decide) (by omega)))]
theorem bm_eq {a : Nat} {g : Nat → Bool} {k : Nat} (ha : a < 2 ^ k) (h : ∀ i, i < k → a.testBit i = g i) : a = bm g k :=
  bm_ext ha (bm_lt g k) (fun i hi => by rw [h i hi, bm_bit]; simp [hi])
theorem bm_congr {g g' : Nat → Bool} {k : Nat} (h : ∀ i, i < k → g i = g' i) : bm g k = bm g' k :=
  bm_eq (bm_lt g k) (fun i hi => by rw [bm_bit]; simp [hi, h i hi])
theorem bm_zero {g : Nat → Bool} {k : Nat} : bm g k = 0 ↔ ∀ i, i < k → g i = false := by
  constructor
  · intro h i hi
    have := bm_bit g k i
    rw [h] at this
    simpa [hi] using this.symm
  · intro h
    exact (bm_eq (a := 0) (Nat.two_pow_pos k) (fun i hi => by rw [h i hi]; simp)).symm
/-! the triples that are seen, as bits of 128 numbers -/
def se_rep (sn : Nat → Bool) (f : Nat → Int32) : Prop := ∀ j, j < 128 → f j = nI (bm (fun o => sn (16 * j + o)) 16)
theorem se_put {sn : Nat → Bool} {f : Nat → Int32} {t : Nat} {b : Bool} (h : se_rep sn f) (ht : t < 2048) :
    ∃ f', f_Se_put f (nI t) (pu_b b) = some f' ∧ se_rep (fun u => if u = t then b else sn u) f' := by
  have hd : nI t / 16 = nI (t / 16) := pk_div (d := 16) (by omega) (by omega) (by decide)
  have hr : nI t - nI (t / 16) * 16 = nI (t % 16) := by
    rw [← hd]
    exact pk_rem (d := 16) (by omega) (by omega) (by decide)
  have hj : t / 16 < 128 := by omega
  have hin := pu_in hj (by decide)
  have hm := h (t / 16) hj
  have hlt := bm_lt (fun o => sn (16 * (t / 16) + o)) 16
  have hpw : 2 ^ (t % 16) < 2 ^ 16 := Nat.pow_lt_pow_right (by decide) (by omega)
  unfold f_Se_put
  rw [hd, hr, if_neg (nI_pos (by omega)), if_pos (show nI (t / 16) < Int32.ofNat 128 from nI_lt hj (by decide))]
  simp only [hin, if_true]
  rw [pu_cl (by omega), pb_pow (by omega), hm]
  cases b with
  | false =>
    rw [if_pos (by rfl)]
    refine ⟨_, rfl, fun j hjj => ?_⟩
    by_cases e : j = t / 16
    · subst e
      rw [pk_us, pb_not hlt]
      congr 1
      refine bm_eq (Nat.lt_of_le_of_lt Nat.and_le_left hlt) (fun i hi => ?_)
      rw [Nat.testBit_and, bm_bit, Nat.testBit_xor, show (65535 : Nat) = 2 ^ 16 - 1 from rfl, Nat.testBit_two_pow_sub_one, Nat.mod_eq_of_lt (by omega), Nat.testBit_two_pow]
      dsimp only
      by_cases ei : t % 16 = i
      · rw [if_pos (by omega)]; simp [hi, ei]
      · rw [if_neg (by omega)]; simp [hi, ei]
    · rw [pk_un e, h j hjj]
      congr 1
      refine bm_congr (fun i hi => ?_)
      dsimp only
      rw [if_neg (by omega)]
  | true =>
    rw [if_neg pu_b1]
    refine ⟨_, rfl, fun j hjj => ?_⟩
    by_cases e : j = t / 16
    · subst e
      rw [pk_us, pb_or]
      congr 1
      refine bm_eq (Nat.or_lt_two_pow hlt hpw) (fun i hi => ?_)
      rw [Nat.testBit_or, bm_bit, Nat.testBit_two_pow]
      dsimp only
      by_cases ei : t % 16 = i
      · rw [if_pos (by omega)]; simp [ei]
      · rw [if_neg (by omega)]; simp [hi, ei]
    · rw [pk_un e, h j hjj]
      congr 1
      refine bm_congr (fun i hi => ?_)
      dsimp only
      rw [if_neg (by omega)]
theorem se_objectsOf {sn : Nat → Bool} {f : Nat → Int32} {s p : Nat} (h : se_rep sn f) (hs : s < 16) (hp : p < 16) :
    f_Se_objectsOf f (nI s) (nI p) = some (nI (bm (fun o => decide (p < 8) && sn (128 * s + 16 * p + o)) 16)) := by
  unfold f_Se_objectsOf
  rw [if_neg (nI_pos (by omega)), if_neg (show ¬ 16 ≤ nI s from nI_ge (b := 16) hs (by decide)), if_neg (nI_pos (by omega))]
  by_cases hp8 : p < 8
  · have e : nI s * 8 + nI p = nI (s * 8 + p) := by
      rw [show (8 : Int32) = nI 8 from rfl, pk_mul, nI_add]
    rw [if_pos (show nI p < 8 from nI_lt (b := 8) hp8 (by decide)), e, if_pos (pu_in (by omega) (by decide)), pu_cl (by omega), h _ (by omega)]
    congr 2
    refine bm_congr (fun i hi => ?_)
    simp only [hp8, decide_true, Bool.true_and]
    congr 1
    omega
  · rw [if_neg (show ¬ nI p < 8 from nI_nlt (b := 8) (by omega) (by omega))]
    have : bm (fun o => decide (p < 8) && sn (128 * s + 16 * p + o)) 16 = 0 := bm_zero.mpr (fun i _ => by simp [hp8])
    rw [this]
    rfl
theorem se_fill_5 {N : Nat} : ∀ (k fuel i : Nat) (f : Nat → Int32), i + k = 128 → k < fuel → (∀ j, j < i → f j = 0) → ∃ f', f_Ja_fill_5 N 128 0 (Int32.ofNat 128) fuel f (nI i) = some f' ∧ ∀ j, j < 128 → f' j = 0 := by
  intro k
  induction k with
  | zero =>
    intro fuel i f hi hf h
    obtain ⟨fuel, rfl⟩ : ∃ m, fuel = m + 1 := ⟨fuel - 1, by omega⟩
    rw [f_Ja_fill_5.eq_2, if_pos (show Int32.ofNat 128 ≤ nI i from nI_le (a := 128) (by omega) (by omega))]
    exact ⟨f, rfl, fun j hj => h j (by omega)⟩
  | succ k ih =>
    intro fuel i f hi hf h
    obtain ⟨fuel, rfl⟩ : ∃ m, fuel = m + 1 := ⟨fuel - 1, by omega⟩
    rw [f_Ja_fill_5.eq_2, if_neg (show ¬ Int32.ofNat 128 ≤ nI i from nI_ge (b := 128) (by omega) (by decide)), if_pos (pu_in (by omega) (by decide)), pu_cl (by omega), nI_1]
    refine ih fuel (i + 1) _ (by omega) (by omega) (fun j hj => ?_)
    by_cases e : j = i
    · subst e; exact pk_us
    · rw [pk_un e]; exact h j (by omega)
theorem se_fill {N : Nat} (hN : 5000 ≤ N) (f : Nat → Int32) : ∃ f', f_Ja_fill N 128 f 0 = some f' ∧ se_rep (fun _ => false) f' := by
  obtain ⟨f', e, h⟩ := se_fill_5 (N := N) 128 N 0 f rfl (by omega) (fun j hj => by omega)
  refine ⟨f', e, fun j hj => ?_⟩
  rw [h j hj, bm_zero.mpr (fun _ _ => rfl)]
  rfl

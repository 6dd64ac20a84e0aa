/-! PURE ROWS 13: counting and finding in the words -/
theorem sw_pc {m : Nat} (h : m < 65536) : sw m = pc 8 (m / 256) + pc 8 (m % 256) := by
  have key : ∀ c, c < 16 → sw_t c = true := fun c hc => by
    rcases (show c = 0 ∨ c = 1 ∨ c = 2 ∨ c = 3 ∨ c = 4 ∨ c = 5 ∨ c = 6 ∨ c = 7 ∨ c = 8 ∨ c = 9 ∨ c = 10 ∨ c = 11 ∨ c = 12 ∨ c = 13 ∨ c = 14 ∨ c = 15 by omega) with q | q | q | q | q | q | q | q | q | q | q | q | q | q | q | q <;> subst q
    · exact sw_t0
    · exact sw_t1
    · exact sw_t2
    · exact sw_t3
    · exact sw_t4
    · exact sw_t5
    · exact sw_t6
    · exact sw_t7
    · exact sw_t8
    · exact sw_t9
    · exact sw_t10
    · exact sw_t11
    · exact sw_t12
    · exact sw_t13
    · exact sw_t14
    · exact sw_t15
  have h1 := key (m / 4096) (by omega)
  unfold sw_t at h1
  rw [List.all_eq_true] at h1
  have h2 := h1 (m / 256 % 16) (List.mem_range.mpr (by omega))
  rw [List.all_eq_true] at h2
  have h3 := h2 (m % 256) (List.mem_range.mpr (by omega))
  have h4 := Nat.eq_of_beq_eq_true h3
  rw [show 16 * (m / 4096) + m / 256 % 16 = m / 256 by omega, show 256 * (m / 256) + m % 256 = m by omega] at h4
  exact h4
theorem pc_bs : ∀ (n m : Nat), (bs m n).length = pc n m := by
  intro n
  induction n with
  | zero => intro m; rfl
  | succ n ih =>
    intro m
    rw [pc, ← ih (m / 2)]
    unfold bs
    rw [List.range_succ_eq_map, List.filter_cons, List.filter_map, Nat.testBit_zero]
    have e : (List.filter ((fun u => m.testBit u) ∘ Nat.succ) (List.range n)) = List.filter (fun u => (m / 2).testBit u) (List.range n) := by
      refine List.filter_congr (fun u _ => ?_)
      show m.testBit (u + 1) = _
      rw [Nat.testBit_succ]
    rw [e]
    rcases Nat.mod_two_eq_zero_or_one m with q | q <;> rw [q] <;> simp <;> omega
theorem pc_add : ∀ (a b m : Nat), pc (a + b) m = pc a m + pc b (m / 2 ^ a) := by
  intro a
  induction a with
  | zero => intro b m; simp [pc]
  | succ a ih =>
    intro b m
    rw [show a + 1 + b = (a + b) + 1 by omega, pc, pc, ih, Nat.pow_succ, Nat.mul_comm, ← Nat.div_div_eq_div_mul]
    omega
theorem pc_mod : ∀ (a m : Nat), pc a (m % 2 ^ a) = pc a m := by
  intro a
  induction a with
  | zero => intro m; rfl
  | succ a ih =>
    intro m
    rw [pc, pc, ← ih (m / 2), Nat.pow_succ]
    have e1 : m % (2 ^ a * 2) % 2 = m % 2 := Nat.mod_mod_of_dvd m (Nat.dvd_mul_left 2 (2 ^ a))
    have e2 : m % (2 ^ a * 2) / 2 = m / 2 % 2 ^ a := by rw [Nat.mul_comm, Nat.mod_mul_right_div_self]
    rw [e1, e2, ih]
theorem sw_bs {m : Nat} (h : m < 65536) : sw m = (bs m 16).length := by
  rw [sw_pc h, pc_bs, show (16 : Nat) = 8 + 8 from rfl, pc_add, ← pc_mod 8 m, show (2 : Nat) ^ 8 = 256 from rfl]
  omega
theorem ji_ush {m k : Nat} (hm : m < 2 ^ 32) (hk : k < 32) : (Int32.toUInt32 (nI m) >>> (Int32.toUInt32 (nI k) &&& Int32.toUInt32 31)).toInt32 = nI (m / 2 ^ k) :=
  pk_ushrN hm (nI k) k ((by decide +kernel : ∀ n, n < 32 → (((nI n).toUInt32 &&& Int32.toUInt32 31).toBitVec % 32).toNat = n) k hk)
theorem ji_bitCount {m : Nat} (h : m < 65536) : f_Ji_bitCount (nI m) = some (nI (bs m 16).length) := by
  unfold f_Ji_bitCount
  have u1 : (Int32.toUInt32 (nI m) >>> (Int32.toUInt32 1 &&& Int32.toUInt32 31)).toInt32 = nI (m / 2) := ji_ush (k := 1) (by omega) (by decide)
  have a1 : nI (m / 2) &&& 1431655765 = nI (m / 2 &&& 1431655765) := pb_and _ 1431655765
  have l1 : m / 2 &&& 1431655765 ≤ m / 2 := Nat.and_le_left
  have s1 : nI m - nI (m / 2 &&& 1431655765) = nI (sw_a m) := pk_sub (by omega)
  rw [u1, a1, s1]
  have b1 : sw_a m < 65536 := by unfold sw_a; omega
  generalize hA : sw_a m = A at b1 ⊢
  have u2 : (Int32.toUInt32 (nI A) >>> (Int32.toUInt32 2 &&& Int32.toUInt32 31)).toInt32 = nI (A / 4) := ji_ush (k := 2) (by omega) (by decide)
  have a2 : nI A &&& 858993459 = nI (A &&& 858993459) := pb_and _ 858993459
  have a3 : nI (A / 4) &&& 858993459 = nI (A / 4 &&& 858993459) := pb_and _ 858993459
  have l2 : A &&& 858993459 ≤ A := Nat.and_le_left
  have l3 : A / 4 &&& 858993459 ≤ A / 4 := Nat.and_le_left
  have s2 : nI (A &&& 858993459) + nI (A / 4 &&& 858993459) = nI (sw_b A) := nI_add _ _
  rw [u2, a2, a3, s2]
  have b2 : sw_b A < 2 * 65536 := by unfold sw_b; omega
  generalize hB : sw_b A = B at b2 ⊢
  have u3 : (Int32.toUInt32 (nI B) >>> (Int32.toUInt32 4 &&& Int32.toUInt32 31)).toInt32 = nI (B / 16) := ji_ush (k := 4) (by omega) (by decide)
  have s3 : nI B + nI (B / 16) = nI (B + B / 16) := nI_add _ _
  have a4 : nI (B + B / 16) &&& 252645135 = nI (sw_c B) := pb_and _ 252645135
  rw [u3, s3, a4]
  have b3 : sw_c B < 4 * 65536 := Nat.lt_of_le_of_lt Nat.and_le_left (by omega)
  generalize hC : sw_c B = C at b3 ⊢
  have u4 : (Int32.toUInt32 (nI C) >>> (Int32.toUInt32 8 &&& Int32.toUInt32 31)).toInt32 = nI (C / 256) := ji_ush (k := 8) (by omega) (by decide)
  have s4 : nI C + nI (C / 256) = nI (sw_d C) := nI_add _ _
  rw [u4, s4]
  have b4 : sw_d C < 8 * 65536 := by unfold sw_d; omega
  generalize hD : sw_d C = E at b4 ⊢
  have u5 : (Int32.toUInt32 (nI E) >>> (Int32.toUInt32 16 &&& Int32.toUInt32 31)).toInt32 = nI (E / 65536) := ji_ush (k := 16) (by omega) (by decide)
  have s5 : nI E + nI (E / 65536) = nI (E + E / 65536) := nI_add _ _
  have a5 : nI (E + E / 65536) &&& 63 = nI (sw_e E) := pb_and _ 63
  rw [u5, s5, a5]
  congr 2
  rw [← sw_bs h]
  unfold sw
  rw [hA, hB, hC, hD]
/-! the keys of a set of rows -/
def ks (n : Nat) (B : Nat → Bool) : List Nat := (List.range n).filter B
def kw (w : Nat) : List Nat := (bs (w % 65536) 16).map (fun u => w / 65536 * 16 + u)
theorem ks_wd_n (B : Nat → Bool) : ∀ n, ks (n * 16) B = ((List.range n).flatMap (w1 B)).flatMap kw := by
  intro n
  induction n with
  | zero => simp [ks]
  | succ n ih =>
    unfold ks at *
    rw [Nat.succ_mul, List.range_add, List.filter_append, ih, List.range_succ (n := n), List.flatMap_append, List.flatMap_append]
    congr 1
    rw [List.filter_map]
    simp only [List.flatMap_cons, List.flatMap_nil, List.append_nil]
    have hlt := bm_lt (fun u => B (16 * n + u)) 16
    have hbits : List.filter (B ∘ fun x => n * 16 + x) (List.range 16) = bs (bm (fun u => B (16 * n + u)) 16) 16 := by
      unfold bs
      refine List.filter_congr (fun u hu => ?_)
      rw [List.mem_range] at hu
      rw [bm_bit]
      simp [hu, Nat.mul_comm]
    rw [hbits]
    unfold w1
    by_cases hz : bm (fun u => B (16 * n + u)) 16 = 0
    · rw [if_pos hz, hz]
      simp [bs]
    · rw [if_neg hz]
      simp only [List.flatMap_cons, List.flatMap_nil, List.append_nil, kw]
      rw [show (n * 65536 + bm (fun u => B (16 * n + u)) 16) % 65536 = bm (fun u => B (16 * n + u)) 16 by omega, show (n * 65536 + bm (fun u => B (16 * n + u)) 16) / 65536 = n by omega]
theorem ks_wd (B : Nat → Bool) : ks 65536 B = (wd B).flatMap kw := ks_wd_n B 4096
theorem wd_lt {B : Nat → Bool} {w : Nat} (h : w ∈ wd B) : w < 4096 * 65536 := by
  unfold wd at h
  rw [List.mem_flatMap] at h
  obtain ⟨g, hg, hw⟩ := h
  rw [List.mem_range] at hg
  have hlt := bm_lt (fun u => B (16 * g + u)) 16
  unfold w1 at hw
  split at hw
  · cases hw
  · rw [List.mem_singleton] at hw
    omega
theorem rs_count_4 {ws : List Nat} {S : Int32} {f : Nat → Int32} {N M : Nat} (hr : fd_rep ws S f) (hl : ws.length ≤ M) (hM : M ≤ 4096) (hw : ∀ w ∈ ws, w < 4096 * 65536) :
    ∀ (k fuel i a : Nat), i + k = ws.length → k < fuel → a = ((ws.take i).flatMap kw).length → f_Rs_count_4 N S M f fuel (nI a) (nI i) = some (nI (ws.flatMap kw).length) := by
  intro k
  induction k with
  | zero =>
    intro fuel i a hi hf ha
    obtain ⟨fuel, rfl⟩ : ∃ m, fuel = m + 1 := ⟨fuel - 1, by omega⟩
    rw [f_Rs_count_4.eq_2, if_pos (by rw [hr.1]; exact nI_le (by omega) (by omega)), ha, show i = ws.length by omega, List.take_length]
  | succ k ih =>
    intro fuel i a hi hf ha
    obtain ⟨fuel, rfl⟩ : ∃ m, fuel = m + 1 := ⟨fuel - 1, by omega⟩
    have hil : i < ws.length := by omega
    have hx : ws[i]? = some ws[i] := List.getElem?_eq_getElem hil
    rw [f_Rs_count_4.eq_2, if_neg (by rw [hr.1]; exact nI_ge hil (by omega)), if_pos (pu_in (by omega) (by omega)), pu_cl (by omega), hr.2 i _ hx, pb_mask, ji_bitCount (Nat.mod_lt _ (by decide)), fn_s1, nI_add, nI_1]
    refine ih fuel (i + 1) _ (by omega) (by omega) ?_
    rw [List.take_succ, hx, List.flatMap_append, List.length_append, ha]
    simp [kw]
theorem rs_count {B : Nat → Bool} {S : Int32} {f : Nat → Int32} {N : Nat} (hN : 5000 ≤ N) (hr : fd_rep (wd B) S f) : f_Rs_count N S 4096 f = some (nI (ks 65536 B).length) := by
  have := wd_len B
  rw [ks_wd]
  exact rs_count_4 hr this (Nat.le_refl _) (fun w hw => wd_lt hw) (wd B).length N 0 0 (by omega) (by omega) (by simp)

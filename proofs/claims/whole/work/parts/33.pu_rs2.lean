/-! PURE ROWS 14: the key at a place; are two sets the same; one set without another -/
theorem rs_bitAt_4 {N w : Nat} (hw : w < 2 ^ 31) : ∀ (n fuel y a : Nat), y + n = 16 → n < fuel → a < 2 ^ 31 → f_Rs_bitAt_4 N (nI w) fuel (nI a) (nI y) = some (nI ((((List.range' y n).filter (fun u => w.testBit u))[a]?).getD 0)) := by
  intro n
  induction n with
  | zero =>
    intro fuel y a hy hf ha
    obtain ⟨fuel, rfl⟩ : ∃ m, fuel = m + 1 := ⟨fuel - 1, by omega⟩
    rw [f_Rs_bitAt_4.eq_2, if_pos (show 16 ≤ nI y from nI_le (a := 16) (by omega) (by omega))]
    rfl
  | succ n ih =>
    intro fuel y a hy hf ha
    obtain ⟨fuel, rfl⟩ : ∃ m, fuel = m + 1 := ⟨fuel - 1, by omega⟩
    rw [f_Rs_bitAt_4.eq_2, if_neg (show ¬ 16 ≤ nI y from nI_ge (b := 16) (by omega) (by decide)), List.range'_succ, List.filter_cons]
    have eb := pb_bit0 (m := w) (k := y) hw (by omega)
    cases hb : w.testBit y with
    | false =>
      rw [if_pos (eb.mpr hb), nI_1, ih fuel (y + 1) a (by omega) (by omega) ha]
      simp
    | true =>
      rw [if_neg (fun q => by have := eb.mp q; rw [hb] at this; cases this)]
      cases a with
      | zero =>
        rw [if_pos (show nI 0 = 0 from rfl)]
        simp
      | succ a =>
        rw [if_neg (nI_ne0 (by omega) ha), pu_m1, nI_1, ih fuel (y + 1) a (by omega) (by omega) (by omega)]
        simp
theorem bs_mod (w : Nat) : bs (w % 65536) 16 = (List.range' 0 16).filter (fun u => w.testBit u) := by
  unfold bs
  rw [List.range_eq_range']
  refine List.filter_congr (fun u hu => ?_)
  rw [List.mem_range'_1] at hu
  rw [show (65536 : Nat) = 2 ^ 16 from rfl, Nat.testBit_mod_two_pow]
  simp [show u < 16 by omega]
theorem rs_bitAt {N w a : Nat} (hN : 5000 ≤ N) (hw : w < 2 ^ 31) (ha : a < 2 ^ 31) : f_Rs_bitAt N (nI w) (nI a) = some (nI (((bs (w % 65536) 16)[a]?).getD 0)) := by
  rw [bs_mod]
  exact rs_bitAt_4 hw 16 N 0 a (by omega) (by omega) ha
def rs_ans (o : Option Nat) : Int32 := match o with
  | none => -2
  | some k => nI k
theorem rs_keyAt_4 {ws : List Nat} {S : Int32} {f : Nat → Int32} {N M : Nat} (hN : 5000 ≤ N) (hr : fd_rep ws S f) (hl : ws.length ≤ M) (hM : M ≤ 4096) (hw : ∀ w ∈ ws, w < 4096 * 65536) :
    ∀ (k fuel i a : Nat), i + k = ws.length → k < fuel → a < 2 ^ 31 → f_Rs_keyAt_4 N S M f fuel (nI a) (nI i) = some (rs_ans (((ws.drop i).flatMap kw)[a]?)) := by
  intro k
  induction k with
  | zero =>
    intro fuel i a hi hf ha
    obtain ⟨fuel, rfl⟩ : ∃ m, fuel = m + 1 := ⟨fuel - 1, by omega⟩
    rw [f_Rs_keyAt_4.eq_2, if_pos (by rw [hr.1]; exact nI_le (by omega) (by omega)), List.drop_eq_nil_of_le (by omega)]
    rfl
  | succ k ih =>
    intro fuel i a hi hf ha
    obtain ⟨fuel, rfl⟩ : ∃ m, fuel = m + 1 := ⟨fuel - 1, by omega⟩
    have hil : i < ws.length := by omega
    have hx : ws[i]? = some ws[i] := List.getElem?_eq_getElem hil
    have hwl := hw ws[i] (List.getElem_mem _)
    have hkl : (kw ws[i]).length = (bs (ws[i] % 65536) 16).length := by simp [kw]
    have hb16 : (bs (ws[i] % 65536) 16).length ≤ 16 := by
      unfold bs
      exact Nat.le_trans (List.length_filter_le _ _) (by simp)
    rw [f_Rs_keyAt_4.eq_2, if_neg (by rw [hr.1]; exact nI_ge hil (by omega)), if_neg (nI_pos ha), if_pos (pu_in (by omega) (by omega)), pu_cl (by omega), hr.2 i _ hx, pb_mask, ji_bitCount (Nat.mod_lt _ (by decide)), fn_s1, List.drop_eq_getElem_cons hil, List.flatMap_cons]
    by_cases hle : (bs (ws[i] % 65536) 16).length ≤ a
    · rw [if_pos (nI_le hle ha), pk_sub hle, nI_1, ih fuel (i + 1) _ (by omega) (by omega) (by omega), List.getElem?_append_right (by omega), hkl]
    · rw [if_neg (nI_ge (by omega) (by omega)), List.getElem?_append_left (by omega)]
      unfold f_Rs_keyAt_36
      have hin := pu_in (show i < M by omega) (by omega)
      have esh : nI ws[i] >>> ((16 : Int32) &&& 31) = nI (ws[i] / 65536) := pb_shr (k := 16) (by omega) (by decide)
      have emul : nI (ws[i] / 65536) * 16 = nI (ws[i] / 65536 * 16) := pk_mul _ 16
      rw [if_pos hin, if_pos hin, pu_cl (by omega), hr.2 i _ hx, rs_bitAt hN (by omega) ha, fn_s1, esh, emul, nI_add]
      unfold kw
      rw [List.getElem?_map, List.getElem?_eq_getElem (by omega)]
      rfl
theorem rs_keyAt {B : Nat → Bool} {S : Int32} {f : Nat → Int32} {N : Nat} (hN : 5000 ≤ N) (hr : fd_rep (wd B) S f) (v : Int32) :
    f_Rs_keyAt N S 4096 f v = some (if v < 0 then -2 else rs_ans ((ks 65536 B)[v.toNatClampNeg]?)) := by
  have hl := wd_len B
  by_cases hv : v < 0
  · rw [if_pos hv]
    unfold f_Rs_keyAt
    obtain ⟨m, rfl⟩ : ∃ m, N = m + 1 := ⟨N - 1, by omega⟩
    rw [f_Rs_keyAt_4.eq_2]
    by_cases h : S ≤ 0
    · rw [if_pos h]
    · rw [if_neg h, if_pos hv]
  · rw [if_neg hv]
    obtain ⟨j, hj, rfl⟩ := nI_of hv
    rw [nI_clamp hj, ks_wd]
    have := rs_keyAt_4 (N := N) hN hr hl (Nat.le_refl _) (fun w hw => wd_lt hw) (wd B).length N 0 j (by omega) (by omega) hj
    rw [List.drop_zero] at this
    exact this
theorem rs_same_15 {ws zs : List Nat} {S T : Int32} {f g : Nat → Int32} {N M M' : Nat} (hr : fd_rep ws S f) (hz : fd_rep zs T g) (hlen : ws.length = zs.length) (hl : ws.length ≤ M) (hl2 : zs.length ≤ M') (hM : M ≤ 4096) (hM' : M' ≤ 4096) (hw : ∀ w ∈ ws, w < 4096 * 65536) (hw2 : ∀ w ∈ zs, w < 4096 * 65536) :
    ∀ (k fuel i : Nat), i + k = ws.length → k < fuel → (∀ j, j < i → ws[j]? = zs[j]?) → f_Rs_isSameAs_15 N S M f T M' g fuel (nI i) = some (pu_b (decide (ws = zs))) := by
  intro k
  induction k with
  | zero =>
    intro fuel i hi hf h
    obtain ⟨fuel, rfl⟩ : ∃ m, fuel = m + 1 := ⟨fuel - 1, by omega⟩
    rw [f_Rs_isSameAs_15.eq_2, if_pos (by rw [hr.1]; exact nI_le (by omega) (by omega))]
    have : ws = zs := List.ext_getElem? (fun j => by
      by_cases hj : j < i
      · exact h j hj
      · rw [List.getElem?_eq_none (by omega), List.getElem?_eq_none (by omega)])
    simp [this, pu_b]
  | succ k ih =>
    intro fuel i hi hf h
    obtain ⟨fuel, rfl⟩ : ∃ m, fuel = m + 1 := ⟨fuel - 1, by omega⟩
    have hil : i < ws.length := by omega
    have hx : ws[i]? = some ws[i] := List.getElem?_eq_getElem hil
    have hy : zs[i]? = some zs[i] := List.getElem?_eq_getElem (by omega)
    have b1 := hw ws[i] (List.getElem_mem _)
    have b2 := hw2 zs[i] (List.getElem_mem _)
    rw [f_Rs_isSameAs_15.eq_2, if_neg (by rw [hr.1]; exact nI_ge hil (by omega)), if_pos (pu_in (by omega) (by omega)), if_pos (pu_in (by omega) (by omega)), pu_cl (by omega), hr.2 i _ hx, hz.2 i _ hy]
    by_cases e : ws[i] = zs[i]
    · rw [if_pos (by rw [e]), nI_1]
      refine ih fuel (i + 1) (by omega) (by omega) (fun j hj => ?_)
      by_cases ej : j = i
      · subst ej; rw [hx, hy, e]
      · exact h j (by omega)
    · rw [if_neg (fun q => e ((nI_eq (by omega) (by omega)).mp q))]
      have : ¬ ws = zs := fun q => e (by subst q; rfl)
      simp [this, pu_b]
theorem rs_same {ws zs : List Nat} {S T : Int32} {f g : Nat → Int32} {N M M' : Nat} (hN : 5000 ≤ N) (hr : fd_rep ws S f) (hz : fd_rep zs T g) (hl : ws.length ≤ M) (hl2 : zs.length ≤ M') (hM : M ≤ 4096) (hM' : M' ≤ 4096) (hw : ∀ w ∈ ws, w < 4096 * 65536) (hw2 : ∀ w ∈ zs, w < 4096 * 65536) :
    f_Rs_isSameAs N S M f T M' g = some (pu_b (decide (ws = zs))) := by
  unfold f_Rs_isSameAs
  by_cases e : ws.length = zs.length
  · rw [if_pos (by rw [hr.1, hz.1, e])]
    exact rs_same_15 hr hz e hl hl2 hM hM' hw hw2 ws.length N 0 (by omega) (by omega) (fun j hj => by omega)
  · rw [if_neg (fun q => e ((nI_eq (by omega) (by omega)).mp (by rw [← hr.1, ← hz.1]; exact q)))]
    have : ¬ ws = zs := fun q => e (by rw [q])
    simp [this, pu_b]
theorem wd_mem {B : Nat → Bool} {w : Nat} : w ∈ wd B ↔ ∃ g, g < 4096 ∧ ¬ bm (fun u => B (16 * g + u)) 16 = 0 ∧ w = g * 65536 + bm (fun u => B (16 * g + u)) 16 := by
  unfold wd
  rw [List.mem_flatMap]
  constructor
  · rintro ⟨g, hg, hw⟩
    rw [List.mem_range] at hg
    unfold w1 at hw
    split at hw
    · cases hw
    · rename_i hz
      rw [List.mem_singleton] at hw
      exact ⟨g, hg, hz, hw⟩
  · rintro ⟨g, hg, hz, hw⟩
    refine ⟨g, List.mem_range.mpr hg, ?_⟩
    unfold w1
    rw [if_neg hz]
    exact List.mem_singleton.mpr hw
theorem wd_inj {A B : Nat → Bool} : wd A = wd B ↔ ∀ k, k < 65536 → A k = B k := by
  constructor
  · intro h
    have key : ∀ g, g < 4096 → bm (fun u => A (16 * g + u)) 16 = bm (fun u => B (16 * g + u)) 16 := by
      intro g hg
      have la := bm_lt (fun u => A (16 * g + u)) 16
      have lb := bm_lt (fun u => B (16 * g + u)) 16
      by_cases ha : bm (fun u => A (16 * g + u)) 16 = 0
      · by_cases hb : bm (fun u => B (16 * g + u)) 16 = 0
        · rw [ha, hb]
        · have hm : g * 65536 + bm (fun u => B (16 * g + u)) 16 ∈ wd B := wd_mem.mpr ⟨g, hg, hb, rfl⟩
          rw [← h] at hm
          obtain ⟨g', hg', hz', e⟩ := wd_mem.mp hm
          have lg := bm_lt (fun u => A (16 * g' + u)) 16
          have eg : g = g' := by omega
          subst eg
          exact absurd ha hz'
      · have hm : g * 65536 + bm (fun u => A (16 * g + u)) 16 ∈ wd A := wd_mem.mpr ⟨g, hg, ha, rfl⟩
        rw [h] at hm
        obtain ⟨g', hg', hz', e⟩ := wd_mem.mp hm
        have lg := bm_lt (fun u => B (16 * g' + u)) 16
        have eg : g = g' := by omega
        subst eg
        omega
    intro k hk
    have := key (k / 16) (by omega)
    have h1 := bm_bit (fun u => A (16 * (k / 16) + u)) 16 (k % 16)
    have h2 := bm_bit (fun u => B (16 * (k / 16) + u)) 16 (k % 16)
    rw [this] at h1
    rw [h1] at h2
    have hm : k % 16 < 16 := Nat.mod_lt _ (by decide)
    simp only [hm, decide_true, Bool.true_and] at h2
    rw [show 16 * (k / 16) + k % 16 = k by omega] at h2
    exact h2
  · exact fun h => wd_congr h

/-! PURE ROWS 15: one set without another -/
/-- what is left of a word -/
def rm_w (zl : Nat → Nat) (w : Nat) : List Nat := if w % 65536 &&& (65535 ^^^ zl (w / 65536)) = 0 then [] else [w / 65536 * 65536 + (w % 65536 &&& (65535 ^^^ zl (w / 65536)))]
/-- zl tells the low part of the word of zs with that high part, 0 where there is none -/
def rm_zl (zs : List Nat) (zl : Nat → Nat) : Prop := (∀ z ∈ zs, zl (z / 65536) = z % 65536) ∧ ∀ g, (∀ z ∈ zs, ¬ z / 65536 = g) → zl g = 0
def rm_srt (zs : List Nat) : Prop := ∀ (i j : Nat) (x y : Nat), zs[i]? = some x → zs[j]? = some y → i < j → x / 65536 < y / 65536
theorem rm_25 {zs : List Nat} {T : Int32} {g : Nat → Int32} {N M M' w : Nat} {S v2 v4 : Int32} {f : Nat → Int32} {r : Int32 → (Nat → Int32) → Int32 → Int32 → Int32 → Option (Int32 × (Nat → Int32))} (hz : fd_rep zs T g) (hl2 : zs.length ≤ M') (hM' : M' ≤ 4096) (hw2 : ∀ w ∈ zs, w < 4096 * 65536) (hww : w < 4096 * 65536) :
    ∀ (k fuel p : Nat), p + k = zs.length → k < fuel → (∀ j z, zs[j]? = some z → j < p → z / 65536 < w / 65536) →
    ∃ p', p' ≤ zs.length ∧ (∀ j z, zs[j]? = some z → j < p' → z / 65536 < w / 65536) ∧ (∀ z, zs[p']? = some z → w / 65536 ≤ z / 65536) ∧
      f_Rs_removeAll_25 N M T M' g r v2 v4 (nI w) fuel S f (nI p) = f_Rs_removeAll_56 N M T M' g r S f v2 (nI p') v4 (nI w) := by
  intro k
  induction k with
  | zero =>
    intro fuel p hp hf h
    obtain ⟨fuel, rfl⟩ : ∃ m, fuel = m + 1 := ⟨fuel - 1, by omega⟩
    rw [f_Rs_removeAll_25.eq_2, if_pos (by rw [hz.1]; exact nI_le (by omega) (by omega))]
    exact ⟨p, by omega, h, (fun z hzz => by rw [List.getElem?_eq_none (by omega)] at hzz; cases hzz), rfl⟩
  | succ k ih =>
    intro fuel p hp hf h
    obtain ⟨fuel, rfl⟩ : ∃ m, fuel = m + 1 := ⟨fuel - 1, by omega⟩
    have hpl : p < zs.length := by omega
    have hx : zs[p]? = some zs[p] := List.getElem?_eq_getElem hpl
    have b2 := hw2 zs[p] (List.getElem_mem _)
    have e1 : nI w >>> ((16 : Int32) &&& 31) = nI (w / 65536) := pb_shr (k := 16) (by omega) (by decide)
    have e2 : nI zs[p] >>> ((16 : Int32) &&& 31) = nI (zs[p] / 65536) := pb_shr (k := 16) (by omega) (by decide)
    rw [f_Rs_removeAll_25.eq_2, if_neg (by rw [hz.1]; exact nI_ge hpl (by omega)), if_pos (pu_in (by omega) (by omega)), pu_cl (by omega), hz.2 p _ hx, e1, e2]
    by_cases hle : w / 65536 ≤ zs[p] / 65536
    · rw [if_pos (nI_le hle (by omega))]
      exact ⟨p, by omega, h, (fun z hzz => by rw [hx] at hzz; cases hzz; exact hle), rfl⟩
    · rw [if_neg (nI_ge (by omega) (by omega)), nI_1]
      exact ih fuel (p + 1) (by omega) (by omega) (fun j z hj hjp => by
        by_cases ej : j = p
        · subst ej; rw [hx] at hj; cases hj; omega
        · exact h j z hj (by omega))
theorem rm_56 {zs : List Nat} {T : Int32} {g : Nat → Int32} {N M M' w p : Nat} {S v2 v4 : Int32} {f : Nat → Int32} {r : Int32 → (Nat → Int32) → Int32 → Int32 → Int32 → Option (Int32 × (Nat → Int32))} {zl : Nat → Nat} (hz : fd_rep zs T g) (hl2 : zs.length ≤ M') (hM' : M' ≤ 4096) (hw2 : ∀ w ∈ zs, w < 4096 * 65536) (hww : w < 4096 * 65536) (hzl : rm_zl zs zl) (hzs : rm_srt zs)
    (hp : p ≤ zs.length) (h1 : ∀ j z, zs[j]? = some z → j < p → z / 65536 < w / 65536) (h2 : ∀ z, zs[p]? = some z → w / 65536 ≤ z / 65536) :
    f_Rs_removeAll_56 N M T M' g r S f v2 (nI p) v4 (nI w) = f_Rs_removeAll_97 N M T M' g r S f v2 (nI p) v4 (nI (w / 65536 * 65536 + (w % 65536 &&& (65535 ^^^ zl (w / 65536))))) := by
  have hsame : zl (w / 65536) = 0 → w / 65536 * 65536 + (w % 65536 &&& (65535 ^^^ zl (w / 65536))) = w := fun e => by
    have : w % 65536 &&& 65535 = w % 65536 := by
      rw [show (65535 : Nat) = 2 ^ 16 - 1 from rfl, Nat.and_two_pow_sub_one_eq_mod]
      omega
    rw [e, Nat.xor_zero, this]
    omega
  unfold f_Rs_removeAll_56
  by_cases hpl : p < zs.length
  · have hx : zs[p]? = some zs[p] := List.getElem?_eq_getElem hpl
    have b2 := hw2 zs[p] (List.getElem_mem _)
    have e1 : nI w >>> ((16 : Int32) &&& 31) = nI (w / 65536) := pb_shr (k := 16) (by omega) (by decide)
    have e2 : nI zs[p] >>> ((16 : Int32) &&& 31) = nI (zs[p] / 65536) := pb_shr (k := 16) (by omega) (by decide)
    have hin := pu_in (show p < M' by omega) (by omega)
    rw [if_neg (by rw [hz.1]; exact nI_ge hpl (by omega)), if_pos hin, pu_cl (by omega), hz.2 p _ hx, e1, e2]
    by_cases eq : zs[p] / 65536 = w / 65536
    · rw [if_pos (by rw [eq]), if_pos hin, pb_mask]
      have ez : zl (w / 65536) = zs[p] % 65536 := by rw [← eq]; exact hzl.1 _ (List.getElem_mem _)
      rw [ez]
      congr 1
      -- the low part alone changes
      have lo : nI w &&& (nI (zs[p] % 65536) ^^^ (-1)) = nI (w / 65536 * 65536 + (w % 65536 &&& (65535 ^^^ zs[p] % 65536))) := by
        have hsplit : nI w = nI (w / 65536 * 65536) ||| nI (w % 65536) := by
          rw [pb_or]
          congr 1
          have := Nat.two_pow_add_eq_or_of_lt (i := 16) (show w % 65536 < 2 ^ 16 from Nat.mod_lt _ (by decide)) (w / 65536)
          rw [Nat.mul_comm] at this
          rw [← this]
          omega
        apply Int32.toBitVec_inj.1
        show (nI w).toBitVec &&& ((nI (zs[p] % 65536)).toBitVec ^^^ (-1 : Int32).toBitVec) = (nI _).toBitVec
        rw [show (-1 : Int32).toBitVec = BitVec.allOnes 32 by decide]
        show BitVec.ofNat 32 w &&& (BitVec.ofNat 32 (zs[p] % 65536) ^^^ BitVec.allOnes 32) = BitVec.ofNat 32 (w / 65536 * 65536 + (w % 65536 &&& (65535 ^^^ zs[p] % 65536)))
        apply BitVec.eq_of_getLsbD_eq
        intro i hi
        have hlow : w % 65536 &&& (65535 ^^^ zs[p] % 65536) < 2 ^ 16 := Nat.lt_of_le_of_lt Nat.and_le_left (Nat.mod_lt _ (by decide))
        have hsum : w / 65536 * 65536 + (w % 65536 &&& (65535 ^^^ zs[p] % 65536)) = 2 ^ 16 * (w / 65536) ||| (w % 65536 &&& (65535 ^^^ zs[p] % 65536)) := by
          rw [← Nat.two_pow_add_eq_or_of_lt hlow, Nat.mul_comm]
        have hws : w.testBit i = (2 ^ 16 * (w / 65536) ||| w % 65536).testBit i := by
          rw [← Nat.two_pow_add_eq_or_of_lt (show w % 65536 < 2 ^ 16 from Nat.mod_lt _ (by decide))]
          congr 1
          omega
        rw [BitVec.getLsbD_and, BitVec.getLsbD_xor, BitVec.getLsbD_ofNat, BitVec.getLsbD_ofNat, BitVec.getLsbD_allOnes, BitVec.getLsbD_ofNat, hsum, hws, Nat.testBit_or, Nat.testBit_or, Nat.testBit_and, Nat.testBit_xor]
        have t1 : Nat.testBit 65535 i = decide (i < 16) := by rw [show (65535 : Nat) = 2 ^ 16 - 1 from rfl, Nat.testBit_two_pow_sub_one]
        have t2 : (2 ^ 16 * (w / 65536)).testBit i = (decide (16 ≤ i) && (w / 65536).testBit (i - 16)) := by rw [Nat.testBit_two_pow_mul]
        have t3 : (w % 65536).testBit i = (decide (i < 16) && w.testBit i) := by rw [show (65536 : Nat) = 2 ^ 16 from rfl, Nat.testBit_mod_two_pow]
        have t4 : (zs[p] % 65536).testBit i = (decide (i < 16) && zs[p].testBit i) := by rw [show (65536 : Nat) = 2 ^ 16 from rfl, Nat.testBit_mod_two_pow]
        rw [t1, t2, t3, t4]
        simp only [hi, decide_true, Bool.true_and]
        by_cases h16 : i < 16
        · simp only [h16, decide_true, Bool.true_and, show ¬ 16 ≤ i by omega, decide_false, Bool.false_and, Bool.false_or]
          cases w.testBit i <;> cases zs[p].testBit i <;> rfl
        · simp only [h16, decide_false, Bool.false_and, Bool.or_false, Bool.false_xor, Bool.and_true]
      exact lo
    · rw [if_neg (fun q => eq ((nI_eq (by omega) (by omega)).mp q))]
      rw [hsame (hzl.2 _ (fun z hzm e => by
        obtain ⟨j, hj⟩ := List.getElem?_of_mem hzm
        rcases Nat.lt_trichotomy j p with q | q | q
        · have := h1 j z hj q; omega
        · subst q; rw [hx] at hj; cases hj; exact eq e
        · have := hzs p j _ z hx hj q
          have := h2 _ hx
          omega))]
  · rw [if_pos (by rw [hz.1]; exact nI_le (by omega) (by omega))]
    rw [hsame (hzl.2 _ (fun z hzm e => by
      obtain ⟨j, hj⟩ := List.getElem?_of_mem hzm
      have := (List.getElem?_eq_some_iff.mp hj).1
      have := h1 j z hj (by omega)
      omega))]
/-- what is below i has been worked on; c places hold what was kept -/
def rm_st (ws : List Nat) (zl : Nat → Nat) (i : Nat) (f : Nat → Int32) : Prop := (∀ j w, (((ws.take i).flatMap (rm_w zl)))[j]? = some w → f j = nI w) ∧ ∀ j w, ws[j]? = some w → i ≤ j → f j = nI w
theorem rm_len {ws : List Nat} {zl : Nat → Nat} {i : Nat} : ((ws.take i).flatMap (rm_w zl)).length ≤ i := by
  have : ∀ l : List Nat, (l.flatMap (rm_w zl)).length ≤ l.length := by
    intro l
    induction l with
    | nil => simp
    | cons a l ih =>
      rw [List.flatMap_cons, List.length_append, List.length_cons]
      have : (rm_w zl a).length ≤ 1 := by unfold rm_w; split <;> simp
      omega
  exact Nat.le_trans (this _) (by rw [List.length_take]; omega)
theorem rm_7 {ws zs : List Nat} {S T : Int32} {g : Nat → Int32} {N M M' : Nat} {zl : Nat → Nat} (hN : 5000 ≤ N) (hS : S = nI ws.length) (hz : fd_rep zs T g) (hl : ws.length ≤ M) (hM : M ≤ 4096) (hl2 : zs.length ≤ M') (hM' : M' ≤ 4096) (hw : ∀ w ∈ ws, w < 4096 * 65536) (hw2 : ∀ w ∈ zs, w < 4096 * 65536) (hws : rm_srt ws) (hzl : rm_zl zs zl) (hzs : rm_srt zs) :
    ∀ (k fuel i p : Nat) (f : Nat → Int32), i + k = ws.length → k < fuel → p ≤ zs.length → rm_st ws zl i f → (∀ w, ws[i]? = some w → ∀ j z, zs[j]? = some z → j < p → z / 65536 < w / 65536) →
    ∃ S' f', f_Rs_removeAll_7 N M T M' g fuel S f (nI ((ws.take i).flatMap (rm_w zl)).length) (nI p) (nI i) = some (S', f') ∧ fd_rep (ws.flatMap (rm_w zl)) S' f' := by
  intro k
  induction k with
  | zero =>
    intro fuel i p f hi hf hp hst hlow
    obtain ⟨fuel, rfl⟩ : ∃ m, fuel = m + 1 := ⟨fuel - 1, by omega⟩
    rw [f_Rs_removeAll_7.eq_2, if_pos (by rw [hS]; exact nI_le (by omega) (by omega))]
    rw [show i = ws.length by omega, List.take_length]
    have h1 := hst.1
    rw [show i = ws.length by omega, List.take_length] at h1
    exact ⟨_, f, rfl, rfl, h1⟩
  | succ k ih =>
    intro fuel i p f hi hf hp hst hlow
    obtain ⟨fuel, rfl⟩ : ∃ m, fuel = m + 1 := ⟨fuel - 1, by omega⟩
    have hil : i < ws.length := by omega
    have hx : ws[i]? = some ws[i] := List.getElem?_eq_getElem hil
    have b1 := hw ws[i] (List.getElem_mem _)
    have hlen := rm_len (ws := ws) (zl := zl) (i := i)
    rw [f_Rs_removeAll_7.eq_2, if_neg (by rw [hS]; exact nI_ge hil (by omega)), if_pos (pu_in (by omega) (by omega)), pu_cl (by omega), hst.2 i _ hx (Nat.le_refl _)]
    obtain ⟨p', hp', q1, q2, e1⟩ := rm_25 (N := N) (M := M) (S := S) (v2 := nI ((ws.take i).flatMap (rm_w zl)).length) (v4 := nI i) (f := f) (r := f_Rs_removeAll_7 N M T M' g fuel) hz hl2 hM' hw2 b1 (zs.length - p) N p (by omega) (by omega) (hlow _ hx)
    rw [e1, rm_56 hz hl2 hM' hw2 b1 hzl hzs hp' q1 q2]
    have hlw : ws[i] % 65536 &&& (65535 ^^^ zl (ws[i] / 65536)) < 65536 := Nat.lt_of_le_of_lt Nat.and_le_left (Nat.mod_lt _ (by decide))
    have etake : (ws.take (i + 1)).flatMap (rm_w zl) = (ws.take i).flatMap (rm_w zl) ++ rm_w zl ws[i] := by
      rw [List.take_succ, hx, List.flatMap_append]
      simp
    have hnext : ∀ w, ws[i + 1]? = some w → ∀ j z, zs[j]? = some z → j < p' → z / 65536 < w / 65536 := fun w hw j z hj hjp => by
      have := hws i (i + 1) _ w hx hw (by omega)
      have := q1 j z hj hjp
      omega
    unfold f_Rs_removeAll_97
    rw [pb_mask]
    by_cases hz0 : ws[i] % 65536 &&& (65535 ^^^ zl (ws[i] / 65536)) = 0
    · have er : rm_w zl ws[i] = [] := by unfold rm_w; rw [if_pos hz0]
      rw [if_pos (by rw [hz0, Nat.add_zero, Nat.mul_mod_left]; rfl), nI_1]
      rw [er, List.append_nil] at etake
      rw [← etake]
      refine ih fuel (i + 1) p' f (by omega) (by omega) hp' ⟨?_, fun j w hj hij => hst.2 j w hj (by omega)⟩ hnext
      rw [etake]
      exact hst.1
    · have er : rm_w zl ws[i] = [ws[i] / 65536 * 65536 + (ws[i] % 65536 &&& (65535 ^^^ zl (ws[i] / 65536)))] := by unfold rm_w; rw [if_neg hz0]
      rw [if_neg (show ¬ nI ((ws[i] / 65536 * 65536 + (ws[i] % 65536 &&& (65535 ^^^ zl (ws[i] / 65536)))) % 65536) = 0 by
        rw [show (ws[i] / 65536 * 65536 + (ws[i] % 65536 &&& (65535 ^^^ zl (ws[i] / 65536)))) % 65536 = ws[i] % 65536 &&& (65535 ^^^ zl (ws[i] / 65536)) by omega]
        exact nI_ne0 (by omega) (by omega)), if_pos (pu_in (by omega) (by omega)), pu_cl (by omega), nI_1, nI_1]
      rw [er] at etake
      have elen : ((ws.take i).flatMap (rm_w zl)).length + 1 = ((ws.take (i + 1)).flatMap (rm_w zl)).length := by rw [etake]; simp
      rw [elen]
      refine ih fuel (i + 1) p' _ (by omega) (by omega) hp' ⟨fun j w hj => ?_, fun j w hj hij => ?_⟩ hnext
      · rw [etake] at hj
        by_cases hjl : j < ((ws.take i).flatMap (rm_w zl)).length
        · rw [List.getElem?_append_left hjl] at hj
          rw [pk_un (by omega)]
          exact hst.1 j w hj
        · rw [List.getElem?_append_right (by omega)] at hj
          have h1 : j - ((ws.take i).flatMap (rm_w zl)).length < 1 := (List.getElem?_eq_some_iff.mp hj).1
          have e2 : j = ((ws.take i).flatMap (rm_w zl)).length := by omega
          rw [e2, Nat.sub_self] at hj
          cases hj
          rw [e2]
          exact pk_us
      · rw [pk_un (by omega)]
        exact hst.2 j w hj (by omega)
theorem wd_srt_n (B : Nat → Bool) : ∀ n, (∀ w ∈ (List.range n).flatMap (w1 B), w / 65536 < n) ∧ rm_srt ((List.range n).flatMap (w1 B)) := by
  intro n
  induction n with
  | zero => exact ⟨fun w hw => by simp at hw, fun i j x y hx => by simp at hx⟩
  | succ n ih =>
    rw [List.range_succ, List.flatMap_append]
    simp only [List.flatMap_cons, List.flatMap_nil, List.append_nil]
    have hlt := bm_lt (fun u => B (16 * n + u)) 16
    have hone : ∀ w ∈ w1 B n, w / 65536 = n := fun w hw => by
      unfold w1 at hw
      split at hw
      · cases hw
      · rw [List.mem_singleton] at hw; omega
    have hlen : (w1 B n).length ≤ 1 := by unfold w1; split <;> simp
    refine ⟨fun w hw => ?_, fun i j x y hx hy hij => ?_⟩
    · rw [List.mem_append] at hw
      rcases hw with q | q
      · have := ih.1 w q; omega
      · have := hone w q; omega
    · by_cases hj : j < ((List.range n).flatMap (w1 B)).length
      · rw [List.getElem?_append_left hj] at hy
        rw [List.getElem?_append_left (by omega)] at hx
        exact ih.2 i j x y hx hy hij
      · rw [List.getElem?_append_right (by omega)] at hy
        have hy1 := hone y (List.mem_of_getElem? hy)
        have hj2 := (List.getElem?_eq_some_iff.mp hy).1
        have hi : i < ((List.range n).flatMap (w1 B)).length := by omega
        rw [List.getElem?_append_left hi] at hx
        have := ih.1 x (List.mem_of_getElem? hx)
        omega
theorem wd_srt (B : Nat → Bool) : rm_srt (wd B) := (wd_srt_n B 4096).2
def wd_z (B : Nat → Bool) (g : Nat) : Nat := if g < 4096 then bm (fun u => B (16 * g + u)) 16 else 0
theorem wd_z1 {B : Nat → Bool} {g : Nat} (h : g < 4096) : wd_z B g = bm (fun u => B (16 * g + u)) 16 := if_pos h
theorem wd_z0 {B : Nat → Bool} {g : Nat} (h : ¬ g < 4096) : wd_z B g = 0 := if_neg h
theorem wd_zl (B : Nat → Bool) : rm_zl (wd B) (wd_z B) := by
  refine ⟨fun z hz => ?_, fun g hg => ?_⟩
  · obtain ⟨g, hgl, hz0, e⟩ := wd_mem.mp hz
    have hlt := bm_lt (fun u => B (16 * g + u)) 16
    have e1 : z / 65536 = g := by omega
    have e2 : z % 65536 = bm (fun u => B (16 * g + u)) 16 := by omega
    rw [e1, e2, wd_z1 hgl]
  · by_cases hgl : g < 4096
    · rw [wd_z1 hgl]
      apply Classical.byContradiction
      intro hz0
      have hlt := bm_lt (fun u => B (16 * g + u)) 16
      exact hg _ (wd_mem.mpr ⟨g, hgl, hz0, rfl⟩) (by omega)
    · rw [wd_z0 hgl]
theorem wd_rm (A B : Nat → Bool) : (wd A).flatMap (rm_w (wd_z B)) = wd (fun k => A k && !B k) := by
  unfold wd
  rw [List.flatMap_assoc]
  refine fm_congr (fun g hg => ?_)
  rw [List.mem_range] at hg
  have la := bm_lt (fun u => A (16 * g + u)) 16
  have lb := bm_lt (fun u => B (16 * g + u)) 16
  have ebm : bm (fun u => A (16 * g + u)) 16 &&& (65535 ^^^ bm (fun u => B (16 * g + u)) 16) = bm (fun u => A (16 * g + u) && !B (16 * g + u)) 16 := by
    refine bm_eq (Nat.lt_of_le_of_lt Nat.and_le_left la) (fun i hi => ?_)
    rw [Nat.testBit_and, Nat.testBit_xor, bm_bit, bm_bit, show (65535 : Nat) = 2 ^ 16 - 1 from rfl, Nat.testBit_two_pow_sub_one]
    simp only [hi, decide_true, Bool.true_and]
    cases A (16 * g + i) <;> cases B (16 * g + i) <;> rfl
  by_cases ha : bm (fun u => A (16 * g + u)) 16 = 0
  · rw [ha, Nat.zero_and] at ebm
    rw [w1, if_pos ha, w1, if_pos ebm.symm]
    rfl
  · rw [w1, if_neg ha]
    simp only [List.flatMap_cons, List.flatMap_nil, List.append_nil]
    unfold rm_w
    rw [show (g * 65536 + bm (fun u => A (16 * g + u)) 16) / 65536 = g by omega, show (g * 65536 + bm (fun u => A (16 * g + u)) 16) % 65536 = bm (fun u => A (16 * g + u)) 16 by omega, wd_z1 hg, ebm, w1]
theorem rs_removeAll {A B : Nat → Bool} {S T : Int32} {f g : Nat → Int32} {N : Nat} (hN : 5000 ≤ N) (hr : fd_rep (wd A) S f) (hz : fd_rep (wd B) T g) :
    ∃ S' f', f_Rs_removeAll N S 4096 f T 4096 g = some (S', f') ∧ fd_rep (wd (fun k => A k && !B k)) S' f' := by
  unfold f_Rs_removeAll
  have ha := wd_len A
  have hb := wd_len B
  obtain ⟨S', f', e, h⟩ := rm_7 (N := N) hN hr.1 hz ha (Nat.le_refl _) hb (Nat.le_refl _) (fun w hw => wd_lt hw) (fun w hw => wd_lt hw) (wd_srt A) (wd_zl B) (wd_srt B) (wd A).length N 0 0 f (by omega) (by omega) (Nat.zero_le _) ⟨fun j w hj => by simp at hj, fun j w hj _ => hr.2 j w hj⟩ (fun w _ j z _ hj => by omega)
  rw [wd_rm] at h
  exact ⟨S', f', e, h⟩

/-! PURE ROWS 19: the model's ask, its rows kept, and bits -/
/-- a word of 64 keys -/
def mW (B : Nat → Bool) (w : Nat) : Int64 := lN (bm (fun b => B (64 * w + b)) 64)
theorem lb_inj {a b : Nat} (ha : a < 2 ^ 64) (hb : b < 2 ^ 64) : lN a = lN b ↔ a = b := by
  constructor
  · intro h
    have h1 : (lN a).toBitVec = (lN b).toBitVec := congrArg Int64.toBitVec h
    have h2 : BitVec.ofNat 64 a = BitVec.ofNat 64 b := h1
    have h3 := congrArg BitVec.toNat h2
    rw [BitVec.toNat_ofNat, BitVec.toNat_ofNat, Nat.mod_eq_of_lt ha, Nat.mod_eq_of_lt hb] at h3
    exact h3
  · intro h; rw [h]
theorem lb_not {a b : Nat} (ha : a < 2 ^ 64) (hb : b < 2 ^ 64) : lN a &&& (lN b ^^^ (-1)) = lN (a &&& ((2 ^ 64 - 1) ^^^ b)) := by
  apply Int64.toBitVec_inj.1
  show BitVec.ofNat 64 a &&& (BitVec.ofNat 64 b ^^^ (-1 : Int64).toBitVec) = BitVec.ofNat 64 (a &&& ((2 ^ 64 - 1) ^^^ b))
  have e : (-1 : Int64).toBitVec = BitVec.allOnes 64 := by decide
  rw [e]
  apply BitVec.eq_of_getLsbD_eq
  intro i hi
  rw [BitVec.getLsbD_and, BitVec.getLsbD_xor, BitVec.getLsbD_ofNat, BitVec.getLsbD_ofNat, BitVec.getLsbD_ofNat, BitVec.getLsbD_allOnes, Nat.testBit_and, Nat.testBit_xor, Nat.testBit_two_pow_sub_one]
  simp [hi, Bool.xor_comm]
theorem mW_lt (B : Nat → Bool) (w : Nat) : bm (fun b => B (64 * w + b)) 64 < 2 ^ 64 := bm_lt _ _
theorem mW_inj {A B : Nat → Bool} {w : Nat} : mW A w = mW B w ↔ ∀ b, b < 64 → A (64 * w + b) = B (64 * w + b) := by
  unfold mW
  rw [lb_inj (bm_lt _ _) (bm_lt _ _)]
  constructor
  · intro h b hb
    have := congrArg (fun m => m.testBit b) h
    simpa [bm_bit, hb] using this
  · exact fun h => bm_congr h
theorem mW_zero {B : Nat → Bool} {w : Nat} : mW B w = 0 ↔ ∀ b, b < 64 → B (64 * w + b) = false := by
  unfold mW
  rw [show (0 : Int64) = lN 0 from rfl, lb_inj (bm_lt _ _) (by decide), bm_zero]
theorem mW_nx {P : Nat → Prop} {B : Nat → Bool} {f : Nat → Int64} (h : nx_in P f) (he : ∀ k, k < 65536 → (P k ↔ B k = true)) : ∀ w, w < 1024 → f w = mW B w := fun w hw => by
  obtain ⟨m, h1, h2, h3⟩ := h w hw
  unfold mW
  rw [h2]
  congr 1
  exact bm_eq h1 (fun i hi => by
    have := (h3 i hi).trans (he (64 * w + i) (by omega))
    rw [Bool.eq_iff_iff]; exact this)
theorem ak_13 {N : Nat} {S : Int32} {Wh Tr Co Wi Pc It Se Va La : Nat → Int32} {v1 : Int32} : ∀ (k fuel i : Nat) (Ne : Nat → Int64), i + k = 1024 → k < fuel → (∀ j, j < i → Ne j = 0) →
    ∃ Ne', f_M_ask_13 N S Wh Tr Co Wi Pc It v1 fuel Ne Se Va La (nI i) = f_M_ask_33 N S Wh Tr Co Wi Pc It Ne' Se Va La v1 ∧ ∀ j, j < 1024 → Ne' j = 0 := by
  intro k
  induction k with
  | zero =>
    intro fuel i Ne hi hf h
    obtain ⟨fuel, rfl⟩ : ∃ m, fuel = m + 1 := ⟨fuel - 1, by omega⟩
    rw [f_M_ask_13.eq_2, if_pos (show (1024 : Int32) ≤ nI i from nI_le (a := 1024) (by omega) (by omega))]
    exact ⟨Ne, rfl, fun j hj => h j (by omega)⟩
  | succ k ih =>
    intro fuel i Ne hi hf h
    obtain ⟨fuel, rfl⟩ : ∃ m, fuel = m + 1 := ⟨fuel - 1, by omega⟩
    rw [f_M_ask_13.eq_2, if_neg (show ¬ (1024 : Int32) ≤ nI i from nI_ge (b := 1024) (by omega) (by decide)), if_pos (pu_in (by omega) (by decide)), pu_cl (by omega), nI_1]
    refine ih fuel (i + 1) _ (by omega) (by omega) (fun j hj => ?_)
    by_cases e : j = i
    · rw [e, pk_uLs]
    · rw [pk_uLn e]; exact h j (by omega)
theorem ak_tb (s : Bool) : ∀ d, d < 16 → ((if s = true then 65535 else 1 : Nat).testBit d = true ↔ d ≤ (if s = true then 15 else 0)) := by
  cases s <;> decide
theorem ak_dg {k : Nat} (hk : k < 65536) : k = 4096 * dg k 0 + 256 * dg k 1 + 16 * dg k 2 + dg k 3 := by
  unfold dg
  rw [show 16 ^ (3 - 0) = 4096 from rfl, show 16 ^ (3 - 1) = 256 from rfl, show 16 ^ (3 - 2) = 16 from rfl, show 16 ^ (3 - 3) = 1 from rfl]
  omega
theorem ak_iff {sn : Nat → Bool} {ps : List it_P} {k : Nat} (hk : k < 65536) :
    (∃ x' y' z' u', 0 ≤ x' ∧ x' ≤ (if it_sd ps 0 = true then 15 else 0) ∧ y' ≤ (if it_sd ps 1 = true then 15 else 0) ∧ z' ≤ (if it_sd ps 2 = true then 15 else 0) ∧ u' ≤ (if it_sd ps 3 = true then 15 else 0) ∧ k = 4096 * x' + 256 * y' + 16 * z' + u' ∧ rR sn ps k = true) ↔ rB sn ps k = true := by
  have l15 : ∀ s : Bool, (if s = true then 15 else 0 : Nat) < 16 := fun s => by cases s <;> decide
  unfold rB
  rw [rO_iff]
  have hR : rR sn ps k = true ↔ ∀ x ∈ ps, pm sn (dg k) x = true := by unfold rR; rw [List.all_eq_true]
  rw [← hR]
  constructor
  · rintro ⟨x, y, z, u, _, hx, hy, hz, hu, e, r⟩
    refine ⟨fun i hi => ?_, r⟩
    have a0 := l15 (it_sd ps 0)
    have a1 := l15 (it_sd ps 1)
    have a2 := l15 (it_sd ps 2)
    have a3 := l15 (it_sd ps 3)
    obtain ⟨d0, d1, d2, d3⟩ := dg_key (x := x) (y := y) (z := z) (u := u) (by omega) (by omega) (by omega) (by omega)
    rw [e]
    rcases (show i = 0 ∨ i = 1 ∨ i = 2 ∨ i = 3 by omega) with q | q | q | q <;> subst q
    · rw [d0]; exact (ak_tb _ x (by omega)).mpr hx
    · rw [d1]; exact (ak_tb _ y (by omega)).mpr hy
    · rw [d2]; exact (ak_tb _ z (by omega)).mpr hz
    · rw [d3]; exact (ak_tb _ u (by omega)).mpr hu
  · rintro ⟨h, r⟩
    exact ⟨dg k 0, dg k 1, dg k 2, dg k 3, Nat.zero_le _, (ak_tb _ _ (dg_lt k 0)).mp (h 0 (by omega)), (ak_tb _ _ (dg_lt k 1)).mp (h 1 (by omega)), (ak_tb _ _ (dg_lt k 2)).mp (h 2 (by omega)), (ak_tb _ _ (dg_lt k 3)).mp (h 3 (by omega)), ak_dg hk, r⟩
theorem ak_if {b : Bool} {α : Type} {g : Int32 → Option α} : (if pu_b b = 0 then g 0 else g 15) = g (nI (if b = true then 15 else 0)) := by
  cases b <;> rfl
theorem ak_all {ml : List lr_E} {S : Int32} {Wh Tr Co Wi Pc It Se Va La : Nat → Int32} {Ne : Nat → Int64} {w n q N : Nat} {ps : List it_P} (hN : 5000 ≤ N) (h : lr_rep ml S Wh Tr Co) (ok : lr_ok ml) (hq : q < 12) (hW : Wi q = nI w) (hw : w ≤ 62) (hm : mq_rep q ps Pc It) (hp : qu_ok ps) (hn : n < 62) :
    ∃ Ne' Se' Va' La', f_M_ask N S Wh Tr Co Wi Pc It Ne Se Va La (nI q) (nI n) = some (Ne', Se', Va', La') ∧ ∀ z, z < 1024 → Ne' z = mW (rB (fun t => lr_sv (lm_best ml n t) n w) ps) z := by
  obtain ⟨Se1, La1, e1, h1⟩ := lm_see (N := N) h ok hn hw hN Se La
  unfold f_M_ask
  rw [if_pos (pu_in hq (by decide)), pu_cl (by omega), hW, e1, fn_s2]
  obtain ⟨Ne2, e2, h2⟩ := ak_13 (N := N) (S := S) (Wh := Wh) (Tr := Tr) (Co := Co) (Wi := Wi) (Pc := Pc) (It := It) (Se := Se1) (Va := Va) (La := La1) (v1 := nI q) 1024 N 0 Ne (by omega) (by omega) (fun j hj => by omega)
  rw [show (0 : Int32) = nI 0 from rfl, e2]
  have s1 : f_M_stands N Pc It (nI q) 1 = some (pu_b (it_sd ps 0)) := mq_stands (N := N) (i := 0) hN hq hm hp (by omega)
  have s2 : f_M_stands N Pc It (nI q) 2 = some (pu_b (it_sd ps 1)) := mq_stands (N := N) (i := 1) hN hq hm hp (by omega)
  have s3 : f_M_stands N Pc It (nI q) 3 = some (pu_b (it_sd ps 2)) := mq_stands (N := N) (i := 2) hN hq hm hp (by omega)
  have s4 : f_M_stands N Pc It (nI q) 4 = some (pu_b (it_sd ps 3)) := mq_stands (N := N) (i := 3) hN hq hm hp (by omega)
  have l15 : ∀ s : Bool, (if s = true then 15 else 0 : Nat) < 16 := fun s => by cases s <;> decide
  have hz : nx_in (fun _ => False) Ne2 := fun z hz => ⟨0, by decide, h2 z hz, fun b hb => by simp⟩
  obtain ⟨Ne3, Va3, e3, h3⟩ := ak_103 (N := N) (sn := fun t => lr_sv (lm_best ml n t) n w) (S := S) (Wh := Wh) (Tr := Tr) (Co := Co) (Wi := Wi) (La := La1) hN hq hm hp h1 (l15 (it_sd ps 0)) (l15 (it_sd ps 1)) (l15 (it_sd ps 2)) (l15 (it_sd ps 3)) ((if it_sd ps 0 = true then 15 else 0) + 1) N 0 _ Ne2 Va (by omega) (by have := l15 (it_sd ps 0); omega) hz
  have r4 : ∀ a b c : Int32, f_M_ask_81 N S Wh Tr Co Wi Pc It Ne2 Se1 Va La1 (nI q) a b c = f_M_ask_103 N S Wh Tr Co Wi Pc It (nI q) a b c (nI (if it_sd ps 3 = true then 15 else 0)) N Ne2 Se1 Va La1 0 := fun a b c => by
    unfold f_M_ask_81
    rw [s4, fn_s1]
    exact ak_if (g := fun d => f_M_ask_103 N S Wh Tr Co Wi Pc It (nI q) a b c d N Ne2 Se1 Va La1 0)
  have r3 : ∀ a b : Int32, f_M_ask_64 N S Wh Tr Co Wi Pc It Ne2 Se1 Va La1 (nI q) a b = f_M_ask_103 N S Wh Tr Co Wi Pc It (nI q) a b (nI (if it_sd ps 2 = true then 15 else 0)) (nI (if it_sd ps 3 = true then 15 else 0)) N Ne2 Se1 Va La1 0 := fun a b => by
    unfold f_M_ask_64
    rw [s3, fn_s1, r4, r4]
    exact ak_if (g := fun d => f_M_ask_103 N S Wh Tr Co Wi Pc It (nI q) a b d (nI (if it_sd ps 3 = true then 15 else 0)) N Ne2 Se1 Va La1 0)
  have r2 : ∀ a : Int32, f_M_ask_48 N S Wh Tr Co Wi Pc It Ne2 Se1 Va La1 (nI q) a = f_M_ask_103 N S Wh Tr Co Wi Pc It (nI q) a (nI (if it_sd ps 1 = true then 15 else 0)) (nI (if it_sd ps 2 = true then 15 else 0)) (nI (if it_sd ps 3 = true then 15 else 0)) N Ne2 Se1 Va La1 0 := fun a => by
    unfold f_M_ask_48
    rw [s2, fn_s1, r3, r3]
    exact ak_if (g := fun d => f_M_ask_103 N S Wh Tr Co Wi Pc It (nI q) a d (nI (if it_sd ps 2 = true then 15 else 0)) (nI (if it_sd ps 3 = true then 15 else 0)) N Ne2 Se1 Va La1 0)
  have r1 : f_M_ask_33 N S Wh Tr Co Wi Pc It Ne2 Se1 Va La1 (nI q) = f_M_ask_103 N S Wh Tr Co Wi Pc It (nI q) (nI (if it_sd ps 0 = true then 15 else 0)) (nI (if it_sd ps 1 = true then 15 else 0)) (nI (if it_sd ps 2 = true then 15 else 0)) (nI (if it_sd ps 3 = true then 15 else 0)) N Ne2 Se1 Va La1 0 := by
    unfold f_M_ask_33
    rw [s1, fn_s1, r2, r2]
    exact ak_if (g := fun d => f_M_ask_103 N S Wh Tr Co Wi Pc It (nI q) d (nI (if it_sd ps 1 = true then 15 else 0)) (nI (if it_sd ps 2 = true then 15 else 0)) (nI (if it_sd ps 3 = true then 15 else 0)) N Ne2 Se1 Va La1 0)
  rw [r1]
  refine ⟨Ne3, Se1, Va3, La1, e3, mW_nx h3 (fun k hk => ?_)⟩
  rw [← ak_iff hk]
  exact ⟨fun z => z.resolve_left (fun z => z), Or.inr⟩
/-- questions of the model: widths and patterns -/
abbrev mQ : Type := Nat × List it_P
def mqs (qs : List mQ) (Q : Int32) (Wi Pc It : Nat → Int32) : Prop := Q = nI qs.length ∧ qs.length ≤ 12 ∧ ∀ q x, qs[q]? = some x → Wi q = nI x.1 ∧ x.1 ≤ 62 ∧ mq_rep q x.2 Pc It ∧ qu_ok x.2
def qB (E : Nat → Nat → Option lr_E) (x : mQ) (n : Nat) : Nat → Bool := rB (fun t => lr_sv (E n t) n x.1) x.2
def ca (E : Nat → Nat → Option lr_E) (qs : List mQ) (L : Nat) (Ro : Nat → Int64) (Kn : Nat → Int32) : Prop := ∀ q x n, qs[q]? = some x → n < 62 → ¬ Kn (62 * q + n) = 0 → n ≤ L ∧ ∀ w, w < 1024 → Ro (1024 * (62 * q + n) + w) = mW (qB E x n) w
def MC (N : Nat) (ml : List lr_E) (qs : List mQ) (S Q : Int32) (Wh Tr Co Wi Pc It : Nat → Int32) : Prop := 5000 ≤ N ∧ lr_rep ml S Wh Tr Co ∧ lr_ok ml ∧ mqs qs Q Wi Pc It
theorem MC.hN {N : Nat} {ml : List lr_E} {qs : List mQ} {S Q : Int32} {Wh Tr Co Wi Pc It : Nat → Int32} (m : MC N ml qs S Q Wh Tr Co Wi Pc It) : 5000 ≤ N := m.1
theorem MC.rep {N : Nat} {ml : List lr_E} {qs : List mQ} {S Q : Int32} {Wh Tr Co Wi Pc It : Nat → Int32} (m : MC N ml qs S Q Wh Tr Co Wi Pc It) : lr_rep ml S Wh Tr Co := m.2.1
theorem MC.ok {N : Nat} {ml : List lr_E} {qs : List mQ} {S Q : Int32} {Wh Tr Co Wi Pc It : Nat → Int32} (m : MC N ml qs S Q Wh Tr Co Wi Pc It) : lr_ok ml := m.2.2.1
theorem MC.qr {N : Nat} {ml : List lr_E} {qs : List mQ} {S Q : Int32} {Wh Tr Co Wi Pc It : Nat → Int32} (m : MC N ml qs S Q Wh Tr Co Wi Pc It) : mqs qs Q Wi Pc It := m.2.2.2
theorem MC.lt {N : Nat} {ml : List lr_E} {qs : List mQ} {S Q : Int32} {Wh Tr Co Wi Pc It : Nat → Int32} (m : MC N ml qs S Q Wh Tr Co Wi Pc It) {q : Nat} {x : mQ} (hx : qs[q]? = some x) : q < 12 := by
  have := (List.getElem?_eq_some_iff.mp hx).1
  have := m.qr.2.1
  omega
theorem ro_25 {N a : Nat} {S : Int32} {Wh Tr Co Wi Pc It Kn Se Va La : Nat → Int32} {Ne : Nat → Int64} (ha : a < 744) : ∀ (k fuel i : Nat) (Ro : Nat → Int64), i + k = 1024 → k < fuel →
    ∃ Ro', f_M_rowsOf_25 N S Wh Tr Co Wi Pc It (nI a) fuel Ro Kn Ne Se Va La (nI i) = some (nI (1024 * a), Ro', upd Kn a 1, Ne, Se, Va, La) ∧ (∀ j, i ≤ j → j < 1024 → Ro' (1024 * a + j) = Ne j) ∧ ∀ j, (j < 1024 * a + i ∨ 1024 * a + 1024 ≤ j) → Ro' j = Ro j := by
  intro k
  induction k with
  | zero =>
    intro fuel i Ro hi hf
    obtain ⟨fuel, rfl⟩ : ∃ m, fuel = m + 1 := ⟨fuel - 1, by omega⟩
    have e : (1024 : Int32) * nI a = nI (1024 * a) := pk_mul 1024 a
    rw [f_M_rowsOf_25.eq_2, if_pos (show (1024 : Int32) ≤ nI i from nI_le (a := 1024) (by omega) (by omega)), if_pos (pu_in ha (by decide)), pu_cl (by omega), e]
    exact ⟨Ro, rfl, fun j hj hj2 => by omega, fun j hj => rfl⟩
  | succ k ih =>
    intro fuel i Ro hi hf
    obtain ⟨fuel, rfl⟩ : ∃ m, fuel = m + 1 := ⟨fuel - 1, by omega⟩
    have e : (1024 : Int32) * nI a + nI i = nI (1024 * a + i) := by rw [show (1024 : Int32) = nI 1024 from rfl, pk_mul, nI_add]
    rw [f_M_rowsOf_25.eq_2, if_neg (show ¬ (1024 : Int32) ≤ nI i from nI_ge (b := 1024) (by omega) (by decide)), if_pos (pu_in (by omega) (by decide)), e, if_pos (pu_in (by omega) (by decide)), pu_cl (by omega), pu_cl (by omega), nI_1]
    obtain ⟨Ro', e', h1, h2⟩ := ih fuel (i + 1) (vp_updL Ro (1024 * a + i) (Ne i)) (by omega) (by omega)
    refine ⟨Ro', e', fun j hj hj2 => ?_, fun j hj => ?_⟩
    · by_cases ej : j = i
      · rw [ej, h2 _ (by omega), pk_uLs]
      · exact h1 j (by omega) hj2
    · rw [h2 j (by omega), pk_uLn (by omega)]
theorem ro_all {N : Nat} {ml : List lr_E} {qs : List mQ} {S Q : Int32} {Wh Tr Co Wi Pc It Kn Se Va La : Nat → Int32} {Ro Ne : Nat → Int64} {L q n : Nat} {x : mQ} (m : MC N ml qs S Q Wh Tr Co Wi Pc It) (hc : ca (lm_best ml) qs L Ro Kn) (hx : qs[q]? = some x) (hL : L < 62) (hn : n ≤ L) :
    ∃ Ro' Kn' Ne' Se' Va' La', f_M_rowsOf N S Wh Tr Co Wi Pc It Ro Kn Ne Se Va La (nI q) (nI n) = some (nI (1024 * (62 * q + n)), Ro', Kn', Ne', Se', Va', La') ∧ ca (lm_best ml) qs L Ro' Kn' ∧ ¬ Kn' (62 * q + n) = 0 ∧ (∀ j, ¬ Kn j = 0 → ¬ Kn' j = 0) := by
  have hq := m.lt hx
  obtain ⟨hW, hw, hm, hp⟩ := m.qr.2.2 q x hx
  have e0 : f_M_at (nI q) (nI n) = some (nI (62 * q + n)) := by
    unfold f_M_at
    rw [show (62 : Int32) = nI 62 from rfl, pk_mul, nI_add]
  unfold f_M_rowsOf
  rw [e0, fn_s1, if_pos (pu_in (by omega) (by decide)), pu_cl (by omega)]
  by_cases hk : Kn (62 * q + n) = 0
  · rw [if_pos hk]
    obtain ⟨Ne1, Se1, Va1, La1, e1, h1⟩ := ak_all (N := N) (Ne := Ne) (Se := Se) (Va := Va) (La := La) m.hN m.rep m.ok hq hW hw hm hp (show n < 62 by omega)
    rw [e1, fn_s4]
    obtain ⟨Ro2, e2, h2, h3⟩ := ro_25 (N := N) (a := 62 * q + n) (S := S) (Wh := Wh) (Tr := Tr) (Co := Co) (Wi := Wi) (Pc := Pc) (It := It) (Kn := Kn) (Se := Se1) (Va := Va1) (La := La1) (Ne := Ne1) (by omega) 1024 N 0 Ro (by omega) (by have := m.hN; omega)
    rw [show (0 : Int32) = nI 0 from rfl, e2]
    refine ⟨_, _, _, _, _, _, rfl, fun q' x' n' hx' hn' hk' => ?_, ?_, fun j hj => ?_⟩
    · have hq' := m.lt hx'
      by_cases ea : 62 * q' + n' = 62 * q + n
      · have eq : q' = q := by omega
        have en : n' = n := by omega
        subst eq en
        rw [hx] at hx'
        cases hx'
        exact ⟨hn, fun z hz => by rw [h2 z (by omega) hz]; exact h1 z hz⟩
      · rw [pk_un ea] at hk'
        obtain ⟨a1, a2⟩ := hc q' x' n' hx' hn' hk'
        exact ⟨a1, fun z hz => by rw [h3 _ (by omega)]; exact a2 z hz⟩
    · rw [pk_us]; decide
    · by_cases ej : j = 62 * q + n
      · rw [ej, pk_us]; decide
      · rw [pk_un ej]; exact hj
  · rw [if_neg hk, show (1024 : Int32) * nI (62 * q + n) = nI (1024 * (62 * q + n)) from pk_mul 1024 _]
    exact ⟨_, _, _, _, _, _, rfl, hc, hk, fun j hj => hj⟩
/-- the rows asked for: there, come, gone -/
def wB (E : Nat → Nat → Option lr_E) (x : mQ) (n c : Nat) (k : Nat) : Bool := if c = 0 then qB E x n k else if c = 1 then qB E x n k && !(!decide (n = 0) && qB E x (n - 1) k) else (!decide (n = 0) && qB E x (n - 1) k) && !qB E x n k
theorem mW_diff (A B : Nat → Bool) (w : Nat) : mW A w &&& (mW B w ^^^ (-1)) = mW (fun k => A k && !B k) w := by
  unfold mW
  rw [lb_not (bm_lt _ _) (bm_lt _ _)]
  congr 1
  refine bm_eq (Nat.lt_of_le_of_lt Nat.and_le_left (bm_lt _ _)) (fun i hi => ?_)
  rw [Nat.testBit_and, Nat.testBit_xor, Nat.testBit_two_pow_sub_one, bm_bit, bm_bit]
  simp [hi]
theorem mW_congr {A B : Nat → Bool} {w : Nat} (h : ∀ k, k < 65536 → A k = B k) (hw : w < 1024) : mW A w = mW B w := mW_inj.mpr (fun b hb => h _ (by omega))
theorem bi_all {N : Nat} {ml : List lr_E} {qs : List mQ} {S Q : Int32} {Wh Tr Co Wi Pc It Kn Se Va La : Nat → Int32} {Ro Ne : Nat → Int64} {L q n c w : Nat} {x : mQ} (m : MC N ml qs S Q Wh Tr Co Wi Pc It) (hc : ca (lm_best ml) qs L Ro Kn) (hx : qs[q]? = some x) (hL : L < 62) (hn : n ≤ L) (hc3 : c < 3) (hw : w < 1024) :
    ∃ Ro' Kn' Ne' Se' Va' La', f_M_bits N S Wh Tr Co Wi Pc It Ro Kn Ne Se Va La (nI q) (nI n) (nI c) (nI w) = some (mW (wB (lm_best ml) x n c) w, Ro', Kn', Ne', Se', Va', La') ∧ ca (lm_best ml) qs L Ro' Kn' := by
  have hq := m.lt hx
  obtain ⟨Ro1, Kn1, Ne1, Se1, Va1, La1, e1, hc1, hk1, _⟩ := ro_all (N := N) (Ne := Ne) (Se := Se) (Va := Va) (La := La) m hc hx hL hn
  have v1 := (hc1 q x n hx (by omega) hk1).2 w hw
  unfold f_M_bits
  rw [e1, fn_s7, nI_add, if_pos (pu_in (by omega) (by decide)), pu_cl (by omega), v1]
  by_cases h0 : c = 0
  · subst h0
    rw [if_pos (by rfl)]
    exact ⟨_, _, _, _, _, _, rfl, hc1⟩
  · rw [if_neg (show ¬ nI c = 0 from nI_ne0 (by omega) (by omega))]
    have fin : ∀ (Ro2 : Nat → Int64) (Kn2 : Nat → Int32) (Ne2 : Nat → Int64) (Se2 Va2 La2 : Nat → Int32) (B : Nat → Bool), (∀ k, B k = (!decide (n = 0) && qB (lm_best ml) x (n - 1) k)) → f_M_bits_47 N S Wh Tr Co Wi Pc It Ro2 Kn2 Ne2 Se2 Va2 La2 (nI c) (mW (qB (lm_best ml) x n) w) (mW B w) = some (mW (wB (lm_best ml) x n c) w, Ro2, Kn2, Ne2, Se2, Va2, La2) := by
      intro Ro2 Kn2 Ne2 Se2 Va2 La2 B hB
      unfold f_M_bits_47
      rcases (show c = 1 ∨ c = 2 by omega) with r | r <;> subst r
      · rw [if_pos (by rfl), mW_diff]
        congr 2
        exact mW_congr (fun k _ => by unfold wB; rw [hB]; rfl) hw
      · rw [if_neg (by decide), mW_diff]
        congr 2
        exact mW_congr (fun k _ => by unfold wB; rw [hB]; rfl) hw
    by_cases hn0 : n = 0
    · subst hn0
      rw [if_pos (show nI 0 ≤ 0 by decide)]
      have z : (0 : Int64) = mW (fun _ => false) w := (mW_zero.mpr (fun b hb => rfl)).symm
      rw [z, fin _ _ _ _ _ _ (fun _ => false) (fun k => by simp)]
      exact ⟨_, _, _, _, _, _, rfl, hc1⟩
    · rw [if_neg (nI_nle (by omega) (by omega))]
      obtain ⟨n', rfl⟩ : ∃ n', n = n' + 1 := ⟨n - 1, by omega⟩
      obtain ⟨Ro2, Kn2, Ne2, Se2, Va2, La2, e2, hc2, hk2, _⟩ := ro_all (N := N) (Ne := Ne1) (Se := Se1) (Va := Va1) (La := La1) m hc1 hx hL (show n' ≤ L by omega)
      have v2 := (hc2 q x n' hx (by omega) hk2).2 w hw
      rw [nI_pred, e2, fn_s7, nI_add, if_pos (pu_in (by omega) (by decide)), pu_cl (by omega), v2, fin _ _ _ _ _ _ _ (fun k => by simp)]
      exact ⟨_, _, _, _, _, _, rfl, hc2⟩

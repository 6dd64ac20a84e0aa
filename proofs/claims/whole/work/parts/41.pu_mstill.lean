/-! PURE ROWS 22: the model's still, again, late -/
def df (A B : Nat → Bool) : Bool := !decide (wd A = wd B)
theorem df_false {A B : Nat → Bool} : df A B = false ↔ ∀ k, k < 65536 → A k = B k := by
  unfold df
  rw [← wd_inj]
  cases h : decide (wd A = wd B)
  · simp at h; simp [h]
  · simp at h; simp [h]
theorem df_true {A B : Nat → Bool} : df A B = true ↔ ∃ k, k < 65536 ∧ ¬ A k = B k := by
  constructor
  · intro h
    apply Classical.byContradiction
    intro hn
    have : df A B = false := df_false.mpr (fun k hk => Classical.byContradiction (fun z => hn ⟨k, hk, z⟩))
    rw [this] at h
    cases h
  · rintro ⟨k, hk, hz⟩
    cases h : df A B with
    | true => rfl
    | false => exact absurd (df_false.mp h k hk) hz
theorem mW_all {A B : Nat → Bool} : (∀ w, w < 1024 → mW A w = mW B w) ↔ df A B = false := by
  rw [df_false]
  constructor
  · intro h k hk
    have := mW_inj.mp (h (k / 64) (by omega)) (k % 64) (by omega)
    rwa [show 64 * (k / 64) + k % 64 = k by omega] at this
  · exact fun h w hw => mW_inj.mpr (fun b hb => h _ (by omega))
def sl (P : Nat → Bool) : Nat → Nat
  | 0 => 0
  | n + 1 => if P (n + 1) = true then n + 1 else sl P n
theorem st_46 {N : Nat} {Lm S Qm : Int32} {Wh Tr Co Wi Pc It Kn Se Va La : Nat → Int32} {Ro Ne : Nat → Int64} {v1 v2 : Int32} {A B : Nat → Bool} {a b : Nat} (ha : a + 1024 ≤ 761856) (hb : b + 1024 ≤ 761856) (hA : ∀ w, w < 1024 → Ro (a + w) = mW A w) (hB : ∀ w, w < 1024 → Ro (b + w) = mW B w) {r : (Nat → Int64) → (Nat → Int32) → (Nat → Int64) → (Nat → Int32) → (Nat → Int32) → (Nat → Int32) → Int32 → Int32 → Option (Int32 × (Nat → Int64) × (Nat → Int32) × (Nat → Int64) × (Nat → Int32) × (Nat → Int32) × (Nat → Int32))} :
    ∀ (n fuel w : Nat), w + n = 1024 → n + 1 < fuel → (∀ j, j < w → mW A j = mW B j) →
    f_M_still_46 N Lm S Qm Wh Tr Co Wi Pc It r v1 v2 (nI a) (nI b) fuel Ro Kn Ne Se Va La 1 (nI w) = if df A B = true then r Ro Kn Ne Se Va La (v2 - 0) 0 else r Ro Kn Ne Se Va La (v2 - 1) 1 := by
  intro n
  induction n with
  | zero =>
    intro fuel w hw hf h
    obtain ⟨fuel, rfl⟩ : ∃ m, fuel = m + 1 := ⟨fuel - 1, by omega⟩
    have : df A B = false := mW_all.mp (fun j hj => h j (by omega))
    rw [f_M_still_46.eq_2, if_pos (show (1024 : Int32) ≤ nI w from nI_le (a := 1024) (by omega) (by omega)), if_neg (by decide), this, if_neg (by decide)]
  | succ n ih =>
    intro fuel w hw hf h
    obtain ⟨fuel, rfl⟩ : ∃ m, fuel = m + 1 := ⟨fuel - 1, by omega⟩
    rw [f_M_still_46.eq_2, if_neg (show ¬ (1024 : Int32) ≤ nI w from nI_ge (b := 1024) (by omega) (by decide)), if_neg (by decide), nI_add, nI_add, if_pos (pu_in (by omega) (by decide)), if_pos (pu_in (by omega) (by decide)), pu_cl (by omega), pu_cl (by omega), hA w (by omega), hB w (by omega), nI_1]
    by_cases e : mW A w = mW B w
    · rw [if_pos ((lg_cmp_eq _ _).mpr e)]
      refine ih fuel (w + 1) (by omega) (by omega) (fun j hj => ?_)
      by_cases ej : j = w
      · rw [ej]; exact e
      · exact h j (by omega)
    · rw [if_neg (fun z => e ((lg_cmp_eq _ _).mp z))]
      obtain ⟨fuel, rfl⟩ : ∃ m, fuel = m + 1 := ⟨fuel - 1, by omega⟩
      have hd : df A B = true := by
        cases hd : df A B with
        | true => rfl
        | false => exact absurd (mW_all.mpr hd w (by omega)) e
      rw [f_M_still_46.eq_2, hd, if_pos rfl, if_pos rfl, if_pos rfl]
      split <;> rfl
theorem st_17 {N : Nat} {ml : List lr_E} {qs : List mQ} {Lm S Q : Int32} {Wh Tr Co Wi Pc It : Nat → Int32} {L q : Nat} {x : mQ} (m : MC N ml qs S Q Wh Tr Co Wi Pc It) (hx : qs[q]? = some x) (hL : L < 62) :
    ∀ (n fuel : Nat) (Ro Ne : Nat → Int64) (Kn Se Va La : Nat → Int32), n ≤ L → n + 1 < fuel → ca (lm_best ml) qs L Ro Kn →
    ∃ Ro' Kn' Ne' Se' Va' La', f_M_still_17 N Lm S Q Wh Tr Co Wi Pc It (nI q) fuel Ro Kn Ne Se Va La (nI n) 1 = some (nI (sl (fun n => df (qB (lm_best ml) x n) (qB (lm_best ml) x (n - 1))) n), Ro', Kn', Ne', Se', Va', La') ∧ ca (lm_best ml) qs L Ro' Kn' := by
  intro n
  have hq := m.lt hx
  have hN := m.hN
  induction n with
  | zero =>
    intro fuel Ro Ne Kn Se Va La hn hf hc
    obtain ⟨fuel, rfl⟩ : ∃ m, fuel = m + 1 := ⟨fuel - 1, by omega⟩
    rw [f_M_still_17.eq_2, if_pos (by decide)]
    exact ⟨_, _, _, _, _, _, rfl, hc⟩
  | succ n ih =>
    intro fuel Ro Ne Kn Se Va La hn hf hc
    obtain ⟨fuel, rfl⟩ : ∃ m, fuel = m + 1 := ⟨fuel - 1, by omega⟩
    obtain ⟨Ro1, Kn1, Ne1, Se1, Va1, La1, e1, hc1, hk1, _⟩ := ro_all (N := N) (Ne := Ne) (Se := Se) (Va := Va) (La := La) m hc hx hL (show n + 1 ≤ L by omega)
    obtain ⟨Ro2, Kn2, Ne2, Se2, Va2, La2, e2, hc2, hk2, hm2⟩ := ro_all (N := N) (Ne := Ne1) (Se := Se1) (Va := Va1) (La := La1) m hc1 hx hL (show n ≤ L by omega)
    have v1 := (hc2 q x (n + 1) hx (by omega) (hm2 _ hk1)).2
    have v2 := (hc2 q x n hx (by omega) hk2).2
    rw [f_M_still_17.eq_2, if_neg (nI_nle (by omega) (by omega)), if_neg (by decide), e1, fn_s7, nI_pred, e2, fn_s7, show (0 : Int32) = nI 0 from rfl, st_46 (N := N) (Lm := Lm) (S := S) (Qm := Q) (Wh := Wh) (Tr := Tr) (Co := Co) (Wi := Wi) (Pc := Pc) (It := It) (by omega) (by omega) v1 v2 1024 N 0 (by omega) (by omega) (fun j hj => by omega), sl]
    show ∃ Ro' Kn' Ne' Se' Va' La', _ = some (nI (if df (qB (lm_best ml) x (n + 1)) (qB (lm_best ml) x (n + 1 - 1)) = true then n + 1 else _), Ro', Kn', Ne', Se', Va', La') ∧ _
    rw [Nat.add_sub_cancel]
    by_cases hd : df (qB (lm_best ml) x (n + 1)) (qB (lm_best ml) x n) = true
    · rw [if_pos hd, if_pos hd]
      obtain ⟨fuel, rfl⟩ : ∃ m, fuel = m + 1 := ⟨fuel - 1, by omega⟩
      rw [f_M_still_17.eq_2, if_neg (show ¬ nI (n + 1) - 0 ≤ 0 from by rw [Int32.sub_zero]; exact nI_nle (by omega) (by omega)), if_pos (by rfl), Int32.sub_zero]
      exact ⟨_, _, _, _, _, _, rfl, hc2⟩
    · rw [if_neg hd, if_neg hd, nI_pred]
      exact ih fuel _ _ _ _ _ _ (by omega) (by omega) hc2
theorem an_23 {N a : Nat} {S : Int32} {Wh Tr Co Wi Pc It Se Va La : Nat → Int32} {Ne : Nat → Int64} {A B : Nat → Bool} (ha : a + 1024 ≤ 761856) (hB : ∀ w, w < 1024 → Ne w = mW B w) :
    ∀ (k fuel w : Nat) (Ro : Nat → Int64) (b : Bool), w + k = 1024 → k < fuel → (b = true ↔ ∃ j, j < w ∧ ¬ mW A j = mW B j) → (∀ j, w ≤ j → j < 1024 → Ro (a + j) = mW A j) →
    ∃ Ro', f_M_again_23 N S Wh Tr Co Wi Pc It (nI a) fuel Ro Ne Se Va La (pu_b b) (nI w) = some (pu_b (df A B), Ro', Ne, Se, Va, La) ∧ (∀ j, w ≤ j → j < 1024 → Ro' (a + j) = mW B j) ∧ ∀ j, (j < a + w ∨ a + 1024 ≤ j) → Ro' j = Ro j := by
  intro k
  induction k with
  | zero =>
    intro fuel w Ro b hw hf hb hR
    obtain ⟨fuel, rfl⟩ : ∃ m, fuel = m + 1 := ⟨fuel - 1, by omega⟩
    rw [f_M_again_23.eq_2, if_pos (show (1024 : Int32) ≤ nI w from nI_le (a := 1024) (by omega) (by omega)), if_pos (pu_bz b)]
    have : b = df A B := by
      cases hd : df A B with
      | false =>
        have := mW_all.mpr hd
        cases b with
        | false => rfl
        | true => obtain ⟨j, h1, h2⟩ := hb.mp rfl; exact absurd (this j (by omega)) h2
      | true =>
        cases b with
        | true => rfl
        | false =>
          have : df A B = false := mW_all.mp (fun j hj => Classical.byContradiction (fun z => by have := hb.mpr ⟨j, by omega, z⟩; cases this))
          rw [this] at hd; cases hd
    rw [this]
    exact ⟨_, rfl, fun j h1 h2 => by omega, fun j hj => rfl⟩
  | succ k ih =>
    intro fuel w Ro b hw hf hb hR
    obtain ⟨fuel, rfl⟩ : ∃ m, fuel = m + 1 := ⟨fuel - 1, by omega⟩
    have go : ∀ b' : Bool, (b' = true ↔ ∃ j, j < w + 1 ∧ ¬ mW A j = mW B j) → ∃ Ro', f_M_again_61 N S Wh Tr Co Wi Pc It (f_M_again_23 N S Wh Tr Co Wi Pc It (nI a) fuel) Ro Ne Se Va La (nI a) (nI w) (pu_b b') = some (pu_b (df A B), Ro', Ne, Se, Va, La) ∧ (∀ j, w ≤ j → j < 1024 → Ro' (a + j) = mW B j) ∧ ∀ j, (j < a + w ∨ a + 1024 ≤ j) → Ro' j = Ro j := fun b' hb' => by
      unfold f_M_again_61
      rw [if_pos (pu_in (by omega) (by decide)), nI_add, if_pos (pu_in (by omega) (by decide)), pu_cl (by omega), pu_cl (by omega), nI_1]
      obtain ⟨Ro', e, h1, h2⟩ := ih fuel (w + 1) (vp_updL Ro (a + w) (Ne w)) b' (by omega) (by omega) hb' (fun j hj hj2 => by rw [pk_uLn (by omega)]; exact hR j (by omega) hj2)
      refine ⟨Ro', e, fun j hj hj2 => ?_, fun j hj => ?_⟩
      · by_cases ej : j = w
        · rw [ej, h2 _ (by omega), pk_uLs, hB w (by omega)]
        · exact h1 j (by omega) hj2
      · rw [h2 j (by omega), pk_uLn (by omega)]
    rw [f_M_again_23.eq_2, if_neg (show ¬ (1024 : Int32) ≤ nI w from nI_ge (b := 1024) (by omega) (by decide))]
    cases b with
    | true =>
      rw [if_neg pu_b1]
      obtain ⟨j, h1, h2⟩ := hb.mp rfl
      exact go true ⟨fun _ => ⟨j, by omega, h2⟩, fun _ => rfl⟩
    | false =>
      rw [if_pos (by rfl), nI_add, if_pos (pu_in (by omega) (by decide)), if_pos (pu_in (by omega) (by decide)), pu_cl (by omega), pu_cl (by omega), hR w (by omega) (by omega), hB w (by omega)]
      by_cases e : mW A w = mW B w
      · rw [if_pos ((lg_cmp_eq _ _).mpr e)]
        refine go false ⟨(fun z => by cases z), fun ⟨j, h1, h2⟩ => ?_⟩
        by_cases ej : j = w
        · subst ej; exact absurd e h2
        · exact hb.mpr ⟨j, by omega, h2⟩
      · rw [if_neg (fun z => e ((lg_cmp_eq _ _).mp z))]
        exact go true ⟨fun _ => ⟨w, by omega, e⟩, fun _ => rfl⟩
theorem an_all {N : Nat} {ml : List lr_E} {qs : List mQ} {S Q : Int32} {Wh Tr Co Wi Pc It Se Va La : Nat → Int32} {Ro Ne : Nat → Int64} {q n : Nat} {x : mQ} {A : Nat → Bool} (m : MC N ml qs S Q Wh Tr Co Wi Pc It) (hx : qs[q]? = some x) (hn : n < 62) (hR : ∀ j, j < 1024 → Ro (1024 * (62 * q + n) + j) = mW A j) :
    ∃ Ro' Ne' Se' Va' La', f_M_again N S Wh Tr Co Wi Pc It Ro Ne Se Va La (nI q) (nI n) = some (pu_b (df A (qB (lm_best ml) x n)), Ro', Ne', Se', Va', La') ∧ (∀ j, j < 1024 → Ro' (1024 * (62 * q + n) + j) = mW (qB (lm_best ml) x n) j) ∧ ∀ j, (j < 1024 * (62 * q + n) ∨ 1024 * (62 * q + n) + 1024 ≤ j) → Ro' j = Ro j := by
  have hq := m.lt hx
  obtain ⟨hW, hw, hm, hp⟩ := m.qr.2.2 q x hx
  have e0 : f_M_at (nI q) (nI n) = some (nI (62 * q + n)) := by
    unfold f_M_at
    rw [show (62 : Int32) = nI 62 from rfl, pk_mul, nI_add]
  obtain ⟨Ne1, Se1, Va1, La1, e1, h1⟩ := ak_all (N := N) (Ne := Ne) (Se := Se) (Va := Va) (La := La) m.hN m.rep m.ok hq hW hw hm hp hn
  unfold f_M_again
  rw [e0, fn_s1, e1, fn_s4, show (1024 : Int32) * nI (62 * q + n) = nI (1024 * (62 * q + n)) from pk_mul 1024 _]
  obtain ⟨Ro', e2, h2, h3⟩ := an_23 (N := N) (a := 1024 * (62 * q + n)) (S := S) (Wh := Wh) (Tr := Tr) (Co := Co) (Wi := Wi) (Pc := Pc) (It := It) (Se := Se1) (Va := Va1) (La := La1) (Ne := Ne1) (A := A) (B := qB (lm_best ml) x n) (by omega) h1 1024 N 0 Ro false (by omega) (by have := m.hN; omega) ⟨(fun z => by cases z), fun ⟨j, h, _⟩ => by omega⟩ (fun j _ hj => hR j hj)
  exact ⟨Ro', Ne1, Se1, Va1, La1, e2, fun j hj => h2 j (by omega) hj, fun j hj => h3 j (by omega)⟩

/-! PURE ROWS 23: the model's late -/
abbrev mR11 : Type := Int32 × Int32 × (Nat → Int32) × (Nat → Int32) × (Nat → Int32) × (Nat → Int64) × (Nat → Int32) × (Nat → Int64) × (Nat → Int32) × (Nat → Int32) × (Nat → Int32)
theorem la_52 {N : Nat} {ml : List lr_E} {qs : List mQ} {S Q v1 v2 v3 v4 v5 : Int32} {Wh Tr Co Wi Pc It : Nat → Int32} {L q : Nat} {x : mQ} (m : MC N ml qs S Q Wh Tr Co Wi Pc It) (hx : qs[q]? = some x) (hL : L < 62) {r : Int32 → (Nat → Int32) → (Nat → Int32) → (Nat → Int32) → (Nat → Int64) → (Nat → Int32) → (Nat → Int64) → (Nat → Int32) → (Nat → Int32) → (Nat → Int32) → Int32 → Option mR11} :
    ∀ (k fuel n : Nat) (Ro Ne : Nat → Int64) (Kn Se Va La : Nat → Int32), n + k = L + 1 → k < fuel → ca (lm_best ml) qs L Ro Kn →
    ∃ Ro' Kn' Ne' Se' Va' La', f_M_late_52 N (nI L) Q Wi Pc It r v1 v2 v3 v4 v5 (nI q) fuel S Wh Tr Co Ro Kn Ne Se Va La (nI n) = r S Wh Tr Co Ro' Kn' Ne' Se' Va' La' (nI (q + 1)) ∧ ca (lm_best ml) qs L Ro' Kn' ∧ (∀ j, ¬ Kn j = 0 → ¬ Kn' j = 0) ∧ ∀ n', n ≤ n' → n' ≤ L → ¬ Kn' (62 * q + n') = 0 := by
  intro k
  induction k with
  | zero =>
    intro fuel n Ro Ne Kn Se Va La hn hf hc
    obtain ⟨fuel, rfl⟩ : ∃ m, fuel = m + 1 := ⟨fuel - 1, by omega⟩
    rw [f_M_late_52.eq_2, if_pos (nI_lt (by omega) (by omega)), nI_1]
    exact ⟨_, _, _, _, _, _, rfl, hc, fun j hj => hj, fun n' h1 h2 => by omega⟩
  | succ k ih =>
    intro fuel n Ro Ne Kn Se Va La hn hf hc
    obtain ⟨fuel, rfl⟩ : ∃ m, fuel = m + 1 := ⟨fuel - 1, by omega⟩
    obtain ⟨Ro1, Kn1, Ne1, Se1, Va1, La1, e1, hc1, hk1, hm1⟩ := ro_all (N := N) (Ne := Ne) (Se := Se) (Va := Va) (La := La) m hc hx hL (show n ≤ L by omega)
    rw [f_M_late_52.eq_2, if_neg (nI_nlt (by omega) (by omega)), e1, fn_s7, nI_1]
    obtain ⟨Ro2, Kn2, Ne2, Se2, Va2, La2, e2, hc2, hm2, hk2⟩ := ih fuel (n + 1) Ro1 Ne1 Kn1 Se1 Va1 La1 (by omega) (by omega) hc1
    refine ⟨_, _, _, _, _, _, e2, hc2, fun j hj => hm2 j (hm1 j hj), fun n' h1 h2 => ?_⟩
    by_cases e : n' = n
    · rw [e]; exact hm2 _ hk1
    · exact hk2 n' (by omega) h2
theorem la_40 {N : Nat} {ml : List lr_E} {qs : List mQ} {S Q v2 v3 v4 v5 : Int32} {Wh Tr Co Wi Pc It : Nat → Int32} {L n : Nat} (m : MC N ml qs S Q Wh Tr Co Wi Pc It) (hL : L < 62) (hn : n ≤ L) :
    ∀ (k fuel q : Nat) (Ro Ne : Nat → Int64) (Kn Se Va La : Nat → Int32), q + k = qs.length → k < fuel → ca (lm_best ml) qs L Ro Kn →
    ∃ Ro' Kn' Ne' Se' Va' La', f_M_late_40 N (nI L) Q Wi Pc It (nI n) v2 v3 v4 v5 fuel S Wh Tr Co Ro Kn Ne Se Va La (nI q) = f_M_late_82 N (nI L) Q Wi Pc It S Wh Tr Co Ro' Kn' Ne' Se' Va' La' (nI n) v2 v3 v4 v5 ∧ ca (lm_best ml) qs L Ro' Kn' ∧ (∀ j, ¬ Kn j = 0 → ¬ Kn' j = 0) ∧ ∀ q', q ≤ q' → q' < qs.length → ∀ n', n ≤ n' → n' ≤ L → ¬ Kn' (62 * q' + n') = 0 := by
  intro k
  have h12 := m.qr.2.1
  have hQ := m.qr.1
  have hN := m.hN
  induction k with
  | zero =>
    intro fuel q Ro Ne Kn Se Va La hq hf hc
    obtain ⟨fuel, rfl⟩ : ∃ m, fuel = m + 1 := ⟨fuel - 1, by omega⟩
    rw [f_M_late_40.eq_2, if_pos (by rw [hQ]; exact nI_le (by omega) (by omega))]
    exact ⟨_, _, _, _, _, _, rfl, hc, fun j hj => hj, fun q' h1 h2 => by omega⟩
  | succ k ih =>
    intro fuel q Ro Ne Kn Se Va La hq hf hc
    obtain ⟨fuel, rfl⟩ : ∃ m, fuel = m + 1 := ⟨fuel - 1, by omega⟩
    have hx : qs[q]? = some qs[q] := List.getElem?_eq_getElem (by omega)
    rw [f_M_late_40.eq_2, if_neg (by rw [hQ]; exact nI_ge (by omega) (by omega))]
    obtain ⟨Ro1, Kn1, Ne1, Se1, Va1, La1, e1, hc1, hm1, hk1⟩ := la_52 (N := N) (v1 := nI n) (v2 := v2) (v3 := v3) (v4 := v4) (v5 := v5) m hx hL (r := f_M_late_40 N (nI L) Q Wi Pc It (nI n) v2 v3 v4 v5 fuel) (L + 1 - n) N n Ro Ne Kn Se Va La (by omega) (by omega) hc
    rw [e1]
    obtain ⟨Ro2, Kn2, Ne2, Se2, Va2, La2, e2, hc2, hm2, hk2⟩ := ih fuel (q + 1) Ro1 Ne1 Kn1 Se1 Va1 La1 (by omega) (by omega) hc1
    refine ⟨_, _, _, _, _, _, e2, hc2, fun j hj => hm2 j (hm1 j hj), fun q' h1 h2 n' h3 h4 => ?_⟩
    by_cases e : q' = q
    · rw [e]; exact hm2 _ (hk1 n' h3 h4)
    · exact hk2 q' (by omega) h2 n' h3 h4
/-- rows kept, those of D of the later log, the others of the earlier -/
def cd (E E' : Nat → Nat → Option lr_E) (D : Nat → Nat → Prop) (qs : List mQ) (L : Nat) (Ro : Nat → Int64) (Kn : Nat → Int32) : Prop := ∀ q x n, qs[q]? = some x → n < 62 → ¬ Kn (62 * q + n) = 0 → n ≤ L ∧ (D q n → ∀ w, w < 1024 → Ro (1024 * (62 * q + n) + w) = mW (qB E' x n) w) ∧ (¬ D q n → ∀ w, w < 1024 → Ro (1024 * (62 * q + n) + w) = mW (qB E x n) w)
theorem cd_to {E E' : Nat → Nat → Option lr_E} {D D' : Nat → Nat → Prop} {qs : List mQ} {L : Nat} {Ro : Nat → Int64} {Kn : Nat → Int32} (h : cd E E' D qs L Ro Kn) (he : ∀ q n, q < qs.length → n ≤ L → (D q n ↔ D' q n)) : cd E E' D' qs L Ro Kn := fun q x n hx hn hk => by
  obtain ⟨h1, h2, h3⟩ := h q x n hx hn hk
  have := he q n (List.getElem?_eq_some_iff.mp hx).1 h1
  exact ⟨h1, fun z => h2 (this.mpr z), fun z => h3 (fun y => z (this.mp y))⟩
def lc (E E' : Nat → Nat → Option lr_E) (qs : List mQ) (n : Nat) : Bool := qs.any (fun x => df (qB E x n) (qB E' x n))
theorem la_117 {N : Nat} {E : Nat → Nat → Option lr_E} {ml : List lr_E} {qs : List mQ} {S Q v6 : Int32} {Wh Tr Co Wi Pc It Kn : Nat → Int32} {L n n0 : Nat} (m : MC N ml qs S Q Wh Tr Co Wi Pc It) (hL : L < 62) (hn0 : n0 ≤ n) (hn : n ≤ L) (hk : ∀ q', q' < qs.length → ∀ n', n0 ≤ n' → n' ≤ L → ¬ Kn (62 * q' + n') = 0) {r : Int32 → (Nat → Int32) → (Nat → Int32) → (Nat → Int32) → (Nat → Int64) → (Nat → Int32) → (Nat → Int64) → (Nat → Int32) → (Nat → Int32) → (Nat → Int32) → Int32 → Int32 → Option mR11} :
    ∀ (k fuel q : Nat) (Ro Ne : Nat → Int64) (Se Va La : Nat → Int32) (b : Bool), q + k = qs.length → k < fuel → cd E (lm_best ml) (fun q' n' => n' < n ∨ (n' = n ∧ q' < q)) qs L Ro Kn → (b = true ↔ ∃ j x, j < q ∧ qs[j]? = some x ∧ df (qB E x n) (qB (lm_best ml) x n) = true) →
    ∃ Ro' Ne' Se' Va' La', f_M_late_117 N (nI L) Q Wi Pc It r v6 (nI n) fuel S Wh Tr Co Ro Kn Ne Se Va La (pu_b b) (nI q) = r S Wh Tr Co Ro' Kn Ne' Se' Va' La' (v6 + nI (if lc E (lm_best ml) qs n = true then 1 else 0)) (nI (n + 1)) ∧ cd E (lm_best ml) (fun _ n' => n' < n + 1) qs L Ro' Kn := by
  intro k
  have h12 := m.qr.2.1
  have hQ := m.qr.1
  induction k with
  | zero =>
    intro fuel q Ro Ne Se Va La b hq hf hc hb
    obtain ⟨fuel, rfl⟩ : ∃ m, fuel = m + 1 := ⟨fuel - 1, by omega⟩
    have hbb : lc E (lm_best ml) qs n = b := by
      rw [Bool.eq_iff_iff, hb]
      unfold lc
      rw [List.any_eq_true]
      constructor
      · rintro ⟨x, hx, h⟩
        obtain ⟨j, hj⟩ := List.getElem?_of_mem hx
        exact ⟨j, x, by have := (List.getElem?_eq_some_iff.mp hj).1; omega, hj, h⟩
      · rintro ⟨j, x, _, hj, h⟩
        exact ⟨x, List.mem_of_getElem? hj, h⟩
    rw [f_M_late_117.eq_2, if_pos (by rw [hQ]; exact nI_le (by omega) (by omega)), nI_1, hbb]
    refine ⟨Ro, Ne, Se, Va, La, ?_, cd_to hc (fun q' n' h1 h2 => by omega)⟩
    cases b
    · rw [if_pos (by rfl)]; rfl
    · rw [if_neg pu_b1]; rfl
  | succ k ih =>
    intro fuel q Ro Ne Se Va La b hq hf hc hb
    obtain ⟨fuel, rfl⟩ : ∃ m, fuel = m + 1 := ⟨fuel - 1, by omega⟩
    have hx : qs[q]? = some qs[q] := List.getElem?_eq_getElem (by omega)
    have hR := (hc q _ n hx (by omega) (hk q (by omega) n hn0 hn)).2.2 (by omega)
    obtain ⟨Ro1, Ne1, Se1, Va1, La1, e1, h1, h2⟩ := an_all (N := N) (Ne := Ne) (Se := Se) (Va := Va) (La := La) m hx (show n < 62 by omega) hR
    have hc1 : cd E (lm_best ml) (fun q' n' => n' < n ∨ (n' = n ∧ q' < q + 1)) qs L Ro1 Kn := fun q' x' n' hx' hn' hk' => by
      obtain ⟨a1, a2, a3⟩ := hc q' x' n' hx' hn' hk'
      by_cases ea : 62 * q' + n' = 62 * q + n
      · have eq : q' = q := by have := m.lt hx'; omega
        have en : n' = n := by omega
        subst eq en
        rw [hx] at hx'
        cases hx'
        exact ⟨a1, fun _ => h1, fun z => absurd (Or.inr ⟨rfl, by omega⟩) z⟩
      · refine ⟨a1, fun z w hw => ?_, fun z w hw => ?_⟩
        · rw [h2 _ (by omega)]
          exact a2 (by omega) w hw
        · rw [h2 _ (by omega)]
          exact a3 (by omega) w hw
    have go : ∀ b' : Bool, (b' = true ↔ ∃ j x, j < q + 1 ∧ qs[j]? = some x ∧ df (qB E x n) (qB (lm_best ml) x n) = true) → ∃ Ro' Ne' Se' Va' La', f_M_late_117 N (nI L) Q Wi Pc It r v6 (nI n) fuel S Wh Tr Co Ro1 Kn Ne1 Se1 Va1 La1 (pu_b b') (nI (q + 1)) = r S Wh Tr Co Ro' Kn Ne' Se' Va' La' (v6 + nI (if lc E (lm_best ml) qs n = true then 1 else 0)) (nI (n + 1)) ∧ cd E (lm_best ml) (fun _ n' => n' < n + 1) qs L Ro' Kn := fun b' hb' => ih fuel (q + 1) Ro1 Ne1 Se1 Va1 La1 b' (by omega) (by omega) hc1 hb'
    rw [f_M_late_117.eq_2, if_neg (by rw [hQ]; exact nI_ge (by omega) (by omega)), e1, fn_s6, nI_1]
    cases hd : df (qB E qs[q] n) (qB (lm_best ml) qs[q] n) with
    | false =>
      rw [if_pos (by rfl)]
      have hb2 : b = true ↔ ∃ j x, j < q + 1 ∧ qs[j]? = some x ∧ df (qB E x n) (qB (lm_best ml) x n) = true := by
        rw [hb]
        constructor
        · rintro ⟨j, x, h1, h2, h3⟩; exact ⟨j, x, by omega, h2, h3⟩
        · rintro ⟨j, x, g1, g2, g3⟩
          by_cases e : j = q
          · subst e
            rw [hx] at g2
            cases g2
            rw [hd] at g3; cases g3
          · exact ⟨j, x, by omega, g2, g3⟩
      cases b
      · rw [if_pos (by rfl)]; exact go false hb2
      · rw [if_neg pu_b1]; exact go true hb2
    | true =>
      rw [if_neg pu_b1]
      exact go true ⟨fun _ => ⟨q, _, by omega, hx, hd⟩, fun _ => rfl⟩
def cn (P : Nat → Bool) : Nat → Nat → Nat
  | _, 0 => 0
  | a, k + 1 => (if P a = true then 1 else 0) + cn P (a + 1) k
theorem la_102 {N : Nat} {E : Nat → Nat → Option lr_E} {ml : List lr_E} {qs : List mQ} {S Q : Int32} {Wh Tr Co Wi Pc It Kn : Nat → Int32} {L n0 : Nat} (m : MC N ml qs S Q Wh Tr Co Wi Pc It) (hL : L < 62) (hk : ∀ q', q' < qs.length → ∀ n', n0 ≤ n' → n' ≤ L → ¬ Kn (62 * q' + n') = 0) :
    ∀ (k fuel n v : Nat) (Ro Ne : Nat → Int64) (Se Va La : Nat → Int32), n + k = L + 1 → k < fuel → n0 ≤ n → cd E (lm_best ml) (fun _ n' => n' < n) qs L Ro Kn →
    ∃ Ro' Ne' Se' Va' La', f_M_late_102 N (nI L) Q Wi Pc It fuel S Wh Tr Co Ro Kn Ne Se Va La (nI v) (nI n) = some (nI (v + cn (lc E (lm_best ml) qs) n k), S, Wh, Tr, Co, Ro', Kn, Ne', Se', Va', La') ∧ ca (lm_best ml) qs L Ro' Kn := by
  intro k
  have hN := m.hN
  have h12 := m.qr.2.1
  induction k with
  | zero =>
    intro fuel n v Ro Ne Se Va La hn hf h0 hc
    obtain ⟨fuel, rfl⟩ : ∃ m, fuel = m + 1 := ⟨fuel - 1, by omega⟩
    rw [f_M_late_102.eq_2, if_pos (nI_lt (by omega) (by omega))]
    refine ⟨_, _, _, _, _, rfl, fun q x n' hx hn' hk' => ?_⟩
    obtain ⟨h1, h2, h3⟩ := hc q x n' hx hn' hk'
    exact ⟨h1, h2 (by omega)⟩
  | succ k ih =>
    intro fuel n v Ro Ne Se Va La hn hf h0 hc
    obtain ⟨fuel, rfl⟩ : ∃ m, fuel = m + 1 := ⟨fuel - 1, by omega⟩
    rw [f_M_late_102.eq_2, if_neg (nI_nlt (by omega) (by omega))]
    obtain ⟨Ro1, Ne1, Se1, Va1, La1, e1, hc1⟩ := la_117 (N := N) (E := E) (v6 := nI v) m hL h0 (show n ≤ L by omega) hk (r := f_M_late_102 N (nI L) Q Wi Pc It fuel) qs.length N 0 Ro Ne Se Va La false (by omega) (by omega) (cd_to hc (fun q n' _ _ => by omega)) ⟨(fun z => by cases z), fun ⟨j, x, h, _⟩ => by omega⟩
    rw [show f_M_late_117 N (nI L) Q Wi Pc It (f_M_late_102 N (nI L) Q Wi Pc It fuel) (nI v) (nI n) N S Wh Tr Co Ro Kn Ne Se Va La 0 0 = _ from e1, nI_add]
    obtain ⟨Ro2, Ne2, Se2, Va2, La2, e2, hc2⟩ := ih fuel (n + 1) (v + (if lc E (lm_best ml) qs n = true then 1 else 0)) Ro1 Ne1 Se1 Va1 La1 (by omega) (by omega) (by omega) hc1
    refine ⟨Ro2, Ne2, Se2, Va2, La2, ?_, hc2⟩
    rw [e2, cn, Nat.add_assoc]
theorem lm_best_early {ml : List lr_E} {z : lr_E} {n : Nat} (h : n < z.1) : lm_best (ml ++ [z]) n = lm_best ml n := by
  funext t
  rw [lm_best_snoc]
  unfold lm_step
  rw [if_neg]
  rintro ⟨h1, _⟩
  unfold lr_f at h1
  simp at h1
  omega
theorem lr_ok_snoc {ml : List lr_E} {n t : Nat} {c : Bool} (ok : lr_ok ml) (hl : ml.length < 400) (hn : n < 62) (ht : t < 2048) : lr_ok (ml ++ [(n, t, c)]) := by
  refine ⟨by rw [List.length_append]; simp; omega, fun x hx => ?_⟩
  rcases List.mem_append.mp hx with r | r
  · exact ok.2 x r
  · rw [List.mem_singleton.mp r]; exact ⟨hn, ht⟩
theorem la_all {N : Nat} {ml : List lr_E} {qs : List mQ} {S Q : Int32} {Wh Tr Co Wi Pc It Kn Se Va La : Nat → Int32} {Ro Ne : Nat → Int64} {L n s p o : Nat} {c : Bool} (m : MC N ml qs S Q Wh Tr Co Wi Pc It) (hL : L < 62) (hn : n < L) (hc : ca (lm_best ml) qs L Ro Kn) (hl : ml.length < 400) (ht : 128 * s + 16 * p + o < 2048) :
    ∃ S' Wh' Tr' Co' Ro' Kn' Ne' Se' Va' La', f_M_late_40 N (nI L) Q Wi Pc It (nI n) (nI s) (nI p) (nI o) (pu_b c) N S Wh Tr Co Ro Kn Ne Se Va La 0 = some (nI (cn (lc (lm_best ml) (lm_best (ml ++ [(n, 128 * s + 16 * p + o, c)])) qs) n (L + 1 - n)), S', Wh', Tr', Co', Ro', Kn', Ne', Se', Va', La') ∧ MC N (ml ++ [(n, 128 * s + 16 * p + o, c)]) qs S' Q Wh' Tr' Co' Wi Pc It ∧ ca (lm_best (ml ++ [(n, 128 * s + 16 * p + o, c)])) qs L Ro' Kn' := by
  have hN := m.hN
  have h12 := m.qr.2.1
  obtain ⟨Ro1, Kn1, Ne1, Se1, Va1, La1, e1, hc1, _, hk1⟩ := la_40 (N := N) (v2 := nI s) (v3 := nI p) (v4 := nI o) (v5 := pu_b c) m hL (show n ≤ L by omega) qs.length N 0 Ro Ne Kn Se Va La (by omega) (by omega) hc
  rw [show (0 : Int32) = nI 0 from rfl, e1]
  obtain ⟨Wh2, Tr2, Co2, e2, h2⟩ := lm_say (n := n) (t := 128 * s + 16 * p + o) (c := c) m.rep hl
  unfold f_M_late_82
  rw [mq_triple, fn_s1, e2, fn_s4]
  have m2 : MC N (ml ++ [(n, 128 * s + 16 * p + o, c)]) qs (nI (ml.length + 1)) Q Wh2 Tr2 Co2 Wi Pc It := ⟨hN, h2, lr_ok_snoc m.ok hl (by omega) ht, m.qr⟩
  have hcd : cd (lm_best ml) (lm_best (ml ++ [(n, 128 * s + 16 * p + o, c)])) (fun _ n' => n' < n) qs L Ro1 Kn1 := fun q x n' hx hn' hk => by
    obtain ⟨a1, a2⟩ := hc1 q x n' hx hn' hk
    refine ⟨a1, fun z w hw => ?_, fun _ => a2⟩
    rw [a2 w hw]
    unfold qB
    rw [lm_best_early z]
  obtain ⟨Ro3, Ne3, Se3, Va3, La3, e3, hc3⟩ := la_102 (N := N) (E := lm_best ml) m2 hL (fun q' h' => hk1 q' (by omega) h') (L + 1 - n) N n 0 Ro1 Ne1 Se1 Va1 La1 (by omega) (by omega) (Nat.le_refl _) hcd
  rw [show (0 : Int32) = nI 0 from rfl, e3, Nat.zero_add]
  exact ⟨_, _, _, _, _, _, _, _, _, _, rfl, m2, hc3⟩

/-! PURE ROWS 11: run, fill: the rows of a question at a number -/
theorem fd_nil {S : Int32} {f : Nat → Int32} (h : S = 0) : fd_rep [] S f := ⟨h, fun j w hj => by cases hj⟩
theorem fm_congr {α β : Type} {l : List α} {f g : α → List β} (h : ∀ x ∈ l, f x = g x) : l.flatMap f = l.flatMap g := by
  rw [List.flatMap_def, List.flatMap_def, List.map_congr_left h]
theorem wd_congr {B B' : Nat → Bool} (h : ∀ k, k < 65536 → B k = B' k) : wd B = wd B' := by
  unfold wd
  refine fm_congr (fun g hg => ?_)
  rw [List.mem_range] at hg
  have e : bm (fun u => B (16 * g + u)) 16 = bm (fun u => B' (16 * g + u)) 16 := bm_congr (fun u hu => h _ (by omega))
  rw [w1, w1, e]
theorem wd_len (B : Nat → Bool) : (wd B).length ≤ 4096 := by
  have : ∀ n, ((List.range n).flatMap (w1 B)).length ≤ n := by
    intro n
    induction n with
    | zero => simp
    | succ n ih =>
      rw [List.range_succ, List.flatMap_append, List.length_append]
      have : (List.flatMap (w1 B) [n]).length ≤ 1 := by
        simp only [List.flatMap_cons, List.flatMap_nil, List.append_nil, w1]
        split <;> simp
      omega
  exact this 4096
theorem wd_none {B : Nat → Bool} (h : ∀ k, k < 65536 → B k = false) : wd B = [] := by
  unfold wd
  rw [List.flatMap_eq_nil_iff]
  intro g hg
  rw [List.mem_range] at hg
  rw [w1, if_pos]
  exact bm_zero.mpr (fun u hu => h _ (by omega))
theorem rO_box {sn : Nat → Bool} {op : Nat → Nat} {ps : List it_P} {k : Nat} : rO sn op ps k = true ↔ op_box op (dg k) ∧ ∀ x ∈ ps, pm sn (dg k) x = true := rO_iff
theorem run_2 {sn : Nat → Bool} {ps : List it_P} {sf I L : Nat → Int32} {N M : Nat} {P V : Int32} (hN : 5000 ≤ N) (hse : se_rep sn sf) (hq : qu_rep ps P V I L) (ok : qu_ok ps) (hM : M ≤ 4096) (op0 : Nat → Nat) :
    ∀ (n fuel k : Nat) (op : Nat → Nat) (of vf : Nat → Int32) (S : Int32) (f : Nat → Int32), k + n = ps.length → n < fuel → op_rep op of → S = 0 →
    (∀ v, op_box op v → op_box op0 v) → (∀ v, op_box op0 v → (∀ x ∈ ps, pm sn v x = true) → op_box op v) → (∀ x ∈ ps.take k, (∀ i, i < 4 → it_has i x = false) → ∀ v, pm sn v x = true) →
    ∃ of' vf' S' f', f_Sr_run_2 N sf M P I L fuel of vf S f (nI k) = some (of', vf', S', f') ∧ fd_rep ((wd (rO sn op0 ps)).take M) S' f' := by
  intro n
  have h3 := ok.1
  induction n with
  | zero =>
    intro fuel k op of vf S f hk hf hr hS h1 h2 hcon
    obtain ⟨fuel, rfl⟩ : ∃ m, fuel = m + 1 := ⟨fuel - 1, by omega⟩
    rw [f_Sr_run_2.eq_2, if_pos (by rw [hq.1]; exact nI_le (by omega) (by omega))]
    rw [show k = ps.length by omega, List.take_length] at hcon
    obtain ⟨vf1, S1, f1, e1, r1, d1⟩ := ex_all (N := N) (M := M) hN hse hr hq ok hM 3 5 (by decide) (by decide) (fun _ => 0) 0 [] vf S f (fun j hj => by omega) (by decide) (fun j hj => by omega) (fd_nil hS) (Nat.zero_le _)
    have e1' : f_Sr_extend N sf of M P I L 5 vf S f 0 0 = some (vf1, S1, f1) := e1
    rw [e1', fn_s3]
    refine ⟨of, vf1, S1, f1, rfl, ?_⟩
    rw [List.nil_append, ex_top (fun i hi => (hr i hi).1) ok hcon] at d1
    have : wd (rO sn op ps) = wd (rO sn op0 ps) := wd_congr (fun k _ => by
      rw [Bool.eq_iff_iff, rO_box, rO_box]
      exact ⟨fun q => ⟨h1 _ q.1, q.2⟩, fun q => ⟨h2 _ q.1 q.2, q.2⟩⟩)
    rw [← this]
    exact d1
  | succ n ih =>
    intro fuel k op of vf S f hk hf hr hS h1 h2 hcon
    obtain ⟨fuel, rfl⟩ : ∃ m, fuel = m + 1 := ⟨fuel - 1, by omega⟩
    have hkl : k < ps.length := by omega
    have hx : ps[k]? = some ps[k] := List.getElem?_eq_getElem hkl
    obtain ⟨i1, i2, i3, i4⟩ := hq.2.2 k _ hx
    have hmem : ps[k] ∈ ps := List.getElem_mem _
    have hok := ok.2 ps[k] hmem
    have e0 : f_Qu_itemAt I (nI k) 0 = some (it_I ps[k].1) := (qu_itemAt (j := 0) (by omega) (by decide)).trans (by rw [Nat.add_zero, i1])
    have e1 : f_Qu_itemAt I (nI k) 1 = some (it_I ps[k].2.1) := (qu_itemAt (j := 1) (by omega) (by decide)).trans (by rw [i2])
    have e2 : f_Qu_itemAt I (nI k) 2 = some (it_I ps[k].2.2) := (qu_itemAt (j := 2) (by omega) (by decide)).trans (by rw [i3])
    rw [f_Sr_run_2.eq_2, if_neg (by rw [hq.1]; exact nI_ge hkl (by omega)), e0, fn_s1, e1, fn_s1, e2, fn_s1]
    obtain ⟨b, op', of', e3, r3, a1, a2, a3⟩ := nw_all (N := N) hN hse hr hok
    rw [e3, fn_s2]
    cases b with
    | false =>
      rw [if_pos (by rfl)]
      refine ⟨of', vf, S, f, rfl, ?_⟩
      have : wd (rO sn op0 ps) = [] := wd_none (fun k _ => by
        cases hro : rO sn op0 ps k with
        | false => rfl
        | true =>
          obtain ⟨b1, b2⟩ := rO_box.mp hro
          have := (a2 _ (h2 _ b1 b2) (b2 _ hmem)).1
          cases this)
      rw [this, List.take_nil]
      exact fd_nil hS
    | true =>
      rw [if_neg pu_b1, nI_1]
      refine ih fuel (k + 1) op' of' vf S f (by omega) (by omega) r3 hS (fun v hv => h1 v (a1 v hv)) (fun v hv hall => (a2 v (h2 v hv hall) (hall _ hmem)).2) (fun x hxm hno v => ?_)
      rw [List.take_succ, hx, List.mem_append] at hxm
      rcases hxm with q | q
      · exact hcon x q hno v
      · simp only [Option.toList_some, List.mem_singleton] at q
        subst q
        exact a3 rfl hno v
theorem run_all {sn : Nat → Bool} {ps : List it_P} {sf I L : Nat → Int32} {N M : Nat} {P V : Int32} {op : Nat → Nat} {of vf f : Nat → Int32} {S : Int32} (hN : 5000 ≤ N) (hse : se_rep sn sf) (hq : qu_rep ps P V I L) (ok : qu_ok ps) (hM : M ≤ 4096) (hr : op_rep op of) (hS : S = 0) :
    ∃ of' vf' S' f', f_Sr_run N sf of vf S M f P I L = some (of', vf', S', f') ∧ fd_rep ((wd (rO sn op ps)).take M) S' f' :=
  run_2 hN hse hq ok hM op ps.length N 0 op of vf S f (by omega) (by have := ok.1; omega) hr hS (fun _ h => h) (fun _ h _ => h) (fun x hx => by simp at hx)
/-- the rows of a question -/
def rB (sn : Nat → Bool) (ps : List it_P) : Nat → Bool := rO sn (fun j => if it_sd ps j = true then 65535 else 1) ps
/-- a question in the class: its window, its patterns -/
def qc_rep (w : Nat) (ps : List it_P) (W P V : Int32) (I L : Nat → Int32) : Prop := W = nI w ∧ w ≤ 62 ∧ qu_rep ps P V I L ∧ qu_ok ps
theorem fill_all {l : List lr_E} {lS : Int32} {lA lT lC : Nat → Int32} {w n N M : Nat} {ps : List it_P} {W P V S : Int32} {I L sf of vf f : Nat → Int32} (hN : 5000 ≤ N) (h : lr_rep l lS lA lT lC) (ok : lr_ok l) (hs : lr_srt l) (hq : qc_rep w ps W P V I L) (hn : n < 62) (hM : M ≤ 4096) :
    ∃ sf' of' vf' S' f', f_C_fill N lS lA lT lC sf of vf S M f W P V I L (nI n) = some (sf', of', vf', S', f') ∧ fd_rep ((wd (rB (fun t => lr_sv (lr_last l n t) n w) ps)).take M) S' f' := by
  obtain ⟨hw, hw2, hq1, hq2⟩ := hq
  unfold f_C_fill f_Rs_clear
  obtain ⟨sf1, e1, r1⟩ := se_read h ok hs hn hw2 hN sf
  obtain ⟨of1, e2, r2⟩ := op_begin (g := it_sd ps) hN of
  obtain ⟨of2, vf2, S2, f2, e3, r3⟩ := run_all (N := N) (M := M) (vf := vf) (f := f) (S := 0) hN r1 hq1 hq2 hM r2 rfl
  rw [fn_s1, hw, e1, fn_s1, hq1.2.1, e2, fn_s1]
  rw [e3, fn_s4]
  exact ⟨_, _, _, _, _, rfl, r3⟩

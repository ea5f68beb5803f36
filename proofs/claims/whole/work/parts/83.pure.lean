/-! EVERY CALL LEAVES A STATE THAT IS ONE -/
theorem sj_wf.row {σ : sj_S} (h : sj_wf σ) {k n : Nat} {f : Nat → Int64} (hn : n ≤ 32) (hf : ∀ j, j < n → sj_inK (k / 4) (f j)) : sj_wf (sj_setR σ k n f) := by
  refine ⟨fun i hi => ?_, h.2.1, h.2.2⟩
  by_cases c : i = k
  · subst c
    have e1 : sj_n (sj_setR σ i n f) i = n := if_pos rfl
    have e2 : sj_x (sj_setR σ i n f) i = f := if_pos rfl
    rw [e1, e2]
    exact ⟨hn, hf⟩
  · have e1 : sj_n (sj_setR σ k n f) i = sj_n σ i := if_neg c
    have e2 : sj_x (sj_setR σ k n f) i = sj_x σ i := if_neg c
    rw [e1, e2]
    exact h.1 i hi
theorem sj_wf.spa {σ : sj_S} (h : sj_wf σ) {k r f t : Nat} (hr : r < 4) (hf : f ≤ t) (ht : t ≤ 32) : sj_wf (sj_setP σ k r f t) := by
  refine ⟨h.1, fun i hi => ?_, h.2.2⟩
  by_cases c : i = k
  · subst c
    have e1 : sj_pr (sj_setP σ i r f t) i = r := if_pos rfl
    have e2 : sj_pf (sj_setP σ i r f t) i = f := if_pos rfl
    have e3 : sj_pt (sj_setP σ i r f t) i = t := if_pos rfl
    rw [e1, e2, e3]
    exact ⟨hr, hf, ht⟩
  · have e1 : sj_pr (sj_setP σ k r f t) i = sj_pr σ i := if_neg c
    have e2 : sj_pf (sj_setP σ k r f t) i = sj_pf σ i := if_neg c
    have e3 : sj_pt (sj_setP σ k r f t) i = sj_pt σ i := if_neg c
    rw [e1, e2, e3]
    exact h.2.1 i hi
theorem sj_kr {k r : Nat} (hr : r < 4) : (k * 4 + r) / 4 = k := by omega
theorem sj_kr16 {a x : Int32} {k r : Nat} (hk : sj_kd a = some k) (hr : sj_ix 4 x = some r) : k * 4 + r < 16 ∧ (k * 4 + r) / 4 = k := by
  have h1 := sj_kd_lt hk
  have h2 := (sj_ix_some hr).2
  omega
theorem wf_append {σ : sj_S} (h : sj_wf σ) {a1 a2 : Int32} {x : Int64} : sj_wf (ab_append σ a1 a2 x).2.2 := by
  unfold ab_append
  cases hk : sj_kd a1 with
  | none => exact h
  | some k =>
    by_cases hx : sj_inK k x
    · cases hr : sj_ix 4 a2 with
      | none => simp only [if_pos hx]; exact h
      | some r =>
        obtain ⟨k1, k2⟩ := sj_kr16 hk hr
        simp only [if_pos hx]
        by_cases c : sj_n σ (k * 4 + r) < 32
        · rw [if_pos c]
          refine h.row (by omega) (fun j hj => ?_)
          rw [k2]
          by_cases e : j = sj_n σ (k * 4 + r)
          · rw [if_pos e]; exact hx
          · rw [if_neg e]
            have := (h.1 _ k1).2 j (by omega)
            rw [k2] at this
            exact this
        · rw [if_neg c]; exact h
    · simp only [if_neg hx]; exact h
theorem wf_set {σ : sj_S} (h : sj_wf σ) {a1 a2 a3 : Int32} {x : Int64} : sj_wf (ab_set σ a1 a2 a3 x).2.2 := by
  unfold ab_set
  cases hk : sj_kd a1 with
  | none => exact h
  | some k =>
    by_cases hx : sj_inK k x
    · cases hr : sj_ix 4 a2 with
      | none => simp only [if_pos hx]; exact h
      | some r =>
        obtain ⟨k1, k2⟩ := sj_kr16 hk hr
        cases hp : sj_ix (sj_n σ (k * 4 + r)) a3 with
        | none => simp only [if_pos hx, hp]; exact h
        | some p =>
          simp only [if_pos hx, hp]
          refine h.row (h.1 _ k1).1 (fun j hj => ?_)
          rw [k2]
          by_cases e : j = p
          · rw [if_pos e]; exact hx
          · rw [if_neg e]
            have := (h.1 _ k1).2 j hj
            rw [k2] at this
            exact this
    · simp only [if_neg hx]; exact h
theorem wf_clear {σ : sj_S} (h : sj_wf σ) {a1 a2 : Int32} : sj_wf (ab_clear σ a1 a2).2.2 := by
  unfold ab_clear
  cases hk : sj_kd a1 with
  | none => exact h
  | some k =>
    cases hr : sj_ix 4 a2 with
    | none => exact h
    | some r => exact h.row (Nat.zero_le _) (fun j hj => absurd hj (Nat.not_lt_zero _))
theorem wf_repeat {σ : sj_S} (h : sj_wf σ) {a1 a2 a3 : Int32} : sj_wf (ab_repeat σ a1 a2 a3).2.2 := by
  unfold ab_repeat
  cases hk : sj_kd a1 with
  | none => exact h
  | some k =>
    by_cases ht : 1 ≤ a3.toInt ∧ a3.toInt ≤ 8
    · cases hr : sj_ix 4 a2 with
      | none => simp only [if_pos ht]; exact h
      | some r =>
        obtain ⟨k1, k2⟩ := sj_kr16 hk hr
        simp only [if_pos ht]
        by_cases c : sj_n σ (k * 4 + r) * a3.toInt.toNat ≤ 32
        · rw [if_pos c]
          refine h.row c (fun j hj => (h.1 _ k1).2 _ (Nat.mod_lt _ ?_))
          rcases Nat.eq_zero_or_pos (sj_n σ (k * 4 + r)) with z | z
          · rw [z, Nat.zero_mul] at hj
            exact absurd hj (Nat.not_lt_zero _)
          · exact z
        · rw [if_neg c]; exact h
    · simp only [if_neg ht]; exact h
theorem wf_reverse {σ : sj_S} (h : sj_wf σ) {a1 a2 : Int32} : sj_wf (ab_reverse σ a1 a2).2.2 := by
  unfold ab_reverse
  cases hk : sj_kd a1 with
  | none => exact h
  | some k =>
    cases hr : sj_ix 4 a2 with
    | none => exact h
    | some r =>
      obtain ⟨k1, k2⟩ := sj_kr16 hk hr
      exact h.row (h.1 _ k1).1 (fun j hj => (h.1 _ k1).2 _ (by omega))
theorem wf_cut {σ : sj_S} (h : sj_wf σ) {a1 a2 a3 a4 : Int32} : sj_wf (ab_cut σ a1 a2 a3 a4).2.2 := by
  unfold ab_cut
  cases hk : sj_kd a1 with
  | none => exact h
  | some k =>
    cases hr : sj_ix 4 a2 with
    | none => exact h
    | some r =>
      obtain ⟨k1, k2⟩ := sj_kr16 hk hr
      have c := (h.1 _ k1).1
      by_cases t : 0 ≤ a3.toInt ∧ a3.toInt ≤ a4.toInt ∧ a4.toInt ≤ sj_n σ (k * 4 + r)
      · simp only [if_pos t]
        exact h.row (by omega) (fun j hj => (h.1 _ k1).2 _ (by omega))
      · simp only [if_neg t]; exact h
theorem wf_convert {σ : sj_S} (h : sj_wf σ) {a1 a2 a3 a4 a5 : Int32} : sj_wf (ab_convert σ a1 a2 a3 a4 a5).2.2 := by
  unfold ab_convert
  cases hk : sj_kd a1 with
  | none => exact h
  | some k =>
    cases hk2 : sj_kd a3 with
    | none => exact h
    | some k2 =>
      by_cases hh : sj_how a5
      · cases hr : sj_ix 4 a2 with
        | none => simp only [if_pos hh]; exact h
        | some r =>
          cases hr2 : sj_ix 4 a4 with
          | none => simp only [if_pos hh]; exact h
          | some r2 =>
            obtain ⟨k1, k3⟩ := sj_kr16 hk hr
            obtain ⟨k4, k5⟩ := sj_kr16 hk2 hr2
            simp only [if_pos hh]
            by_cases c : sj_canAll σ k r a5 k2 = true
            · rw [if_pos c]
              refine h.row (h.1 _ k1).1 (fun j hj => ?_)
              rw [k5]
              exact (of_decide_eq_true (List.all_eq_true.mp c j (List.mem_range.mpr hj))).2
            · rw [if_neg c]; exact h
      · simp only [if_neg hh]; exact h
theorem wf_span {σ : sj_S} (h : sj_wf σ) {a1 a2 a3 a4 : Int32} : sj_wf (ab_span σ a1 a2 a3 a4).2.2 := by
  unfold ab_span
  cases hk : sj_ix 12 a1 with
  | none => exact h
  | some k =>
    cases hr : sj_ix 4 a2 with
    | none => exact h
    | some r =>
      by_cases t : 0 ≤ a3.toInt ∧ a3.toInt ≤ a4.toInt ∧ a4.toInt ≤ 32
      · simp only [if_pos t]
        exact h.spa (sj_ix_some hr).2 (by omega) (by omega)
      · simp only [if_neg t]; exact h
theorem wf_sort {σ : sj_S} (h : sj_wf σ) {a1 a2 : Int32} : sj_wf (ab_sort σ a1 a2).2.2 := by
  unfold ab_sort
  cases hk : sj_kd a1 with
  | none => exact h
  | some k =>
    cases hu : sj_od a2 with
    | none => exact h
    | some u =>
      obtain ⟨lx, hs⟩ := sj_spans_sorted σ k u
      refine h.lst (sj_cnt_le _ _) (fun j hj => ?_)
      rw [(sj_sx_eq hs).2 j hj]
      exact (hs.1 j hj).1
theorem wf_number {σ : sj_S} (h : sj_wf σ) {a1 a2 a3 : Int32} : sj_wf (ab_number σ a1 a2 a3).2.2 := by
  unfold ab_number
  repeat' split
  all_goals exact h
theorem wf_length {σ : sj_S} (h : sj_wf σ) {a1 a2 : Int32} : sj_wf (ab_length σ a1 a2).2.2 := by
  unfold ab_length
  repeat' split
  all_goals exact h
theorem wf_tells {σ : sj_S} (h : sj_wf σ) {a1 a2 : Int32} : sj_wf (ab_tells σ a1 a2).2.2 := by
  unfold ab_tells
  repeat' split
  all_goals exact h
theorem wf_fits {σ : sj_S} (h : sj_wf σ) {a1 a2 : Int32} : sj_wf (ab_fits σ a1 a2).2.2 := by
  unfold ab_fits
  repeat' split
  all_goals exact h
theorem wf_asks {σ : sj_S} (h : sj_wf σ) {a1 a2 a3 a4 : Int32} : sj_wf (ab_asks σ a1 a2 a3 a4).2.2 := by
  unfold ab_asks
  repeat' split
  all_goals exact h
theorem wf_asksRows {σ : sj_S} (h : sj_wf σ) {a1 a2 a3 a4 : Int32} : sj_wf (ab_asksRows σ a1 a2 a3 a4).2.2 := by
  unfold ab_asksRows
  repeat' split
  all_goals exact h
theorem wf_refused {σ : sj_S} (h : sj_wf σ) {a1 a2 a3 a4 a5 : Int32} : sj_wf (ab_refused σ a1 a2 a3 a4 a5).2.2 := by
  unfold ab_refused
  repeat' split
  all_goals exact h
theorem wf_common {σ : sj_S} (h : sj_wf σ) {a1 a2 a3 : Int32} : sj_wf (ab_common σ a1 a2 a3).2.2 := by
  unfold ab_common
  repeat' split
  all_goals exact h
theorem wf_sorted {σ : sj_S} (h : sj_wf σ) {a1 : Int32} : sj_wf (ab_sorted σ a1).2.2 := by
  unfold ab_sorted
  repeat' split
  all_goals exact h
theorem wf_rank {σ : sj_S} (h : sj_wf σ) {a1 a2 a3 : Int32} : sj_wf (ab_rank σ a1 a2 a3).2.2 := by
  unfold ab_rank
  repeat' split
  all_goals exact h
theorem wf_isPeriod {σ : sj_S} (h : sj_wf σ) {a1 a2 a3 : Int32} : sj_wf (ab_isPeriod σ a1 a2 a3).2.2 := by
  unfold ab_isPeriod
  repeat' split
  all_goals exact h
theorem wf_period {σ : sj_S} (h : sj_wf σ) {a1 a2 : Int32} : sj_wf (ab_period σ a1 a2).2.2 := by
  unfold ab_period
  repeat' split
  all_goals exact h
theorem wf_root {σ : sj_S} (h : sj_wf σ) {a1 a2 : Int32} : sj_wf (ab_root σ a1 a2).2.2 := by
  unfold ab_root
  repeat' split
  all_goals exact h
theorem wf_rotation {σ : sj_S} (h : sj_wf σ) {a1 a2 a3 : Int32} : sj_wf (ab_rotation σ a1 a2 a3).2.2 := by
  unfold ab_rotation
  repeat' split
  all_goals exact h
theorem wf_occurs {σ : sj_S} (h : sj_wf σ) {a1 a2 a3 : Int32} : sj_wf (ab_occurs σ a1 a2 a3).2.2 := by
  unfold ab_occurs
  repeat' split
  all_goals exact h
theorem wf_mean {σ : sj_S} (h : sj_wf σ) {a1 : Int32} : sj_wf (ab_mean σ a1).2.2 := by
  unfold ab_mean
  repeat' split
  all_goals exact h
theorem wf_share {σ : sj_S} (h : sj_wf σ) {a1 : Int32} : sj_wf (ab_share σ a1).2.2 := by
  unfold ab_share
  repeat' split
  all_goals exact h
theorem wf_distinct {σ : sj_S} (h : sj_wf σ) {a1 a2 : Int32} : sj_wf (ab_distinct σ a1 a2).2.2 := by
  unfold ab_distinct
  repeat' split
  all_goals exact h
theorem wf_longest {σ : sj_S} (h : sj_wf σ) {a1 a2 : Int32} : sj_wf (ab_longest σ a1 a2).2.2 := by
  unfold ab_longest
  repeat' split
  all_goals exact h
theorem wf_ending {σ : sj_S} (h : sj_wf σ) {a1 a2 a3 a4 : Int32} : sj_wf (ab_ending σ a1 a2 a3 a4).2.2 := by
  unfold ab_ending
  repeat' split
  all_goals exact h
theorem wf_factors {σ : sj_S} (h : sj_wf σ) {a1 a2 a3 : Int32} : sj_wf (ab_factors σ a1 a2 a3).2.2 := by
  unfold ab_factors
  repeat' split
  all_goals exact h
theorem wf_factor {σ : sj_S} (h : sj_wf σ) {a1 a2 a3 a4 : Int32} : sj_wf (ab_factor σ a1 a2 a3 a4).2.2 := by
  unfold ab_factor
  repeat' split
  all_goals exact h
theorem wf_isTrue {σ : sj_S} (h : sj_wf σ) {a1 a2 a3 a4 : Int32} : sj_wf (ab_isTrue σ a1 a2 a3 a4).2.2 := by
  unfold ab_isTrue
  repeat' split
  all_goals exact h
theorem wf_rowIsTrue {σ : sj_S} (h : sj_wf σ) {a1 a2 a3 : Int32} : sj_wf (ab_rowIsTrue σ a1 a2 a3).2.2 := by
  unfold ab_rowIsTrue
  repeat' split
  all_goals exact h

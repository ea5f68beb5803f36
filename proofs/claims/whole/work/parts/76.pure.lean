/-! the reference: checksum, rotation -/
theorem pm_checksum {La : Nat → Nat} {σ : sj_S} {w : sj_W} (hL : sj_La La) (hM : sj_Mo La σ w) (hw : sj_wf σ) {Q : Int64 → sj_W → Prop} (h : so_pM La w (0, sj_sm σ, σ) id Q) : vc_X7_checksum (La 200) w Q := by
  refine ⟨hM.1.1, fun w1 e1 => ?_⟩
  have cl := hw.2.2.1
  have hf1 : sj_fr (so_XM La) w w1 := by rw [e1]; exact sj_fr.m47 _
  have hM1 : sj_Mo La σ w1 := by rw [e1]; exact hM.w47 hL _
  have h47 : sj_I w1 47 (La 200) = nI 0 := by rw [e1]; exact sj_r47 _ _ _
  clear e1
  have m := hM1.all
  have m46 := m.2.2.2.2.2.2.2.2.2.2.2.2.1
  refine sj_lp2_run (fun v1 v3 w' => w' = w1 ∧ ∃ k, v3 = nI k ∧ k ≤ 16 ∧ v1 = sj_fo (sj_hr σ) k 7) (fun _ v _ => 17 - v.toNatClampNeg) ?_ 64 _ _ _ ⟨rfl, 0, rfl, by omega, rfl⟩ (by omega)
  rintro v1 v3 w' K ⟨rfl, k, rfl, hk, rfl⟩ hK
  unfold vb_X7_checksum_11
  rw [sj_lits 16, sj_leI (by omega) (by omega)]
  refine ⟨fun q => ?_, fun q => ?_⟩
  · have e : k = 16 := by omega
    subst e
    refine sj_lp2_run (fun v1 v3 w'' => w'' = w' ∧ ∃ k, v3 = nI k ∧ k ≤ 12 ∧ v1 = sj_fo (sj_hp σ) k (sj_fo (sj_hr σ) 16 7)) (fun _ v _ => 17 - v.toNatClampNeg) ?_ 64 _ _ _ ⟨rfl, 0, rfl, by omega, rfl⟩ (by omega)
    rintro v1 v3 w'' K ⟨rfl, k, rfl, hk, rfl⟩ hK
    unfold vb_X7_checksum_78
    rw [sj_lits 12, sj_leI (by omega) (by omega)]
    refine ⟨fun q => ?_, fun q => ?_⟩
    · have e : k = 12 := by omega
      subst e
      refine ⟨m.1.1, ?_⟩
      rw [m46]
      refine sj_lp2_run (fun v1 v3 w' => w' = w'' ∧ ∃ k, v3 = nI k ∧ k ≤ sj_ln σ ∧ v1 = sj_fo (sj_hl σ) k (31 * sj_fo (sj_hp σ) 12 (sj_fo (sj_hr σ) 16 7) + (nI (sj_ln σ)).toInt64)) (fun _ v _ => 17 - v.toNatClampNeg) ?_ 64 _ _ _ ⟨rfl, 0, rfl, by omega, rfl⟩ (by omega)
      rintro v1 v3 w' K ⟨rfl, k, rfl, hk, rfl⟩ hK
      unfold vb_X7_checksum_142
      rw [m46, sj_leI (by omega) (by omega)]
      refine ⟨m.1.1, fun q => ?_, fun q => ?_⟩
      · have e : k = sj_ln σ := by omega
        subst e
        exact so_g h hf1 hM1 h47 rfl
      · have hk12 : k < 12 := by omega
        simp (disch := omega) only [ne_eq, and_self, not_false_eq_true, not_true_eq_false, true_and, and_true, true_or, or_true, false_or, or_false, forall_eq, forall_const, true_implies, false_implies, if_true, if_false, sj_lits, sj_addI, sj_mulI, sj_clI, sj_inI, sj_ltI, sj_leI, sj_eqI, sj_lcI, m, hL.nz, hk12]
        refine hK _ _ _ ⟨rfl, k + 1, rfl, by omega, rfl⟩ ?_
        rw [sj_clI (by omega), sj_clI (by omega)]; omega
    · have hk12 : k < 12 := by omega
      simp (disch := omega) only [ne_eq, and_self, not_false_eq_true, not_true_eq_false, true_and, and_true, true_or, or_true, false_or, or_false, forall_eq, forall_const, true_implies, false_implies, if_true, if_false, sj_lits, sj_addI, sj_mulI, sj_clI, sj_inI, sj_ltI, sj_leI, sj_eqI, sj_lcI, m, hL.nz, hk12]
      refine hK _ _ _ ⟨rfl, k + 1, rfl, by omega, rfl⟩ ?_
      rw [sj_clI (by omega), sj_clI (by omega)]; omega
  · have hk16 : k < 16 := by omega
    have c := (hw.1 k hk16).1
    simp (disch := omega) only [ne_eq, and_self, not_false_eq_true, not_true_eq_false, true_and, and_true, true_or, or_true, false_or, or_false, forall_eq, forall_const, true_implies, false_implies, if_true, if_false, sj_lits, sj_addI, sj_mulI, sj_clI, sj_inI, sj_ltI, sj_leI, sj_eqI, sj_lcI, m, hL.nz, hk16]
    refine sj_lp2_run (fun v1 v4 w'' => w'' = w' ∧ ∃ j, v4 = nI j ∧ j ≤ sj_n σ k ∧ v1 = sj_fo (sj_hx σ k) j (31 * sj_fo (sj_hr σ) k 7 + (nI (sj_n σ k)).toInt64)) (fun _ v _ => 40 - v.toNatClampNeg) ?_ 64 _ _ _ ⟨rfl, 0, rfl, by omega, rfl⟩ (by omega)
    rintro v1 v4 w'' K2 ⟨rfl, j, rfl, hj, rfl⟩ hK2
    unfold vb_X7_checksum_34
    simp (disch := omega) only [ne_eq, and_self, not_false_eq_true, not_true_eq_false, true_and, and_true, true_or, or_true, false_or, or_false, forall_eq, forall_const, true_implies, false_implies, if_true, if_false, sj_lits, sj_addI, sj_mulI, sj_clI, sj_inI, sj_ltI, sj_leI, sj_eqI, sj_lcI, m, hL.nz, hk16]
    refine ⟨fun q => ?_, fun q => ?_⟩
    · have e : j = sj_n σ k := by omega
      subst e
      refine hK _ _ _ ⟨rfl, k + 1, by first | rfl | exact sj_s1 _, by omega, rfl⟩ ?_
      first | rw [sj_clI (by omega), sj_clI (by omega)] | rw [sj_s1, sj_clI (by omega), sj_clI (by omega)]
      omega
    · simp (disch := omega) only [m]
      refine ⟨by omega, hK2 _ _ _ ⟨rfl, j + 1, rfl, by omega, rfl⟩ ?_⟩
      rw [sj_clI (by omega), sj_clI (by omega)]; omega
theorem sj_ro_mod {n a s : Nat} {f : Nat → Int64} (ha : a < n) (hs : s < n) : f ((a + s) % n) = sj_ro n f a s := by
  unfold sj_ro
  by_cases c : a + s < n
  · rw [if_pos c, Nat.mod_eq_of_lt c]
  · rw [if_neg c, Nat.mod_eq_sub_mod (by omega), Nat.mod_eq_of_lt (by omega)]
theorem pm_isTurnedLess {La : Nat → Nat} {σ : sj_S} {w : sj_W} (hL : sj_La La) (hM : sj_Mo La σ w) (hw : sj_wf σ) {ac o : Int32} {u : Bool} {k r a b : Nat} (hk : sj_kd ac = some k) (ho : sj_od o = some u) (hr : r < 4) (ha : a < sj_n σ (k * 4 + r)) (hb : b < sj_n σ (k * 4 + r)) {Q : Int32 → sj_W → Prop}
    (h : sj_rotB u (sj_n σ (k * 4 + r)) (sj_x σ (k * 4 + r)) a b = true → Q 1 w) (h0 : sj_rotB u (sj_n σ (k * 4 + r)) (sj_x σ (k * 4 + r)) a b = false → Q 0 w) : vc_X7_isTurnedLess (La 200) ac o (nI r) (nI a) (nI b) w Q := by
  have mm := hM.all
  have hk4 := sj_kd_lt hk
  have hr16 : k * 4 + r < 16 := by omega
  have c := (hw.1 (k * 4 + r) hr16).1
  refine ⟨hM.1.1, pm_size hL hM hk hr ?_⟩
  refine sj_lp1_run (fun v w' => w' = w ∧ ∃ i, v = nI i ∧ i ≤ sj_n σ (k * 4 + r) ∧ ∀ j, j < i → sj_ro (sj_n σ (k * 4 + r)) (sj_x σ (k * 4 + r)) a j = sj_ro (sj_n σ (k * 4 + r)) (sj_x σ (k * 4 + r)) b j) (fun v _ => 40 - v.toNatClampNeg) ?_ 64 _ _ ⟨rfl, 0, rfl, Nat.zero_le _, fun j hj => absurd hj (Nat.not_lt_zero _)⟩ (by omega)
  rintro v w' K ⟨rfl, i, rfl, h1, h2⟩ hK
  unfold vb_X7_isTurnedLess_11
  rw [sj_leI (by omega) (by omega)]
  refine ⟨fun q => h0 ?_, fun q => ⟨mm.1.1, by rw [mm.1.2.1]; exact hL.2 _, ?_, mm.1.1, ?_⟩⟩
  · refine decide_eq_false fun z => z ?_
    unfold sj_rc
    rw [sj_wc_same (fun j hj => h2 j (by omega))]
    decide
  · rw [sj_lits 0, sj_eqI (by omega) (by omega)]
    omega
  · rw [sj_addI, sj_addI, pk_rem (by omega) (by omega) (by omega), pk_rem (by omega) (by omega) (by omega)]
    have ea := sj_ro_mod (f := sj_x σ (k * 4 + r)) ha (show i < sj_n σ (k * 4 + r) by omega)
    have eb := sj_ro_mod (f := sj_x σ (k * 4 + r)) hb (show i < sj_n σ (k * 4 + r) by omega)
    have la : (a + i) % sj_n σ (k * 4 + r) < sj_n σ (k * 4 + r) := Nat.mod_lt _ (by omega)
    have lb : (b + i) % sj_n σ (k * 4 + r) < sj_n σ (k * 4 + r) := Nat.mod_lt _ (by omega)
    generalize (a + i) % sj_n σ (k * 4 + r) = pa at ea la
    generalize (b + i) % sj_n σ (k * 4 + r) = pb at eb lb
    refine pm_at hk ?_
    simp (disch := omega) only [ne_eq, and_self, not_false_eq_true, not_true_eq_false, true_and, and_true, true_or, or_true, false_or, or_false, forall_eq, forall_const, true_implies, false_implies, if_true, if_false, sj_lits, sj_addI, sj_mulI, sj_clI, sj_inI, sj_ltI, sj_leI, sj_eqI, sj_lcI, mm, hL.nz]
    refine ⟨by omega, by omega, pm_at hk ?_⟩
    simp (disch := omega) only [ne_eq, and_self, not_false_eq_true, not_true_eq_false, true_and, and_true, true_or, or_true, false_or, or_false, forall_eq, forall_const, true_implies, false_implies, if_true, if_false, sj_lits, sj_addI, sj_mulI, sj_clI, sj_inI, sj_ltI, sj_leI, sj_eqI, sj_lcI, mm, hL.nz]
    rw [ea, eb]
    refine ⟨by omega, fun z => hK _ _ ⟨rfl, i + 1, by first | rfl | exact sj_s1 _, by omega, fun j hj => ?_⟩ ?_, fun z => pm_isLess ho (fun y => ⟨Or.inr rfl, h ?_⟩) (fun y => ⟨Or.inl rfl, h0 ?_⟩)⟩
    · by_cases e : j = i
      · subst e; exact z
      · exact h2 j (by omega)
    · first | rw [sj_clI (by omega), sj_clI (by omega)] | rw [sj_s1, sj_clI (by omega), sj_clI (by omega)]
      omega
    · refine decide_eq_true fun t => ?_
      unfold sj_rc at t
      rw [sj_wc_at (by omega) h2 z] at t
      exact absurd (sj_nc_lt.mpr y) (Int32.not_lt.mpr t)
    · refine decide_eq_false fun t => t ?_
      unfold sj_rc
      rw [sj_wc_at (by omega) h2 z]
      exact Int32.not_lt.mp (fun t => y (sj_nc_lt.mp t))
theorem pm_rotation {La : Nat → Nat} {σ : sj_S} {w : sj_W} (hL : sj_La La) (hM : sj_Mo La σ w) (hw : sj_wf σ) {a1 a2 a3 : Int32} {Q : Int32 → sj_W → Prop} (h : so_pM La w (ab_rotation σ a1 a2 a3) Int32.toInt64 Q) : vc_X7_rotation (La 200) a1 a2 a3 w Q := by
  unfold ab_rotation at h
  refine ⟨hM.1.1, pm_noOrder (fun k u r hk hk4 hu hr er hr4 => ?_) (fun hk => ?_) (fun k hk hu => ?_) (fun k u hk hu hr => ?_)⟩
  · subst er
    simp only [hk, hu, hr] at h
    have hr16 : k * 4 + r < 16 := by omega
    have c := (hw.1 (k * 4 + r) hr16).1
    refine pm_ok hL hM (fun w1 hf hM1 h47 => ⟨hM1.1.1, pm_size hL hM1 hk hr4 ?_⟩)
    refine sj_jn1_i (fun y w' => w' = w1 ∧ y = if sj_n σ (k * 4 + r) = 0 then -nI 1 else nI 0) (fun E hE => ⟨fun z => hE _ _ ⟨rfl, ?_⟩, fun z => hE _ _ ⟨rfl, ?_⟩⟩) ?_
    · rw [sj_lits 0, sj_eqI (by omega) (by omega)] at z
      rw [if_neg z]
      rfl
    · rw [sj_lits 0, sj_eqI (by omega) (by omega)] at z
      rw [if_pos z]
      rfl
    rintro y w' ⟨rfl, rfl⟩
    refine sj_lp2_run (fun v4 v5 w'' => w'' = w' ∧ ∃ i, v5 = nI (i + 1) ∧ (i + 1 ≤ sj_n σ (k * 4 + r) ∨ i = 0) ∧ v4 = if sj_n σ (k * 4 + r) = 0 then -nI 1 else nI (sj_best (sj_rotB u (sj_n σ (k * 4 + r)) (sj_x σ (k * 4 + r))) i)) (fun _ v _ => 40 - v.toNatClampNeg) ?_ 64 _ _ _ ⟨rfl, 0, rfl, Or.inr rfl, rfl⟩ (by omega)
    rintro v4 v5 w'' K ⟨rfl, i, rfl, h1, rfl⟩ hK
    have hb := sj_best_le (sj_rotB u (sj_n σ (k * 4 + r)) (sj_x σ (k * 4 + r))) i
    unfold vb_X7_rotation_35
    refine ⟨hM1.1.1, pm_size hL hM1 hk hr4 ?_⟩
    rw [sj_leI (by omega) (by omega)]
    refine ⟨fun q2 => ?_, fun q2 => ⟨hM1.1.1, ?_⟩⟩
    · by_cases e0 : sj_n σ (k * 4 + r) = 0
      · rw [if_pos e0] at h ⊢
        exact so_g h hf hM1 h47 rfl
      · rw [if_neg e0] at h ⊢
        have e : sj_n σ (k * 4 + r) - 1 = i := by omega
        rw [e] at h
        exact so_g h hf hM1 h47 rfl
    · rw [if_neg (by omega)]
      have bs := sj_best_s (sj_rotB u (sj_n σ (k * 4 + r)) (sj_x σ (k * 4 + r))) i
      refine pm_isTurnedLess hL hM1 hw hk hu hr4 (by omega) (by omega) (fun z => ⟨fun t => absurd t (by decide), fun _ => ?_⟩) (fun z => ⟨fun _ => ?_, fun t => absurd rfl t⟩)
      · refine hK _ _ _ ⟨rfl, i + 1, sj_s1 _, by omega, ?_⟩ ?_
        · rw [if_neg (by omega), bs, if_pos z]
        · rw [sj_s1, sj_clI (by omega), sj_clI (by omega)]; omega
      · refine hK _ _ _ ⟨rfl, i + 1, sj_s1 _, by omega, ?_⟩ ?_
        · rw [if_neg (by omega), bs, if_neg (by rw [z]; decide)]
        · rw [sj_s1, sj_clI (by omega), sj_clI (by omega)]; omega
  · simp only [hk] at h
    exact pm_no hL hM 1 (by decide) (by decide) h
  · simp only [hk, hu] at h
    exact pm_no hL hM 1 (by decide) (by decide) h
  · simp only [hk, hu, hr] at h
    exact pm_no hL hM 2 (by decide) (by decide) h
/-! orders have their lists -/
theorem sj_ins_at {lt : Nat → Nat → Prop} {m ln : Nat} {lx : Nat → Nat} (htot : ∀ j, j < ln → lt (lx j) m ∨ lt m (lx j)) : ∀ q, q ≤ ln → (∀ j, q ≤ j → j < ln → lt m (lx j)) → ∃ p, p ≤ ln ∧ (0 < p → lt (lx (p - 1)) m) ∧ ∀ j, p ≤ j → j < ln → lt m (lx j)
  | 0, h1, h2 => ⟨0, h1, fun z => absurd z (Nat.lt_irrefl _), h2⟩
  | q + 1, h1, h2 => by
    rcases htot q (by omega) with z | z
    · exact ⟨q + 1, h1, fun _ => z, h2⟩
    · refine sj_ins_at htot q (by omega) (fun j hj hl => ?_)
      by_cases e : j = q
      · subst e; exact z
      · exact h2 j (by omega) hl
theorem sj_sort_ex {P : Nat → Prop} {lt : Nat → Nat → Prop} (htr : ∀ a b c, lt a b → lt b c → lt a c) {N : Nat} (htot : ∀ i j, i < N → j < N → i ≠ j → lt i j ∨ lt j i) : ∀ m, m ≤ N → ∃ ln lx, ln ≤ m ∧ sj_isSort P lt m ln lx
  | 0, _ => ⟨0, fun _ => 0, Nat.le_refl _, fun j hj => absurd hj (Nat.not_lt_zero _), fun i j _ hj => absurd hj (Nat.not_lt_zero _), fun k hk => absurd hk (Nat.not_lt_zero _)⟩
  | m + 1, hm => by
    obtain ⟨ln, lx, h1, h2⟩ := sj_sort_ex htr htot m (by omega)
    by_cases hP : P m
    · obtain ⟨p, p1, p2, p3⟩ := sj_ins_at (lt := lt) (m := m) (ln := ln) (lx := lx) (fun j hj => htot _ _ (by have := (h2.1 j hj).1; omega) (by omega) (by have := (h2.1 j hj).1; omega)) ln (Nat.le_refl _) (fun j a b => by omega)
      exact ⟨ln + 1, _, by omega, sj_sort_ins h2 p1 hP htr p2 p3⟩
    · refine ⟨ln, lx, by omega, fun j hj => ⟨by have := (h2.1 j hj).1; omega, (h2.1 j hj).2⟩, h2.2.1, fun k hk hPk => ?_⟩
      by_cases e : k = m
      · subst e; exact absurd hPk hP
      · exact h2.2.2 k (by omega) hPk
theorem sj_ends_sorted (u : Bool) (n : Nat) (f : Nat → Int64) : ∃ lx, sj_isSort sj_tt (sj_elt u n f) n n lx := by
  obtain ⟨ln, lx, h1, h2⟩ := sj_sort_ex (P := sj_tt) (lt := sj_elt u n f) (fun a b c => sj_elt_tr a b c) (N := n) (fun i j hi hj hij => sj_elt_tot (by omega) (by omega) hij) n (Nat.le_refl _)
  have e : sj_cnt (fun _ => true) n = ln := sj_sort_num h2 (fun i _ => sj_elt_irr) (fun i _ => ⟨fun _ => trivial, fun _ => rfl⟩)
  have e2 : ∀ m, sj_cnt (fun _ => true) m = m := by
    intro m
    induction m with
    | zero => rfl
    | succ m ih => rw [sj_cnt_s, ih]; rfl
  rw [e2] at e
  subst e
  exact ⟨lx, h2⟩
theorem sj_spans_sorted (σ : sj_S) (k : Nat) (u : Bool) : ∃ lx, sj_isSort (sj_fit σ k) (sj_slt σ k u) 12 (sj_cnt (sj_fitB σ k) 12) lx := by
  obtain ⟨ln, lx, h1, h2⟩ := sj_sort_ex (P := sj_fit σ k) (lt := sj_slt σ k u) (fun a b c => sj_slt_tr) (N := 12) (fun i j hi hj hij => by
    rcases sj_wc_cases u (sj_wn σ i) (sj_wx σ k i) (sj_wn σ j) (sj_wx σ k j) with ⟨e, _⟩ | ⟨_, e⟩ | ⟨_, e⟩
    · rcases Nat.lt_or_gt_of_ne hij with z | z
      · exact Or.inl (Or.inr ⟨e, z⟩)
      · exact Or.inr (Or.inr ⟨sj_wc0.mpr (sj_weq_s (sj_wc0.mp e)), z⟩)
    · exact Or.inl (Or.inl (sj_wcL.mpr e))
    · exact Or.inr (Or.inl (sj_wcL.mpr e))) 12 (Nat.le_refl _)
  have e := (sj_sx_eq h2).1
  subst e
  exact ⟨lx, h2⟩
theorem pm_ending {La : Nat → Nat} {σ : sj_S} {w : sj_W} (hL : sj_La La) (hM : sj_Mo La σ w) (hw : sj_wf σ) {a1 a2 a3 a4 : Int32} {Q : Int32 → sj_W → Prop} (h : so_pM La w (ab_ending σ a1 a2 a3 a4) Int32.toInt64 Q) : vc_X7_ending (La 200) a1 a2 a3 a4 w Q := by
  unfold ab_ending at h
  refine ⟨hM.1.1, pm_noOrder (fun k u r hk hk4 hu hr er hr4 => ⟨fun _ => ⟨hM.1.1, ?_⟩, fun z => absurd (by decide) z⟩) (fun hk => ⟨fun z => absurd z (by decide), fun _ => ?_⟩) (fun k hk hu => ⟨fun z => absurd z (by decide), fun _ => ?_⟩) (fun k u hk hu hr => ⟨fun z => absurd z (by decide), fun _ => ?_⟩)⟩
  · subst er
    simp only [hk, hu, hr] at h
    have hr16 : k * 4 + r < 16 := by omega
    have c := (hw.1 (k * 4 + r) hr16).1
    refine pm_size hL hM hk hr4 (pm_place (by omega) (fun p hp ep hlt => ⟨fun z => absurd z (by decide), fun _ => ?_⟩) (fun hp => ⟨fun _ => ?_, fun z => absurd rfl z⟩))
    · subst ep
      simp only [hp] at h
      refine pm_ok hL hM (fun w1 hf hM1 h47 => ⟨hM1.1.1, pm_size hL hM1 hk hr4 ?_⟩)
      refine sj_lp1_run (fun v w' => w' = w1 ∧ ∃ i, v = nI i ∧ i ≤ sj_n σ (k * 4 + r) ∧ ∀ j, j < i → sj_rkB u (sj_n σ (k * 4 + r)) (sj_x σ (k * 4 + r)) p j = false) (fun v _ => 40 - v.toNatClampNeg) ?_ 64 _ _ ⟨rfl, 0, rfl, Nat.zero_le _, fun j hj => absurd hj (Nat.not_lt_zero _)⟩ (by omega)
      rintro v w' K ⟨rfl, i, rfl, hi, hno⟩ hK
      unfold vb_X7_ending_63
      rw [sj_leI (by omega) (by omega)]
      refine ⟨fun q => ?_, fun q => ?_⟩
      · exfalso
        obtain ⟨lx, hs⟩ := sj_ends_sorted u (sj_n σ (k * 4 + r)) (sj_x σ (k * 4 + r))
        have e1 := sj_sort_rank hs (fun i _ => sj_elt_irr) (fun i j _ _ => sj_elt_as) hlt (p := fun j => sj_eltB u (sj_n σ (k * 4 + r)) (sj_x σ (k * 4 + r)) j (lx p)) (fun j _ => ⟨fun z => ⟨trivial, sj_eltB_iff.mp z⟩, fun z => sj_eltB_iff.mpr z.2⟩)
        have e2 := hno (lx p) (by have := (hs.1 p hlt).1; omega)
        exact of_decide_eq_false e2 e1
      · refine sj_lp2_run (fun v8 v9 w'' => w'' = w' ∧ ∃ j, v9 = nI j ∧ j ≤ sj_n σ (k * 4 + r) ∧ v8 = nI (sj_cnt (fun t => sj_eltB u (sj_n σ (k * 4 + r)) (sj_x σ (k * 4 + r)) t i) j)) (fun _ v _ => 40 - v.toNatClampNeg) ?_ 64 _ _ _ ⟨rfl, 0, rfl, Nat.zero_le _, rfl⟩ (by omega)
        rintro v8 v9 w'' K2 ⟨rfl, j, rfl, hj, rfl⟩ hK2
        have hcl := sj_cnt_le (fun t => sj_eltB u (sj_n σ (k * 4 + r)) (sj_x σ (k * 4 + r)) t i) j
        have step : ∀ b, sj_eltB u (sj_n σ (k * 4 + r)) (sj_x σ (k * 4 + r)) j i = b → j < sj_n σ (k * 4 + r) → K2 (nI (sj_cnt (fun t => sj_eltB u (sj_n σ (k * 4 + r)) (sj_x σ (k * 4 + r)) t i) j + (if b then 1 else 0))) (nI (j + 1)) w'' := by
          intro b h3 h4
          refine hK2 _ _ _ ⟨rfl, j + 1, rfl, by omega, by rw [← h3]; rfl⟩ ?_
          rw [sj_clI (by omega), sj_clI (by omega)]
          omega
        unfold vb_X7_ending_76
        simp (disch := omega) only [sj_lits, sj_leI, sj_addI, sj_eqI]
        refine ⟨fun q2 => ?_, fun q2 => ⟨hM1.1.1, pm_endings hL hM1 hw hk hu hr4 (Nat.le_refl _) (by omega) (by omega) ⟨fun z => step false (decide_eq_false fun y => y z) (by omega), fun z => step true (decide_eq_true z) (by omega)⟩⟩⟩
        have ej : j = sj_n σ (k * 4 + r) := by omega
        subst ej
        refine ⟨fun z => hK _ _ ⟨rfl, i + 1, rfl, by omega, fun t ht => ?_⟩ ?_, fun z => so_g h hf hM1 h47 ?_⟩
        · by_cases e : t = i
          · subst e; exact decide_eq_false z
          · exact hno t (by omega)
        · rw [sj_clI (by omega), sj_clI (by omega)]; omega
        · have e : sj_eo u (sj_n σ (k * 4 + r)) (sj_x σ (k * 4 + r)) p = i := sj_find_eq _ 0 (Nat.zero_le _) (by omega) (fun t _ ht => hno t ht) (fun _ => decide_eq_true z)
          rw [e]
    · simp only [hp] at h
      exact pm_no hL hM 2 (by decide) (by decide) h
  · simp only [hk] at h
    exact pm_no hL hM 1 (by decide) (by decide) h
  · simp only [hk, hu] at h
    exact pm_no hL hM 1 (by decide) (by decide) h
  · simp only [hk, hu, hr] at h
    exact pm_no hL hM 2 (by decide) (by decide) h

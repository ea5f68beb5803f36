/-! the reference: rows -/
theorem pm_append {La : Nat → Nat} {σ : sj_S} {w : sj_W} (hL : sj_La La) (hM : sj_Mo La σ w) (hw : sj_wf σ) {a1 a2 : Int32} {x : Int64} {Q : Int32 → sj_W → Prop} (h : so_pM La w (ab_append σ a1 a2 x) Int32.toInt64 Q) : vc_X7_append (La 200) a1 a2 x w Q := by
  unfold ab_append at h
  refine pm_isKind (fun k hk hk4 => ⟨fun z => absurd z (by decide), fun _ => pm_kind hk (pm_isOf hk4 (fun hin => ⟨fun _ => pm_isRow (fun r hr er hr4 => ⟨fun _ => ?_, fun z => absurd z (by decide)⟩) (fun hr => ⟨fun z => absurd rfl z, fun _ => ?_⟩), fun z => absurd z (by decide)⟩) (fun hin => ⟨fun z => absurd rfl z, fun _ => ?_⟩))⟩) (fun hk => ⟨fun _ => ?_, fun z => absurd rfl z⟩)
  · subst er
    simp only [hk, hr, if_pos hin] at h
    have c := (hw.1 (k * 4 + r) (by omega)).1
    refine ⟨hM.1.1, pm_size hL hM hk hr4 ⟨fun q => ?_, fun q => ?_⟩⟩
    all_goals rw [sj_lits 32, sj_eqI (by omega) (by omega)] at q
    · rw [if_pos (by omega)] at h
      refine pm_ok hL hM (fun w1 hf hM1 h47 => ⟨hM1.1.1, by rw [hM1.1.2.1]; exact hL.2 _, hM1.1.1, pm_size hL hM1 hk hr4 ⟨hM1.1.1, pm_at hk ?_⟩⟩)
      have m1 := hM1.all
      simp (disch := omega) only [ne_eq, and_self, not_false_eq_true, not_true_eq_false, true_and, and_true, true_or, or_true, false_or, or_false, forall_eq, forall_const, true_implies, false_implies, if_true, if_false, sj_lits, sj_addI, sj_mulI, sj_clI, sj_inI, sj_ltI, sj_leI, sj_eqI, sj_lcI, m1, hL.nz, sj_rd]
      generalize hy : k * 4 + r = y at *
      have f2 : sj_fr (sj_XR La) w1 (sj_sl w1 (La 201) (32 * y + sj_n σ y) x) := sj_fr.rf.l (Or.inl (Or.inl rfl))
      have f3 := f2.i (a := La 202) (j := y) (v := nI (sj_n σ y + 1)) (Or.inl (Or.inr rfl))
      subst hy
      refine ⟨by omega, pm_sizeR hL (hM1.ms.fr f2) hk hr4 (n := sj_n σ (k * 4 + r)) (m1.2.2.2.2.2.2.2.1 _ (by omega)) ?_⟩
      simp (disch := omega) only [ne_eq, and_self, not_false_eq_true, not_true_eq_false, true_and, and_true, true_or, or_true, false_or, or_false, forall_eq, forall_const, true_implies, false_implies, if_true, if_false, sj_lits, sj_addI, sj_mulI, sj_clI, sj_inI, sj_ltI, sj_leI, sj_eqI, sj_lcI, m1, sj_rd]
      refine pm_resizeR hL (hM1.ms.fr f2) hk hr4 ?_
      simp (disch := omega) only [ne_eq, and_self, not_false_eq_true, not_true_eq_false, true_and, and_true, true_or, or_true, false_or, or_false, forall_eq, forall_const, true_implies, false_implies, if_true, if_false, sj_lits, sj_addI, sj_mulI, sj_clI, sj_inI, sj_ltI, sj_leI, sj_eqI, sj_lcI, m1, sj_rd]
      refine pm_sizeR hL (hM1.ms.fr f3) hk hr4 (n := sj_n σ (k * 4 + r) + 1) (if_pos ⟨rfl, rfl⟩) ?_
      refine so_g h (hf.trans (sj_XR.x f3)) (hM1.row hL hw f3 (if_pos ⟨rfl, rfl⟩) (fun i hi hne => if_neg (fun z => hne z.2)) (fun j hj => ?_) (fun i j hi hne hj => ?_)) ((sj_XR.i47 hL hM1.ms f3 47).trans h47) rfl
      · show (if La 201 = La 201 ∧ 32 * (k * 4 + r) + j = 32 * (k * 4 + r) + sj_n σ (k * 4 + r) then x else sj_l w1 (La 201) (32 * (k * 4 + r) + j)) = _
        by_cases e : j = sj_n σ (k * 4 + r)
        · rw [if_pos ⟨rfl, by omega⟩, if_pos e]
        · rw [if_neg (fun z => e (by omega)), if_neg e]
          exact m1.2.2.2.2.2.2.2.2.1 _ _ (by omega) (by omega)
      · exact if_neg (fun z => by omega)
    · rw [if_neg (by omega)] at h
      exact pm_no hL hM 3 (by decide) (by decide) h
  · simp only [hk, hr, if_pos hin] at h
    exact pm_no hL hM 2 (by decide) (by decide) h
  · simp only [hk, if_neg hin] at h
    exact pm_no hL hM 1 (by decide) (by decide) h
  · simp only [hk] at h
    exact pm_no hL hM 1 (by decide) (by decide) h
theorem pm_set {La : Nat → Nat} {σ : sj_S} {w : sj_W} (hL : sj_La La) (hM : sj_Mo La σ w) (hw : sj_wf σ) {a1 a2 a3 : Int32} {x : Int64} {Q : Int64 → sj_W → Prop} (h : so_pM La w (ab_set σ a1 a2 a3 x) id Q) : vc_X7_set (La 200) a1 a2 a3 x w Q := by
  unfold ab_set at h
  refine pm_isKind (fun k hk hk4 => ⟨fun z => absurd z (by decide), fun _ => pm_kind hk (pm_isOf hk4 (fun hin => ⟨fun _ => pm_isRow (fun r hr er hr4 => ⟨fun z => absurd z (by decide), fun _ => ?_⟩) (fun hr => ⟨fun _ => ?_, fun z => absurd rfl z⟩), fun z => absurd z (by decide)⟩) (fun hin => ⟨fun z => absurd rfl z, fun _ => ?_⟩))⟩) (fun hk => ⟨fun _ => ?_, fun z => absurd rfl z⟩)
  · subst er
    simp only [hk, hr, if_pos hin] at h
    have c := (hw.1 (k * 4 + r) (by omega)).1
    refine ⟨hM.1.1, pm_size hL hM hk hr4 (pm_place (by omega) (fun p hp ep hlt => ⟨fun _ => ?_, fun z => absurd z (by decide)⟩) (fun hp => ⟨fun z => absurd rfl z, fun _ => ?_⟩))⟩
    · subst ep
      simp only [hp] at h
      refine pm_ok hL hM (fun w1 hf hM1 h47 => ⟨hM1.1.1, by rw [hM1.1.2.1]; exact hL.2 _, hM1.1.1, pm_at hk ?_⟩)
      have m1 := hM1.all
      simp (disch := omega) only [ne_eq, and_self, not_false_eq_true, not_true_eq_false, true_and, and_true, true_or, or_true, false_or, or_false, forall_eq, forall_const, true_implies, false_implies, if_true, if_false, sj_lits, sj_addI, sj_mulI, sj_clI, sj_inI, sj_ltI, sj_leI, sj_eqI, sj_lcI, m1, hL.nz, sj_rd]
      refine ⟨by omega, pm_at hk ?_⟩
      simp (disch := omega) only [ne_eq, and_self, not_false_eq_true, not_true_eq_false, true_and, and_true, true_or, or_true, false_or, or_false, forall_eq, forall_const, true_implies, false_implies, if_true, if_false, sj_lits, sj_addI, sj_mulI, sj_clI, sj_inI, sj_ltI, sj_leI, sj_eqI, sj_lcI, m1, hL.nz, sj_rd]
      have f2 : sj_fr (sj_XR La) w1 (sj_sl w1 (La 201) (32 * (k * 4 + r) + p) x) := sj_fr.rf.l (Or.inl (Or.inl rfl))
      refine ⟨by omega, so_g h (hf.trans (sj_XR.x f2)) (hM1.row hL hw f2 (m1.2.2.2.2.2.2.2.1 _ (by omega)) (fun i hi hne => rfl) (fun j hj => ?_) (fun i j hi hne hj => ?_)) ((sj_XR.i47 hL hM1.ms f2 47).trans h47) rfl⟩
      · show (if La 201 = La 201 ∧ 32 * (k * 4 + r) + j = 32 * (k * 4 + r) + p then x else sj_l w1 (La 201) (32 * (k * 4 + r) + j)) = _
        by_cases e : j = p
        · rw [if_pos ⟨rfl, by omega⟩, if_pos e]
        · rw [if_neg (fun z => e (by omega)), if_neg e]
          exact m1.2.2.2.2.2.2.2.2.1 _ _ (by omega) (by omega)
      · exact if_neg (fun z => by omega)
    · simp only [hp] at h
      exact pm_no hL hM 2 (by decide) (by decide) h
  · simp only [hk, hr, if_pos hin] at h
    exact pm_no hL hM 2 (by decide) (by decide) h
  · simp only [hk, if_neg hin] at h
    exact pm_no hL hM 1 (by decide) (by decide) h
  · simp only [hk] at h
    exact pm_no hL hM 1 (by decide) (by decide) h
theorem pm_number {La : Nat → Nat} {σ : sj_S} {w : sj_W} (hL : sj_La La) (hM : sj_Mo La σ w) (hw : sj_wf σ) {a1 a2 a3 : Int32} {Q : Int64 → sj_W → Prop} (h : so_pM La w (ab_number σ a1 a2 a3) id Q) : vc_X7_number (La 200) a1 a2 a3 w Q := by
  unfold ab_number at h
  refine pm_isKind (fun k hk hk4 => ⟨fun _ => pm_isRow (fun r hr er hr4 => ⟨fun z => absurd z (by decide), fun _ => ?_⟩) (fun hr => ⟨fun _ => ?_, fun z => absurd rfl z⟩), fun z => absurd z (by decide)⟩) (fun hk => ⟨fun z => absurd rfl z, fun _ => ?_⟩)
  · subst er
    simp only [hk, hr] at h
    have c := (hw.1 (k * 4 + r) (by omega)).1
    refine ⟨hM.1.1, pm_size hL hM hk hr4 (pm_place (by omega) (fun p hp ep hlt => ⟨fun _ => ?_, fun z => absurd z (by decide)⟩) (fun hp => ⟨fun z => absurd rfl z, fun _ => ?_⟩))⟩
    · subst ep
      simp only [hp] at h
      refine pm_ok hL hM (fun w1 hf hM1 h47 => ⟨hM1.1.1, by rw [hM1.1.2.1]; exact hL.2 _, hM1.1.1, pm_at hk ?_⟩)
      have m1 := hM1.all
      simp (disch := omega) only [ne_eq, and_self, not_false_eq_true, not_true_eq_false, true_and, and_true, true_or, or_true, false_or, or_false, forall_eq, forall_const, true_implies, false_implies, if_true, if_false, sj_lits, sj_addI, sj_mulI, sj_clI, sj_inI, sj_ltI, sj_leI, sj_eqI, sj_lcI, m1, hL.nz, sj_rd]
      exact ⟨by omega, so_g h hf hM1 h47 rfl⟩
    · simp only [hp] at h
      exact pm_no hL hM 2 (by decide) (by decide) h
  · simp only [hk, hr] at h
    exact pm_no hL hM 2 (by decide) (by decide) h
  · simp only [hk] at h
    exact pm_no hL hM 1 (by decide) (by decide) h
theorem pm_length {La : Nat → Nat} {σ : sj_S} {w : sj_W} (hL : sj_La La) (hM : sj_Mo La σ w) (hw : sj_wf σ) {a1 a2 : Int32} {Q : Int32 → sj_W → Prop} (h : so_pM La w (ab_length σ a1 a2) Int32.toInt64 Q) : vc_X7_length (La 200) a1 a2 w Q := by
  unfold ab_length at h
  refine ⟨hM.1.1, pm_noRow (fun k r hk hk4 hr er hr4 => ?_) (fun hk => ?_) (fun k hk hr => ?_)⟩
  · subst er
    simp only [hk, hr] at h
    exact pm_ok hL hM (fun w1 hf hM1 h47 => ⟨hM1.1.1, pm_size hL hM1 hk hr4 (so_g h hf hM1 h47 rfl)⟩)
  · simp only [hk] at h
    exact pm_no hL hM 1 (by decide) (by decide) h
  · simp only [hk, hr] at h
    exact pm_no hL hM 2 (by decide) (by decide) h
theorem pm_clear {La : Nat → Nat} {σ : sj_S} {w : sj_W} (hL : sj_La La) (hM : sj_Mo La σ w) (hw : sj_wf σ) {a1 a2 : Int32} {Q : Int32 → sj_W → Prop} (h : so_pM La w (ab_clear σ a1 a2) Int32.toInt64 Q) : vc_X7_clear (La 200) a1 a2 w Q := by
  unfold ab_clear at h
  refine ⟨hM.1.1, pm_noRow (fun k r hk hk4 hr er hr4 => ?_) (fun hk => ?_) (fun k hk hr => ?_)⟩
  · subst er
    simp only [hk, hr] at h
    refine pm_ok hL hM (fun w1 hf hM1 h47 => ⟨hM1.1.1, pm_size hL hM1 hk hr4 ⟨hM1.1.1, pm_resizeR (n := 0) hL hM1.ms hk hr4 ?_⟩⟩)
    have f2 : sj_fr (sj_XR La) w1 (sj_si w1 (La 202) (k * 4 + r) (nI 0)) := sj_fr.rf.i (Or.inl (Or.inr rfl))
    exact so_g h (hf.trans (sj_XR.x f2)) (hM1.row hL hw f2 (if_pos ⟨rfl, rfl⟩) (fun i hi hne => if_neg (fun z => hne z.2)) (fun j hj => absurd hj (Nat.not_lt_zero _)) (fun i j hi hne hj => rfl)) ((sj_XR.i47 hL hM1.ms f2 47).trans h47) rfl
  · simp only [hk] at h
    exact pm_no hL hM 1 (by decide) (by decide) h
  · simp only [hk, hr] at h
    exact pm_no hL hM 2 (by decide) (by decide) h
theorem pm_repeat {La : Nat → Nat} {σ : sj_S} {w : sj_W} (hL : sj_La La) (hM : sj_Mo La σ w) (hw : sj_wf σ) {a1 a2 a3 : Int32} {Q : Int32 → sj_W → Prop} (h : so_pM La w (ab_repeat σ a1 a2 a3) Int32.toInt64 Q) : vc_X7_repeat (La 200) a1 a2 a3 w Q := by
  unfold ab_repeat at h
  have e1 : (1 : Int64).toInt = 1 := rfl
  have e8 : (8 : Int64).toInt = 8 := rfl
  refine pm_isKind (fun k hk hk4 => ⟨fun z => absurd z (by decide), fun _ => pm_in (fun t1 t2 => ⟨fun _ => pm_isRow (fun r hr er hr4 => ⟨fun _ => ?_, fun z => absurd z (by decide)⟩) (fun hr => ⟨fun z => absurd rfl z, fun _ => ?_⟩), fun z => absurd z (by decide)⟩) (fun t1 => ⟨fun z => absurd rfl z, fun _ => ?_⟩)⟩) (fun hk => ⟨fun _ => ?_, fun z => absurd rfl z⟩)
  · subst er
    rw [Int32.toInt_toInt64, e1] at t1
    rw [Int32.toInt_toInt64, e8] at t2
    simp only [hk, hr, if_pos (And.intro t1 t2)] at h
    have e3 := sj_asN (x := a3) (by omega)
    generalize ht : a3.toInt.toNat = t at h e3
    subst e3
    have hr16 : k * 4 + r < 16 := by omega
    have c := (hw.1 (k * 4 + r) (by omega)).1
    have b1 : sj_n σ (k * 4 + r) * t ≤ 32 * 8 := Nat.mul_le_mul c (by omega)
    have b2 : sj_n σ (k * 4 + r) * 1 ≤ sj_n σ (k * 4 + r) * t := Nat.mul_le_mul_left _ (by omega)
    refine ⟨hM.1.1, pm_size hL hM hk hr4 ?_⟩
    rw [sj_mulI, sj_lits 32, sj_leI (by omega) (by omega)]
    refine ⟨fun q => ?_, fun q => ?_⟩
    · rw [if_pos q] at h
      refine pm_ok hL hM (fun w1 hf hM1 h47 => ⟨hM1.1.1, pm_size hL hM1 hk hr4 ?_⟩)
      have m1 := hM1.all
      have ms := hM1.ms
      refine sj_lp1_run (fun v w' => ∃ p, v = nI p ∧ sj_n σ (k * 4 + r) ≤ p ∧ p ≤ sj_n σ (k * 4 + r) * t ∧ sj_fr (sj_XR La) w1 w' ∧ (∀ i, sj_i w' (La 202) i = sj_i w1 (La 202) i) ∧ (∀ j, j < p → sj_l w' (La 201) (32 * (k * 4 + r) + j) = sj_x σ (k * 4 + r) (j % sj_n σ (k * 4 + r))) ∧ (∀ i j, i < 16 → i ≠ k * 4 + r → j < 32 → sj_l w' (La 201) (32 * i + j) = sj_l w1 (La 201) (32 * i + j))) (fun v _ => 40 - v.toNatClampNeg) ?_ 64 _ _ ⟨_, rfl, Nat.le_refl _, by omega, sj_fr.rf, fun i => rfl, fun j hj => ?_, fun i j _ _ _ => rfl⟩ (by omega)
      · rintro v w' K ⟨p, rfl, hp1, hp2, hfr, hi, hx, hxo⟩ hK
        have ms' := ms.fr hfr
        unfold vb_X7_repeat_73
        rw [sj_mulI, sj_leI (by omega) (by omega)]
        refine ⟨fun q4 => ⟨ms'.1.1, pm_resizeR hL ms' hk hr4 ?_⟩, fun q4 => ?_⟩
        · have ep : p = sj_n σ (k * 4 + r) * t := by omega
          rw [← ep] at h ⊢
          have f3 := hfr.i (a := La 202) (j := k * 4 + r) (v := nI p) (Or.inl (Or.inr rfl))
          exact so_g h (hf.trans (sj_XR.x f3)) (hM1.row hL hw f3 (if_pos ⟨rfl, rfl⟩) (fun i hi2 hne => (if_neg (fun z => hne z.2)).trans (hi i)) (fun j hj => hx j hj) (fun i j hi2 hne hj => hxo i j hi2 hne hj)) ((sj_XR.i47 hL ms f3 47).trans h47) rfl
        · have hnp : 0 < sj_n σ (k * 4 + r) := by
            rcases Nat.eq_zero_or_pos (sj_n σ (k * 4 + r)) with z | z
            · rw [z, Nat.zero_mul] at q4
              omega
            · exact z
          rw [sj_subI hp1]
          refine ⟨ms'.1.1, by rw [ms'.1.2.1]; exact hL.2 _, ms'.1.1, pm_at hk ⟨ms'.1.1, by rw [ms'.1.2.1]; exact hL.2 _, ms'.1.1, pm_at hk ?_⟩⟩
          unfold sj_Ms at ms'
          simp (disch := omega) only [ne_eq, and_self, not_false_eq_true, not_true_eq_false, true_and, and_true, true_or, or_true, false_or, or_false, forall_eq, forall_const, true_implies, false_implies, if_true, if_false, sj_lits, sj_addI, sj_mulI, sj_clI, sj_inI, sj_ltI, sj_leI, sj_eqI, sj_lcI, ms', hL.nz, sj_rd]
          refine ⟨by omega, by omega, hK _ _ ⟨p + 1, rfl, by omega, by omega, hfr.l (Or.inl (Or.inl rfl)), hi, fun j hj => ?_, fun i j hi2 hne hj => ?_⟩ ?_⟩
          · simp (disch := omega) only [ne_eq, and_self, not_false_eq_true, not_true_eq_false, true_and, and_true, true_or, or_true, false_or, or_false, forall_eq, forall_const, true_implies, false_implies, if_true, if_false, sj_lits, sj_addI, sj_mulI, sj_clI, sj_inI, sj_ltI, sj_leI, sj_eqI, sj_lcI, sj_rd]
            by_cases cj : j = p
            · subst cj
              rw [if_pos rfl, hx _ (by omega)]
              congr 1
              rw [← Nat.mod_eq_sub_mod hp1]
            · rw [if_neg (by omega)]
              exact hx j (by omega)
          · simp (disch := omega) only [ne_eq, and_self, not_false_eq_true, not_true_eq_false, true_and, and_true, true_or, or_true, false_or, or_false, forall_eq, forall_const, true_implies, false_implies, if_true, if_false, sj_lits, sj_addI, sj_mulI, sj_clI, sj_inI, sj_ltI, sj_leI, sj_eqI, sj_lcI, sj_rd]
            rw [if_neg (by omega)]
            exact hxo i j hi2 hne hj
          · rw [sj_clI (by omega), sj_clI (by omega)]; omega
      · rw [Nat.mod_eq_of_lt hj]
        exact m1.2.2.2.2.2.2.2.2.1 _ _ hr16 hj
    · rw [if_neg q] at h
      exact pm_no hL hM 3 (by decide) (by decide) h
  · rw [Int32.toInt_toInt64, e1] at t1
    rw [Int32.toInt_toInt64, e8] at t2
    simp only [hk, hr, if_pos (And.intro t1 t2)] at h
    exact pm_no hL hM 2 (by decide) (by decide) h
  · rw [Int32.toInt_toInt64, e1, e8] at t1
    simp only [hk, if_neg t1] at h
    exact pm_no hL hM 1 (by decide) (by decide) h
  · simp only [hk] at h
    exact pm_no hL hM 1 (by decide) (by decide) h
theorem pm_cut {La : Nat → Nat} {σ : sj_S} {w : sj_W} (hL : sj_La La) (hM : sj_Mo La σ w) (hw : sj_wf σ) {a1 a2 a3 a4 : Int32} {Q : Int32 → sj_W → Prop} (h : so_pM La w (ab_cut σ a1 a2 a3 a4) Int32.toInt64 Q) : vc_X7_cut (La 200) a1 a2 a3 a4 w Q := by
  unfold ab_cut at h
  have e0 : (0 : Int64).toInt = 0 := rfl
  refine pm_isKind (fun k hk hk4 => ⟨fun _ => pm_isRow (fun r hr er hr4 => ⟨fun z => absurd z (by decide), fun _ => pm_in (fun t1 t2 => ⟨fun z => absurd z (by decide), fun _ => ?_⟩) (fun t1 => ⟨fun _ => ?_, fun z => absurd rfl z⟩)⟩) (fun hr => ⟨fun _ => ?_, fun z => absurd rfl z⟩), fun z => absurd z (by decide)⟩) (fun hk => ⟨fun z => absurd rfl z, fun _ => ?_⟩)
  · subst er
    rw [Int32.toInt_toInt64, e0] at t1
    rw [Int32.toInt_toInt64, Int32.toInt_toInt64] at t2
    simp only [hk, hr] at h
    have hr16 : k * 4 + r < 16 := by omega
    have c := (hw.1 (k * 4 + r) (by omega)).1
    have eN : (nI (sj_n σ (k * 4 + r))).toInt = sj_n σ (k * 4 + r) := nI_toInt (by omega)
    refine ⟨hM.1.1, pm_size hL hM hk hr4 ?_⟩
    rw [sj_leXX, eN]
    refine ⟨fun q => ?_, fun q => ?_⟩
    · rw [if_pos (by omega)] at h
      have e3 := sj_asN (x := a3) (by omega)
      have e4 := sj_asN (x := a4) (by omega)
      generalize h3 : a3.toInt.toNat = f at h e3
      generalize h4 : a4.toInt.toNat = t at h e4
      subst e3 e4
      refine pm_ok hL hM (fun w1 hf hM1 h47 => ?_)
      have m1 := hM1.all
      have ms := hM1.ms
      refine sj_lp1_run (fun v w' => ∃ p, v = nI p ∧ f ≤ p ∧ p ≤ t ∧ sj_fr (sj_XR La) w1 w' ∧ (∀ i, sj_i w' (La 202) i = sj_i w1 (La 202) i) ∧ (∀ j, f + j < p → sj_l w' (La 201) (32 * (k * 4 + r) + j) = sj_x σ (k * 4 + r) (f + j)) ∧ (∀ j, p ≤ f + j → j < sj_n σ (k * 4 + r) → sj_l w' (La 201) (32 * (k * 4 + r) + j) = sj_x σ (k * 4 + r) j) ∧ (∀ i j, i < 16 → i ≠ k * 4 + r → j < 32 → sj_l w' (La 201) (32 * i + j) = sj_l w1 (La 201) (32 * i + j))) (fun v _ => 40 - v.toNatClampNeg) ?_ 64 _ _ ⟨_, rfl, Nat.le_refl _, by omega, sj_fr.rf, fun i => rfl, fun j hj => by omega, fun j hj1 hj2 => m1.2.2.2.2.2.2.2.2.1 _ _ hr16 hj2, fun i j _ _ _ => rfl⟩ (by omega)
      rintro v w' K ⟨p, rfl, hp1, hp2, hfr, hi, hx, hy, hxo⟩ hK
      have ms' := ms.fr hfr
      unfold vb_X7_cut_58
      rw [sj_subI (a := t) (b := f) (by omega), sj_subI (a := p) (b := f) (by omega), sj_leI (by omega) (by omega)]
      refine ⟨fun q4 => ⟨ms'.1.1, pm_resizeR hL ms' hk hr4 ?_⟩, fun q4 => ?_⟩
      · have ep : p = t := by omega
        subst ep
        have f3 := hfr.i (a := La 202) (j := k * 4 + r) (v := nI (p - f)) (Or.inl (Or.inr rfl))
        exact so_g h (hf.trans (sj_XR.x f3)) (hM1.row hL hw f3 (if_pos ⟨rfl, rfl⟩) (fun i hi2 hne => (if_neg (fun z => hne z.2)).trans (hi i)) (fun j hj => hx j (by omega)) (fun i j hi2 hne hj => hxo i j hi2 hne hj)) ((sj_XR.i47 hL ms f3 47).trans h47) rfl
      · refine ⟨ms'.1.1, by rw [ms'.1.2.1]; exact hL.2 _, ms'.1.1, pm_at hk ⟨ms'.1.1, by rw [ms'.1.2.1]; exact hL.2 _, ms'.1.1, pm_at hk ?_⟩⟩
        unfold sj_Ms at ms'
        simp (disch := omega) only [ne_eq, and_self, not_false_eq_true, not_true_eq_false, true_and, and_true, true_or, or_true, false_or, or_false, forall_eq, forall_const, true_implies, false_implies, if_true, if_false, sj_lits, sj_addI, sj_mulI, sj_clI, sj_inI, sj_ltI, sj_leI, sj_eqI, sj_lcI, ms', hL.nz, sj_rd]
        refine ⟨by omega, by omega, hK _ _ ⟨p + 1, rfl, by omega, by omega, hfr.l (Or.inl (Or.inl rfl)), hi, fun j hj => ?_, fun j hj1 hj2 => ?_, fun i j hi2 hne hj => ?_⟩ ?_⟩
        · simp (disch := omega) only [ne_eq, and_self, not_false_eq_true, not_true_eq_false, true_and, and_true, true_or, or_true, false_or, or_false, forall_eq, forall_const, true_implies, false_implies, if_true, if_false, sj_lits, sj_addI, sj_mulI, sj_clI, sj_inI, sj_ltI, sj_leI, sj_eqI, sj_lcI, sj_rd]
          by_cases cj : f + j = p
          · rw [if_pos (by omega), hy p (by omega) (by omega), cj]
          · rw [if_neg (by omega)]
            exact hx j (by omega)
        · simp (disch := omega) only [ne_eq, and_self, not_false_eq_true, not_true_eq_false, true_and, and_true, true_or, or_true, false_or, or_false, forall_eq, forall_const, true_implies, false_implies, if_true, if_false, sj_lits, sj_addI, sj_mulI, sj_clI, sj_inI, sj_ltI, sj_leI, sj_eqI, sj_lcI, sj_rd]
          rw [if_neg (by omega)]
          exact hy j (by omega) hj2
        · simp (disch := omega) only [ne_eq, and_self, not_false_eq_true, not_true_eq_false, true_and, and_true, true_or, or_true, false_or, or_false, forall_eq, forall_const, true_implies, false_implies, if_true, if_false, sj_lits, sj_addI, sj_mulI, sj_clI, sj_inI, sj_ltI, sj_leI, sj_eqI, sj_lcI, sj_rd]
          rw [if_neg (by omega)]
          exact hxo i j hi2 hne hj
        · rw [sj_clI (by omega), sj_clI (by omega)]; omega
    · rw [if_neg (by omega)] at h
      exact pm_no hL hM 2 (by decide) (by decide) h
  · rw [Int32.toInt_toInt64, Int32.toInt_toInt64, e0] at t1
    simp only [hk, hr] at h
    rw [if_neg (by omega)] at h
    exact pm_no hL hM 2 (by decide) (by decide) h
  · simp only [hk, hr] at h
    exact pm_no hL hM 2 (by decide) (by decide) h
  · simp only [hk] at h
    exact pm_no hL hM 1 (by decide) (by decide) h
theorem pm_reverse {La : Nat → Nat} {σ : sj_S} {w : sj_W} (hL : sj_La La) (hM : sj_Mo La σ w) (hw : sj_wf σ) {a1 a2 : Int32} {Q : Int32 → sj_W → Prop} (h : so_pM La w (ab_reverse σ a1 a2) Int32.toInt64 Q) : vc_X7_reverse (La 200) a1 a2 w Q := by
  unfold ab_reverse at h
  refine ⟨hM.1.1, pm_noRow (fun k r hk hk4 hr er hr4 => ?_) (fun hk => ?_) (fun k hk hr => ?_)⟩
  · subst er
    simp only [hk, hr] at h
    have hr16 : k * 4 + r < 16 := by omega
    have c := (hw.1 (k * 4 + r) (by omega)).1
    refine pm_ok hL hM (fun w1 hf hM1 h47 => ⟨hM1.1.1, pm_size hL hM1 hk hr4 ?_⟩)
    have m1 := hM1.all
    have ms := hM1.ms
    generalize hN : sj_n σ (k * 4 + r) = n at h c
    refine sj_lp1_run (fun v w' => ∃ l, v = nI l ∧ 2 * l ≤ n + 1 ∧ sj_fr (sj_XR La) w1 w' ∧ (∀ i, sj_i w' (La 202) i = sj_i w1 (La 202) i) ∧ (∀ j, j < n → sj_l w' (La 201) (32 * (k * 4 + r) + j) = if j < l ∨ n - 1 < j + l then sj_x σ (k * 4 + r) (n - 1 - j) else sj_x σ (k * 4 + r) j) ∧ (∀ i j, i < 16 → i ≠ k * 4 + r → j < 32 → sj_l w' (La 201) (32 * i + j) = sj_l w1 (La 201) (32 * i + j))) (fun v _ => 40 - v.toNatClampNeg) ?_ 64 _ _ ⟨0, rfl, by omega, sj_fr.rf, fun i => rfl, fun j hj => ?_, fun i j _ _ _ => rfl⟩ (by omega)
    · rintro v w' K ⟨l, rfl, hl, hfr, hi, hx, hxo⟩ hK
      have ms' := ms.fr hfr
      unfold vb_X7_reverse_25
      have e1 : ((nI n - 1) - nI l).toInt = (n : Int) - 1 - l := by
        by_cases z : n = 0
        · subst z
          have : l = 0 := by omega
          subst this
          rfl
        · by_cases y : l ≤ n - 1
          · rw [sj_lits 1, sj_subI (by omega), sj_subI (by omega), nI_toInt (by omega)]
            omega
          · have e2 : n = 1 := by omega
            have e3 : l = 1 := by omega
            subst e2 e3
            rfl
      rw [sj_leXX, e1, nI_toInt (by omega)]
      refine ⟨fun q => ?_, fun q => ?_⟩
      · refine so_g h (hf.trans (sj_XR.x hfr)) (hM1.row hL hw hfr (((hi _).trans (m1.2.2.2.2.2.2.2.1 _ hr16)).trans (by rw [hN])) (fun i _ _ => hi i) (fun j hj => ?_) hxo) ((sj_XR.i47 hL ms hfr 47).trans h47) rfl
        rw [hx j hj]
        by_cases cj : j < l ∨ n - 1 < j + l
        · rw [if_pos cj]
        · rw [if_neg cj]
          congr 1
          omega
      · rw [sj_lits 1, sj_subI (by omega), sj_subI (by omega)]
        refine ⟨ms'.1.1, by rw [ms'.1.2.1]; exact hL.2 _, ms'.1.1, pm_at hk ?_⟩
        unfold sj_Ms at ms'
        simp (disch := omega) only [ne_eq, and_self, not_false_eq_true, not_true_eq_false, true_and, and_true, true_or, or_true, false_or, or_false, forall_eq, forall_const, true_implies, false_implies, if_true, if_false, sj_lits, sj_addI, sj_mulI, sj_clI, sj_inI, sj_ltI, sj_leI, sj_eqI, sj_lcI, ms', hL.nz, sj_rd]
        refine ⟨by omega, pm_at hk ?_⟩
        simp (disch := omega) only [ne_eq, and_self, not_false_eq_true, not_true_eq_false, true_and, and_true, true_or, or_true, false_or, or_false, forall_eq, forall_const, true_implies, false_implies, if_true, if_false, sj_lits, sj_addI, sj_mulI, sj_clI, sj_inI, sj_ltI, sj_leI, sj_eqI, sj_lcI, ms', hL.nz, sj_rd]
        refine pm_at hk ?_
        simp (disch := omega) only [ne_eq, and_self, not_false_eq_true, not_true_eq_false, true_and, and_true, true_or, or_true, false_or, or_false, forall_eq, forall_const, true_implies, false_implies, if_true, if_false, sj_lits, sj_addI, sj_mulI, sj_clI, sj_inI, sj_ltI, sj_leI, sj_eqI, sj_lcI, ms', hL.nz, sj_rd]
        refine ⟨by omega, by omega, pm_at hk ?_⟩
        simp (disch := omega) only [ne_eq, and_self, not_false_eq_true, not_true_eq_false, true_and, and_true, true_or, or_true, false_or, or_false, forall_eq, forall_const, true_implies, false_implies, if_true, if_false, sj_lits, sj_addI, sj_mulI, sj_clI, sj_inI, sj_ltI, sj_leI, sj_eqI, sj_lcI, ms', hL.nz, sj_rd]
        refine ⟨by omega, hK _ _ ⟨l + 1, rfl, by omega, (hfr.l (Or.inl (Or.inl rfl))).l (Or.inl (Or.inl rfl)), hi, fun j hj => ?_, fun i j hi2 hne hj => ?_⟩ ?_⟩
        · simp (disch := omega) only [ne_eq, and_self, not_false_eq_true, not_true_eq_false, true_and, and_true, true_or, or_true, false_or, or_false, forall_eq, forall_const, true_implies, false_implies, if_true, if_false, sj_lits, sj_addI, sj_mulI, sj_clI, sj_inI, sj_ltI, sj_leI, sj_eqI, sj_lcI, sj_rd]
          by_cases c1 : j = n - 1 - l
          · subst c1
            rw [if_pos (by omega), if_pos (by omega), hx l (by omega), if_neg (by omega)]
            congr 1
            omega
          · rw [if_neg (by omega)]
            by_cases c2 : j = l
            · subst c2
              rw [if_pos (by omega), if_pos (by omega), hx (n - 1 - j) (by omega), if_neg (by omega)]
            · rw [if_neg (by omega), hx j hj]
              by_cases c3 : j < l ∨ n - 1 < j + l
              · rw [if_pos c3, if_pos (by omega)]
              · rw [if_neg c3, if_neg (by omega)]
        · simp (disch := omega) only [ne_eq, and_self, not_false_eq_true, not_true_eq_false, true_and, and_true, true_or, or_true, false_or, or_false, forall_eq, forall_const, true_implies, false_implies, if_true, if_false, sj_lits, sj_addI, sj_mulI, sj_clI, sj_inI, sj_ltI, sj_leI, sj_eqI, sj_lcI, sj_rd]
          rw [if_neg (by omega), if_neg (by omega)]
          exact hxo i j hi2 hne hj
        · rw [sj_clI (by omega), sj_clI (by omega)]; omega
    · rw [if_neg (by omega)]
      exact m1.2.2.2.2.2.2.2.2.1 _ _ hr16 (by omega)
  · simp only [hk] at h
    exact pm_no hL hM 1 (by decide) (by decide) h
  · simp only [hk, hr] at h
    exact pm_no hL hM 2 (by decide) (by decide) h

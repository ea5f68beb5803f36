/-! the reference: endings, periods, figures -/
theorem pm_distinct {La : Nat → Nat} {σ : sj_S} {w : sj_W} (hL : sj_La La) (hM : sj_Mo La σ w) (hw : sj_wf σ) {a1 a2 : Int32} {Q : Int32 → sj_W → Prop} (h : so_pM La w (ab_distinct σ a1 a2) Int32.toInt64 Q) : vc_X7_distinct (La 200) a1 a2 w Q := by
  unfold ab_distinct at h
  refine ⟨hM.1.1, pm_noRow (fun k r hk hk4 hr er hr4 => ?_) (fun hk => ?_) (fun k hk hr => ?_)⟩
  · subst er
    simp only [hk, hr] at h
    have c := (hw.1 (k * 4 + r) (by omega)).1
    refine pm_ok hL hM (fun w1 hf hM1 h47 => ⟨hM1.1.1, pm_size hL hM1 hk hr4 ?_⟩)
    refine sj_lp2_run (fun v4 v5 w' => w' = w1 ∧ ∃ p, v5 = nI p ∧ p ≤ sj_n σ (k * 4 + r) ∧ v4 = nI (sj_sum (fun i => sj_n σ (k * 4 + r) - i - sj_ma (sj_n σ (k * 4 + r)) (sj_x σ (k * 4 + r)) i) p)) (fun _ v _ => 40 - v.toNatClampNeg) ?_ 64 _ _ _ ⟨rfl, 0, rfl, by omega, rfl⟩ (by omega)
    rintro v4 v5 w' K ⟨rfl, p, rfl, hp, rfl⟩ hK
    unfold vb_X7_distinct_28
    rw [sj_leI (by omega) (by omega)]
    refine ⟨fun q => ?_, fun q => ?_⟩
    · have e : p = sj_n σ (k * 4 + r) := by omega
      subst e
      exact so_g h hf hM1 h47 rfl
    · refine sj_lp2_run (fun v6 v7 w'' => w'' = w' ∧ ∃ i, v7 = nI i ∧ i ≤ p ∧ v6 = nI (sj_mx (fun a => sj_ls (sj_n σ (k * 4 + r)) (sj_x σ (k * 4 + r)) a p) i)) (fun _ v _ => 40 - v.toNatClampNeg) ?_ 64 _ _ _ ⟨rfl, 0, rfl, by omega, rfl⟩ (by omega)
      rintro v6 v7 w'' K2 ⟨rfl, i, rfl, hi, rfl⟩ hK2
      unfold vb_X7_distinct_40
      rw [sj_leI (by omega) (by omega), sj_subI (a := sj_n σ (k * 4 + r)) (b := i) (by omega), sj_subI (a := sj_n σ (k * 4 + r)) (b := p) (by omega)]
      refine ⟨fun q2 => ?_, fun q2 => ⟨hM1.1.1, pm_alike hL hM1 hw hk hr4 hr4 (by omega) (by omega) ?_⟩⟩
      · have e : i = p := by omega
        subst e
        have h1 := sj_ma_le (n := sj_n σ (k * 4 + r)) (f := sj_x σ (k * 4 + r)) (i := i)
        have h2 : sj_mx (fun a => sj_ls (sj_n σ (k * 4 + r)) (sj_x σ (k * 4 + r)) a i) i = sj_ma (sj_n σ (k * 4 + r)) (sj_x σ (k * 4 + r)) i := rfl
        rw [h2]
        dsimp only
        rw [sj_subI h1, sj_addI]
        refine hK _ _ _ ⟨rfl, i + 1, sj_s1 _, by omega, rfl⟩ ?_
        rw [sj_s1, sj_clI (by omega), sj_clI (by omega)]; omega
      · have h1 := sj_mx_le (f := fun a => sj_ls (sj_n σ (k * 4 + r)) (sj_x σ (k * 4 + r)) a p) (b := sj_n σ (k * 4 + r) - p) i (fun _ _ => sj_ls_le.2)
        have h2 := (sj_ls_le (n := sj_n σ (k * 4 + r)) (f := sj_x σ (k * 4 + r)) (i := i) (j := p)).2
        have e0 : sj_lcp (sj_n σ (k * 4 + r) - i) (fun t => sj_x σ (k * 4 + r) (i + t)) (sj_n σ (k * 4 + r) - p) (fun t => sj_x σ (k * 4 + r) (p + t)) = sj_ls (sj_n σ (k * 4 + r)) (sj_x σ (k * 4 + r)) i p := rfl
        rw [e0, sj_leI (by omega) (by omega)]
        have nx : ∀ v, v = nI (sj_mx (fun a => sj_ls (sj_n σ (k * 4 + r)) (sj_x σ (k * 4 + r)) a p) (i + 1)) → K2 v (nI i + 1) w'' := by
          intro v ev
          refine hK2 _ _ _ ⟨rfl, i + 1, sj_s1 _, by omega, ev⟩ ?_
          rw [sj_s1, sj_clI (by omega), sj_clI (by omega)]; omega
        have ms : sj_mx (fun a => sj_ls (sj_n σ (k * 4 + r)) (sj_x σ (k * 4 + r)) a p) (i + 1) = if sj_mx (fun a => sj_ls (sj_n σ (k * 4 + r)) (sj_x σ (k * 4 + r)) a p) i < sj_ls (sj_n σ (k * 4 + r)) (sj_x σ (k * 4 + r)) i p then sj_ls (sj_n σ (k * 4 + r)) (sj_x σ (k * 4 + r)) i p else sj_mx (fun a => sj_ls (sj_n σ (k * 4 + r)) (sj_x σ (k * 4 + r)) a p) i := rfl
        refine ⟨fun z => nx _ ?_, fun z => nx _ ?_⟩
        · rw [ms, if_neg (by omega)]
        · rw [ms, if_pos (by omega)]
  · simp only [hk] at h
    exact pm_no hL hM 1 (by decide) (by decide) h
  · simp only [hk, hr] at h
    exact pm_no hL hM 2 (by decide) (by decide) h
theorem pm_longest {La : Nat → Nat} {σ : sj_S} {w : sj_W} (hL : sj_La La) (hM : sj_Mo La σ w) (hw : sj_wf σ) {a1 a2 : Int32} {Q : Int32 → sj_W → Prop} (h : so_pM La w (ab_longest σ a1 a2) Int32.toInt64 Q) : vc_X7_longest (La 200) a1 a2 w Q := by
  unfold ab_longest at h
  refine ⟨hM.1.1, pm_noRow (fun k r hk hk4 hr er hr4 => ?_) (fun hk => ?_) (fun k hk hr => ?_)⟩
  · subst er
    simp only [hk, hr] at h
    have c := (hw.1 (k * 4 + r) (by omega)).1
    refine pm_ok hL hM (fun w1 hf hM1 h47 => ⟨hM1.1.1, pm_size hL hM1 hk hr4 ?_⟩)
    have A32 : ∀ p, sj_mx (sj_ma (sj_n σ (k * 4 + r)) (sj_x σ (k * 4 + r))) p ≤ 32 := fun p => sj_mx_le p (fun i _ => by have := sj_ma_le (n := sj_n σ (k * 4 + r)) (f := sj_x σ (k * 4 + r)) (i := i); omega)
    refine sj_lp2_run (fun v4 v5 w' => w' = w1 ∧ ∃ p, v5 = nI p ∧ p ≤ sj_n σ (k * 4 + r) ∧ v4 = nI (sj_mx (sj_ma (sj_n σ (k * 4 + r)) (sj_x σ (k * 4 + r))) p)) (fun _ v _ => 40 - v.toNatClampNeg) ?_ 64 _ _ _ ⟨rfl, 0, rfl, by omega, rfl⟩ (by omega)
    rintro v4 v5 w' K ⟨rfl, p, rfl, hp, rfl⟩ hK
    unfold vb_X7_longest_28
    rw [sj_leI (by omega) (by omega)]
    refine ⟨fun q => ?_, fun q => ?_⟩
    · have e : p = sj_n σ (k * 4 + r) := by omega
      subst e
      exact so_g h hf hM1 h47 rfl
    · have hA := A32 p
      refine sj_lp2_run (fun v6 v7 w'' => w'' = w' ∧ ∃ i, v7 = nI i ∧ i ≤ p ∧ v6 = nI (max (sj_mx (sj_ma (sj_n σ (k * 4 + r)) (sj_x σ (k * 4 + r))) p) (sj_mx (fun a => sj_ls (sj_n σ (k * 4 + r)) (sj_x σ (k * 4 + r)) a p) i))) (fun _ v _ => 40 - v.toNatClampNeg) ?_ 64 _ _ _ ⟨rfl, 0, rfl, by omega, congrArg nI (Nat.max_zero _).symm⟩ (by omega)
      rintro v6 v7 w'' K2 ⟨rfl, i, rfl, hi, rfl⟩ hK2
      unfold vb_X7_longest_37
      rw [sj_leI (by omega) (by omega), sj_subI (a := sj_n σ (k * 4 + r)) (b := i) (by omega), sj_subI (a := sj_n σ (k * 4 + r)) (b := p) (by omega)]
      refine ⟨fun q2 => ?_, fun q2 => ⟨hM1.1.1, pm_alike hL hM1 hw hk hr4 hr4 (by omega) (by omega) ?_⟩⟩
      · have e : i = p := by omega
        subst e
        refine hK _ _ _ ⟨rfl, i + 1, sj_s1 _, by omega, ?_⟩ ?_
        · show nI (max _ (sj_ma (sj_n σ (k * 4 + r)) (sj_x σ (k * 4 + r)) i)) = nI (if _ then _ else _)
          congr 1
          split <;> omega
        · rw [sj_s1, sj_clI (by omega), sj_clI (by omega)]; omega
      · have h1 := sj_mx_le (f := fun a => sj_ls (sj_n σ (k * 4 + r)) (sj_x σ (k * 4 + r)) a p) (b := sj_n σ (k * 4 + r) - p) i (fun _ _ => sj_ls_le.2)
        have h2 := (sj_ls_le (n := sj_n σ (k * 4 + r)) (f := sj_x σ (k * 4 + r)) (i := i) (j := p)).2
        have e0 : sj_lcp (sj_n σ (k * 4 + r) - i) (fun t => sj_x σ (k * 4 + r) (i + t)) (sj_n σ (k * 4 + r) - p) (fun t => sj_x σ (k * 4 + r) (p + t)) = sj_ls (sj_n σ (k * 4 + r)) (sj_x σ (k * 4 + r)) i p := rfl
        rw [e0, sj_leI (by omega) (by omega)]
        have nx : ∀ v, v = nI (max (sj_mx (sj_ma (sj_n σ (k * 4 + r)) (sj_x σ (k * 4 + r))) p) (sj_mx (fun a => sj_ls (sj_n σ (k * 4 + r)) (sj_x σ (k * 4 + r)) a p) (i + 1))) → K2 v (nI i + 1) w'' := by
          intro v ev
          refine hK2 _ _ _ ⟨rfl, i + 1, sj_s1 _, by omega, ev⟩ ?_
          rw [sj_s1, sj_clI (by omega), sj_clI (by omega)]; omega
        have ms : sj_mx (fun a => sj_ls (sj_n σ (k * 4 + r)) (sj_x σ (k * 4 + r)) a p) (i + 1) = if sj_mx (fun a => sj_ls (sj_n σ (k * 4 + r)) (sj_x σ (k * 4 + r)) a p) i < sj_ls (sj_n σ (k * 4 + r)) (sj_x σ (k * 4 + r)) i p then sj_ls (sj_n σ (k * 4 + r)) (sj_x σ (k * 4 + r)) i p else sj_mx (fun a => sj_ls (sj_n σ (k * 4 + r)) (sj_x σ (k * 4 + r)) a p) i := rfl
        refine ⟨fun z => nx _ ?_, fun z => nx _ ?_⟩
        · rw [ms]
          congr 1
          clear ms
          split <;> omega
        · rw [ms]
          congr 1
          clear ms
          split <;> omega
  · simp only [hk] at h
    exact pm_no hL hM 1 (by decide) (by decide) h
  · simp only [hk, hr] at h
    exact pm_no hL hM 2 (by decide) (by decide) h
theorem pm_occurs {La : Nat → Nat} {σ : sj_S} {w : sj_W} (hL : sj_La La) (hM : sj_Mo La σ w) (hw : sj_wf σ) {a1 a2 a3 : Int32} {Q : Int32 → sj_W → Prop} (h : so_pM La w (ab_occurs σ a1 a2 a3) Int32.toInt64 Q) : vc_X7_occurs (La 200) a1 a2 a3 w Q := by
  unfold ab_occurs at h
  refine pm_isKind (fun k hk hk4 => ⟨fun _ => pm_isRow (fun r hr er hr4 => ⟨fun z => absurd z (by decide), fun _ => pm_isSpan (fun i hi ei hi12 => ⟨fun _ => ⟨hM.1.1, ?_⟩, fun z => absurd z (by decide)⟩) (fun hi => ⟨fun z => absurd rfl z, fun _ => ?_⟩)⟩) (fun hr => ⟨fun _ => ?_, fun z => absurd rfl z⟩), fun z => absurd z (by decide)⟩) (fun hk => ⟨fun z => absurd rfl z, fun _ => ?_⟩)
  · subst er ei
    simp only [hk, hr, hi] at h
    have hr16 : k * 4 + r < 16 := by omega
    have c := (hw.1 (k * 4 + r) (by omega)).1
    refine pm_isFit hL hM hw hk hi12 (fun f => ⟨fun z => absurd z (by decide), fun _ => ?_⟩) (fun f => ⟨fun _ => ?_, fun z => absurd rfl z⟩)
    · rw [if_pos f] at h
      have b := hw.2.1 i hi12
      have cm : sj_wn σ i ≤ 32 := by unfold sj_wn; omega
      unfold sj_fit at f
      refine pm_ok hL hM (fun w1 hf hM1 h47 => ⟨hM1.1.1, pm_many hL hM1 hw hi12 ?_⟩)
      have m := hM1.all
      refine sj_lp2_run (fun v5 v6 w' => w' = w1 ∧ ∃ p, v6 = nI p ∧ p ≤ sj_n σ (k * 4 + r) + 1 - sj_wn σ i ∧ v5 = nI (sj_cnt (sj_occ (sj_x σ (k * 4 + r)) (sj_wx σ k i) (sj_wn σ i)) p)) (fun _ v _ => 40 - v.toNatClampNeg) ?_ 64 _ _ _ ⟨rfl, 0, rfl, by omega, rfl⟩ (by omega)
      rintro v5 v6 w' K ⟨rfl, p, rfl, hp, rfl⟩ hK
      have hcl := sj_cnt_le (sj_occ (sj_x σ (k * 4 + r)) (sj_wx σ k i) (sj_wn σ i)) p
      have step : ∀ b, sj_occ (sj_x σ (k * 4 + r)) (sj_wx σ k i) (sj_wn σ i) p = b → p < sj_n σ (k * 4 + r) + 1 - sj_wn σ i → K (nI (sj_cnt (sj_occ (sj_x σ (k * 4 + r)) (sj_wx σ k i) (sj_wn σ i)) p + (if b then 1 else 0))) (nI (p + 1)) w' := by
        intro b0 h3 h4
        refine hK _ _ _ ⟨rfl, p + 1, rfl, by omega, by rw [← h3]; rfl⟩ ?_
        rw [sj_clI (by omega), sj_clI (by omega)]
        omega
      refine ⟨m.1.1, pm_size hL hM1 hk hr4 ?_⟩
      simp (disch := omega) only [sj_lits, sj_leI, sj_ltI, sj_addI]
      refine ⟨fun q => ?_, fun q => ?_⟩
      · have e : sj_n σ (k * 4 + r) + 1 - sj_wn σ i = p := by omega
        rw [e] at h
        exact so_g h hf hM1 h47 rfl
      · have hpl : p < sj_n σ (k * 4 + r) + 1 - sj_wn σ i := by omega
        simp (disch := omega) only [ne_eq, and_self, not_false_eq_true, not_true_eq_false, true_and, and_true, true_or, or_true, false_or, or_false, forall_eq, forall_const, true_implies, false_implies, if_true, if_false, sj_lits, sj_addI, sj_mulI, sj_clI, sj_inI, sj_ltI, sj_leI, sj_eqI, sj_lcI, m, hL.nz, hi12]
        refine pm_alike hL hM1 hw hk hr4 b.1 (by omega) (by unfold sj_wn; omega) ?_
        have e9 : (fun j => sj_x σ (k * 4 + sj_pr σ i) (sj_pf σ i + j)) = sj_wx σ k i := rfl
        have hlc := (sj_lcp_is (sj_wn σ i) (fun j => sj_x σ (k * 4 + r) (p + j)) (sj_wn σ i) (sj_wx σ k i)).2.1
        rw [e9, sj_eqI (by omega) (by omega), sj_lcp_occ (Nat.le_refl _)]
        exact ⟨fun z => step false (Bool.eq_false_iff.mpr z) hpl, fun z => step true z hpl⟩
    · rw [if_neg f] at h
      exact pm_no hL hM 3 (by decide) (by decide) h
  · simp only [hk, hr, hi] at h
    exact pm_no hL hM 2 (by decide) (by decide) h
  · simp only [hk, hr] at h
    exact pm_no hL hM 2 (by decide) (by decide) h
  · simp only [hk] at h
    exact pm_no hL hM 1 (by decide) (by decide) h
theorem pm_isPeriod {La : Nat → Nat} {σ : sj_S} {w : sj_W} (hL : sj_La La) (hM : sj_Mo La σ w) (hw : sj_wf σ) {a1 a2 a3 : Int32} {Q : Int32 → sj_W → Prop} (h : so_pM La w (ab_isPeriod σ a1 a2 a3) Int32.toInt64 Q) : vc_X7_isPeriod (La 200) a1 a2 a3 w Q := by
  unfold ab_isPeriod at h
  have e1 : (1 : Int64).toInt = 1 := rfl
  refine pm_isKind (fun k hk hk4 => ⟨fun _ => pm_isRow (fun r hr er hr4 => ⟨fun z => absurd z (by decide), fun _ => ⟨hM.1.1, ?_⟩⟩) (fun hr => ⟨fun _ => ?_, fun z => absurd rfl z⟩), fun z => absurd z (by decide)⟩) (fun hk => ⟨fun z => absurd rfl z, fun _ => ?_⟩)
  · subst er
    simp only [hk, hr] at h
    have c := (hw.1 (k * 4 + r) (by omega)).1
    refine pm_size hL hM hk hr4 (pm_in (fun t1 t2 => ⟨fun z => absurd z (by decide), fun _ => ?_⟩) (fun t1 => ⟨fun _ => ?_, fun z => absurd rfl z⟩))
    · rw [Int32.toInt_toInt64, e1] at t1
      rw [Int32.toInt_toInt64, Int32.toInt_toInt64, nI_toInt (by omega)] at t2
      rw [if_pos ⟨t1, t2⟩] at h
      have e3 := sj_asN (x := a3) (by omega)
      generalize h3 : a3.toInt.toNat = p at h e3
      have hp : p ≤ 32 := by omega
      subst e3
      refine pm_ok' hL hM (fun w1 hf hM1 h47 => ⟨hM1.1.1, pm_is hL hM1 hw hk hr4 hp (fun z => ⟨fun y => absurd y (by decide), fun _ => ?_⟩) (fun z => ⟨fun _ => ?_, fun y => absurd rfl y⟩)⟩)
      · rw [if_pos z] at h
        exact so_g h hf hM1 h47 rfl
      · rw [if_neg (by rw [z]; decide)] at h
        exact so_g h hf hM1 h47 rfl
    · rw [Int32.toInt_toInt64, Int32.toInt_toInt64, e1, nI_toInt (by omega)] at t1
      rw [if_neg t1] at h
      exact pm_no' hL hM 2 (by decide) (by decide) h
  · simp only [hk, hr] at h
    exact pm_no' hL hM 2 (by decide) (by decide) h
  · simp only [hk] at h
    exact pm_no' hL hM 1 (by decide) (by decide) h
theorem pm_period {La : Nat → Nat} {σ : sj_S} {w : sj_W} (hL : sj_La La) (hM : sj_Mo La σ w) (hw : sj_wf σ) {a1 a2 : Int32} {Q : Int32 → sj_W → Prop} (h : so_pM La w (ab_period σ a1 a2) Int32.toInt64 Q) : vc_X7_period (La 200) a1 a2 w Q := by
  unfold ab_period at h
  refine ⟨hM.1.1, pm_noRow (fun k r hk hk4 hr er hr4 => ?_) (fun hk => ?_) (fun k hk hr => ?_)⟩
  · subst er
    simp only [hk, hr] at h
    have c := (hw.1 (k * 4 + r) (by omega)).1
    refine pm_ok' hL hM (fun w1 hf hM1 h47 => ⟨hM1.1.1, pm_size hL hM1 hk hr4 ?_⟩)
    rw [sj_lits 0, sj_eqI (by omega) (by omega)]
    refine ⟨fun q => ?_, fun q => ?_⟩
    · refine sj_lp1_run (fun v w' => w' = w1 ∧ ∃ i, v = nI i ∧ 1 ≤ i ∧ i ≤ sj_n σ (k * 4 + r) ∧ ∀ j, 1 ≤ j → j < i → sj_per (sj_n σ (k * 4 + r)) (sj_x σ (k * 4 + r)) j = false) (fun v _ => 40 - v.toNatClampNeg) ?_ 64 _ _ ⟨rfl, 1, rfl, by omega, by omega, fun j h1 h2 => by omega⟩ (by omega)
      rintro v w' K ⟨rfl, i, rfl, h1, h2, h3⟩ hK
      unfold vb_X7_period_26
      refine ⟨hM1.1.1, pm_is hL hM1 hw hk hr4 (by omega) (fun z => ⟨fun _ => so_g h hf hM1 h47 ?_, fun y => absurd y (by decide)⟩) (fun z => ⟨fun y => absurd rfl y, fun _ => hK _ _ ⟨rfl, i + 1, sj_s1 _, by omega, ?_, fun j y1 y2 => ?_⟩ ?_⟩)⟩
      · exact congrArg (fun t => (nI t).toInt64) (sj_perd_eq q h1 h2 h3 (fun _ => z)).symm
      · by_cases e : i = sj_n σ (k * 4 + r)
        · rw [e, sj_per_n (Nat.le_refl _)] at z
          cases z
        · omega
      · by_cases e : j = i
        · subst e; exact z
        · exact h3 j y1 (by omega)
      · rw [sj_s1, sj_clI (by omega), sj_clI (by omega)]; omega
    · refine so_g h hf hM1 h47 ?_
      rw [q]
      rfl
  · simp only [hk] at h
    exact pm_no' hL hM 1 (by decide) (by decide) h
  · simp only [hk, hr] at h
    exact pm_no' hL hM 2 (by decide) (by decide) h
theorem pm_root {La : Nat → Nat} {σ : sj_S} {w : sj_W} (hL : sj_La La) (hM : sj_Mo La σ w) (hw : sj_wf σ) {a1 a2 : Int32} {Q : Int32 → sj_W → Prop} (h : so_pM La w (ab_root σ a1 a2) Int32.toInt64 Q) : vc_X7_root (La 200) a1 a2 w Q := by
  unfold ab_root at h
  refine ⟨hM.1.1, pm_noRow (fun k r hk hk4 hr er hr4 => ?_) (fun hk => ?_) (fun k hk hr => ?_)⟩
  · subst er
    simp only [hk, hr] at h
    have c := (hw.1 (k * 4 + r) (by omega)).1
    refine pm_ok' hL hM (fun w1 hf hM1 h47 => ⟨hM1.1.1, pm_size hL hM1 hk hr4 ?_⟩)
    rw [sj_lits 0, sj_eqI (by omega) (by omega)]
    refine ⟨fun q => ?_, fun q => ?_⟩
    · refine sj_lp1_run (fun v w' => w' = w1 ∧ ∃ i, v = nI i ∧ 1 ≤ i ∧ i ≤ sj_n σ (k * 4 + r) ∧ ∀ j, 1 ≤ j → j < i → sj_rooB (sj_n σ (k * 4 + r)) (sj_x σ (k * 4 + r)) j = false) (fun v _ => 40 - v.toNatClampNeg) ?_ 64 _ _ ⟨rfl, 1, rfl, by omega, by omega, fun j h1 h2 => by omega⟩ (by omega)
      rintro v w' K ⟨rfl, i, rfl, h1, h2, h3⟩ hK
      have hm : sj_n σ (k * 4 + r) % i < 2147483648 := Nat.lt_of_lt_of_le (Nat.mod_lt _ h1) (by omega)
      have nxt : sj_rooB (sj_n σ (k * 4 + r)) (sj_x σ (k * 4 + r)) i = false → K (nI i + 1) w' := by
        intro z
        refine hK _ _ ⟨rfl, i + 1, sj_s1 _, by omega, ?_, fun j y1 y2 => ?_⟩ ?_
        · by_cases e : i = sj_n σ (k * 4 + r)
          · rw [e] at z
            unfold sj_rooB at z
            rw [sj_per_n (Nat.le_refl _), Nat.mod_self] at z
            cases z
          · omega
        · by_cases e : j = i
          · subst e; exact z
          · exact h3 j y1 (by omega)
        · rw [sj_s1, sj_clI (by omega), sj_clI (by omega)]; omega
      unfold vb_X7_root_26
      refine ⟨hM1.1.1, pm_size hL hM1 hk hr4 ?_⟩
      rw [pk_rem (by omega) h1 (by omega)]
      simp (disch := omega) only [sj_lits 0, sj_eqI]
      refine ⟨by omega, fun z => nxt ?_, fun z => ⟨hM1.1.1, pm_is hL hM1 hw hk hr4 (by omega) (fun y => ⟨fun _ => so_g h hf hM1 h47 ?_, fun t => absurd t (by decide)⟩) (fun y => ⟨fun t => absurd rfl t, fun _ => nxt ?_⟩)⟩⟩
      · unfold sj_rooB
        rw [decide_eq_false z, Bool.false_and]
      · refine congrArg (fun t => (nI t).toInt64) (sj_perd_eq q h1 h2 h3 (fun _ => ?_)).symm
        unfold sj_rooB
        rw [decide_eq_true z, y]
        rfl
      · unfold sj_rooB
        rw [y, Bool.and_false]
    · refine so_g h hf hM1 h47 ?_
      rw [q]
      rfl
  · simp only [hk] at h
    exact pm_no' hL hM 1 (by decide) (by decide) h
  · simp only [hk, hr] at h
    exact pm_no' hL hM 2 (by decide) (by decide) h
theorem pm_mean {La : Nat → Nat} {σ : sj_S} {w : sj_W} (hL : sj_La La) (hM : sj_Mo La σ w) (hw : sj_wf σ) {a1 : Int32} {Q : UInt64 → sj_W → Prop} (h : so_pM La w (ab_mean σ a1) sj_cd Q) : vc_X7_mean (La 200) a1 w Q := by
  unfold ab_mean at h
  refine pm_isKind (fun k hk hk4 => ⟨fun z => absurd z (by decide), fun _ => ?_⟩) (fun hk => ⟨fun _ => ?_, fun z => absurd rfl z⟩)
  · simp only [hk] at h
    refine pm_ok hL hM (fun w1 hf hM1 h47 => ?_)
    refine sj_lp2_run (fun v3 v4 w' => w' = w1 ∧ ∃ i, v4 = nI i ∧ i ≤ 4 ∧ v3 = nI (sj_sum (fun j => sj_n σ (k * 4 + j)) i) ∧ sj_sum (fun j => sj_n σ (k * 4 + j)) i ≤ 32 * i) (fun _ v _ => 5 - v.toNatClampNeg) ?_ 64 _ _ _ ⟨rfl, 0, rfl, by omega, rfl, Nat.zero_le _⟩ (by omega)
    rintro v3 v4 w' K ⟨rfl, i, rfl, hi, rfl, hs⟩ hK
    unfold vb_X7_mean_25
    rw [sj_lits 4, sj_leI (by omega) (by omega)]
    refine ⟨fun q => ?_, fun q => ⟨hM1.1.1, pm_size hL hM1 hk (by omega) ?_⟩⟩
    · have e : i = 4 := by omega
      subst e
      have e2 : sj_sum (fun j => sj_n σ (k * 4 + j)) 4 = sj_n σ (k * 4) + sj_n σ (k * 4 + 1) + sj_n σ (k * 4 + 2) + sj_n σ (k * 4 + 3) := by
        simp only [sj_sum, Nat.zero_add, Nat.add_zero]
      refine ⟨sj_mq_ok _ (by omega), so_g h hf hM1 h47 ?_⟩
      rw [e2]
      rfl
    · have c := (hw.1 (k * 4 + i) (by omega)).1
      rw [sj_addI]
      refine hK _ _ _ ⟨rfl, i + 1, sj_s1 _, by omega, rfl, ?_⟩ ?_
      · show sj_sum (fun j => sj_n σ (k * 4 + j)) i + sj_n σ (k * 4 + i) ≤ _
        omega
      · rw [sj_s1, sj_clI (by omega), sj_clI (by omega)]; omega
  · simp only [hk] at h
    exact pm_no hL hM 1 (by decide) (by decide) h
def ab_isTrue (σ : sj_S) (a1 a2 a3 a4 : Int32) : sj_O := match sj_kd a1 with
  | none => (1, 0, σ)
  | some k => match sj_ix 12 a2 with
    | none => (2, 0, σ)
    | some i => match sj_ix 12 a3 with
      | none => (2, 0, σ)
      | some j => match sj_ix 12 a4 with
        | none => (2, 0, σ)
        | some l => if sj_fit σ k i ∧ sj_fit σ k j ∧ sj_fit σ k l then (0, 1, σ) else (3, 0, σ)
def ab_rowIsTrue (σ : sj_S) (a1 a2 a3 : Int32) : sj_O := match sj_kd a1 with
  | none => (1, 0, σ)
  | some k => match sj_od a2 with
    | none => (1, 0, σ)
    | some u => match sj_ix 4 a3 with
      | none => (2, 0, σ)
      | some r => (0, 1, σ)
theorem pm_isTrue {La : Nat → Nat} {σ : sj_S} {w : sj_W} (hL : sj_La La) (hM : sj_Mo La σ w) (hw : sj_wf σ) {a1 a2 a3 a4 : Int32} {Q : Int32 → sj_W → Prop} (h : so_pM La w (ab_isTrue σ a1 a2 a3 a4) Int32.toInt64 Q) : vc_X7_isTrue (La 200) a1 a2 a3 a4 w Q := by
  unfold ab_isTrue at h
  refine pm_isKind (fun k hk hk4 => ⟨hM.1.1, ?_⟩) (fun hk => ⟨hM.1.1, fun z => absurd rfl z, fun _ => pm_isKind (fun k hk2 _ => ?_) (fun _ => ⟨hM.1.1, fun z => absurd rfl z, fun _ => ⟨fun _ => ⟨fun _ => ⟨fun _ => ?_, fun z => absurd (by decide) z⟩, fun z => absurd z (by decide)⟩, fun z => absurd z (by decide)⟩⟩)⟩)
  · have I : ∀ {Q2 : Int32 → sj_W → Prop}, Q2 1 w → vc_X7_isKind a1 w Q2 := fun hq => pm_isKind (fun _ _ _ => hq) (fun e => by rw [hk] at e; cases e)
    have thr : ∀ {Q2 : Int32 → sj_W → Prop}, (∀ l, sj_ix 12 a4 = some l → sj_fit σ k l → Q2 0 w) → (sj_ix 12 a4 = none → Q2 2 w) → (∀ l, sj_ix 12 a4 = some l → ¬ sj_fit σ k l → Q2 3 w) → vc_X7_noWords (La 200) 1 a1 a4 a4 w Q2 := fun y0 y2 y3 =>
      pm_noWords hL hM hw hk (fun i j hi _ _ hj _ _ fi fj => y0 i hi fi) y2 (fun i hi hj => by rw [hi] at hj; cases hj) (fun i j hi hj hf => y3 i hi (fun z => by rw [hi] at hj; cases hj; exact hf ⟨z, z⟩))
    refine pm_noWords hL hM hw hk (fun i j hi ei hi12 hj ej hj12 fi fj => ?_) (fun hi => ?_) (fun i hi hj => ?_) (fun i j hi hj hf => ?_)
    · refine I ⟨hM.1.1, thr (fun l hl fl => ⟨fun z => absurd rfl z, fun _ => ?_⟩) (fun hl => ⟨fun z => absurd rfl z, fun _ => ?_⟩) (fun l hl fl => ⟨fun z => absurd rfl z, fun _ => ?_⟩)⟩
      · simp only [hk, hi, hj, hl] at h
        rw [if_pos ⟨fi, fj, fl⟩] at h
        exact pm_ok' hL hM (fun w1 hf hM1 h47 => so_g h hf hM1 h47 rfl)
      · simp only [hk, hi, hj, hl] at h
        exact pm_no' hL hM 2 (by decide) (by decide) h
      · simp only [hk, hi, hj, hl] at h
        rw [if_neg (fun z => fl z.2.2)] at h
        exact pm_no' hL hM 3 (by decide) (by decide) h
    · simp only [hk, hi] at h
      have no2 := fun X => pm_no' hL hM (X := X) 2 (by decide) (by decide) h (r0 := 0)
      refine I ⟨hM.1.1, thr (fun l hl fl => ⟨fun _ => ⟨fun z => absurd rfl z, fun _ => no2 _⟩, fun z => absurd z (by decide)⟩) (fun hl => ⟨fun _ => ⟨fun _ => ⟨fun _ => no2 _, fun z => absurd (by decide) z⟩, fun z => absurd z (by decide)⟩, fun z => absurd z (by decide)⟩) (fun l hl fl => ⟨fun _ => ⟨fun _ => ⟨fun z => absurd z (by decide), fun _ => no2 _⟩, fun z => absurd z (by decide)⟩, fun z => absurd z (by decide)⟩)⟩
    · simp only [hk, hi, hj] at h
      have no2 := fun X => pm_no' hL hM (X := X) 2 (by decide) (by decide) h (r0 := 0)
      refine I ⟨hM.1.1, thr (fun l hl fl => ⟨fun _ => ⟨fun z => absurd rfl z, fun _ => no2 _⟩, fun z => absurd z (by decide)⟩) (fun hl => ⟨fun _ => ⟨fun _ => ⟨fun _ => no2 _, fun z => absurd (by decide) z⟩, fun z => absurd z (by decide)⟩, fun z => absurd z (by decide)⟩) (fun l hl fl => ⟨fun _ => ⟨fun _ => ⟨fun z => absurd z (by decide), fun _ => no2 _⟩, fun z => absurd z (by decide)⟩, fun z => absurd z (by decide)⟩)⟩
    · refine I ⟨hM.1.1, thr (fun l hl fl => ⟨fun _ => ⟨fun z => absurd rfl z, fun _ => ?_⟩, fun z => absurd z (by decide)⟩) (fun hl => ⟨fun _ => ⟨fun _ => ⟨fun _ => ?_, fun z => absurd (by decide) z⟩, fun z => absurd z (by decide)⟩, fun z => absurd z (by decide)⟩) (fun l hl fl => ⟨fun _ => ⟨fun _ => ⟨fun _ => ?_, fun z => absurd (by decide) z⟩, fun z => absurd z (by decide)⟩, fun z => absurd z (by decide)⟩)⟩
      · simp only [hk, hi, hj, hl] at h
        rw [if_neg (fun z => hf ⟨z.1, z.2.1⟩)] at h
        exact pm_no' hL hM 3 (by decide) (by decide) h
      · simp only [hk, hi, hj, hl] at h
        exact pm_no' hL hM 2 (by decide) (by decide) h
      · simp only [hk, hi, hj, hl] at h
        rw [if_neg (fun z => hf ⟨z.1, z.2.1⟩)] at h
        exact pm_no' hL hM 3 (by decide) (by decide) h
  · rw [hk] at hk2
    cases hk2
  · simp only [hk] at h
    exact pm_no' hL hM 1 (by decide) (by decide) h
theorem pm_rowIsTrue {La : Nat → Nat} {σ : sj_S} {w : sj_W} (hL : sj_La La) (hM : sj_Mo La σ w) (hw : sj_wf σ) {a1 a2 a3 : Int32} {Q : Int32 → sj_W → Prop} (h : so_pM La w (ab_rowIsTrue σ a1 a2 a3) Int32.toInt64 Q) : vc_X7_rowIsTrue (La 200) a1 a2 a3 w Q := by
  unfold ab_rowIsTrue at h
  refine ⟨hM.1.1, pm_noOrder (fun k u r hk hk4 hu hr er hr4 => ?_) (fun hk => ?_) (fun k hk hu => ?_) (fun k u hk hu hr => ?_)⟩
  · simp only [hk, hu, hr] at h
    exact pm_ok' hL hM (fun w1 hf hM1 h47 => so_g h hf hM1 h47 rfl)
  · simp only [hk] at h
    exact pm_no' hL hM 1 (by decide) (by decide) h
  · simp only [hk, hu] at h
    exact pm_no' hL hM 1 (by decide) (by decide) h
  · simp only [hk, hu, hr] at h
    exact pm_no' hL hM 2 (by decide) (by decide) h

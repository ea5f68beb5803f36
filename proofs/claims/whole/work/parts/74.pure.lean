/-! the reference: spans and words -/
theorem pm_tells {La : Nat → Nat} {σ : sj_S} {w : sj_W} (hL : sj_La La) (hM : sj_Mo La σ w) (hw : sj_wf σ) {a1 a2 : Int32} {Q : Int32 → sj_W → Prop} (h : so_pM La w (ab_tells σ a1 a2) Int32.toInt64 Q) : vc_X7_tells (La 200) a1 a2 w Q := by
  unfold ab_tells at h
  refine pm_isSpan (fun i hi ei hi12 => ⟨fun _ => ⟨fun e => ?_, fun e => ⟨fun e2 => ?_, fun e2 => ⟨fun e3 => ?_, fun e3 => ?_⟩⟩⟩, fun z => absurd z (by decide)⟩) (fun hi => ⟨fun z => absurd rfl z, fun _ => ?_⟩)
  · subst e ei
    simp only [hi] at h
    refine pm_ok hL hM (fun w1 hf hM1 h47 => ⟨fun z => absurd rfl z, fun _ => ?_⟩)
    have m := hM1.all
    simp (disch := omega) only [ne_eq, and_self, not_false_eq_true, not_true_eq_false, true_and, and_true, true_or, or_true, false_or, or_false, forall_eq, forall_const, true_implies, false_implies, if_true, if_false, sj_lits, sj_addI, sj_mulI, sj_clI, sj_inI, sj_ltI, sj_leI, sj_eqI, sj_lcI, m, hL.nz, hi12]
    exact so_g h hf hM1 h47 rfl
  · subst e2 ei
    simp only [hi] at h
    refine pm_ok hL hM (fun w1 hf hM1 h47 => ⟨fun _ => ⟨fun z => absurd rfl z, fun _ => ?_⟩, fun z => absurd z (by decide)⟩)
    have m := hM1.all
    simp (disch := omega) only [ne_eq, and_self, not_false_eq_true, not_true_eq_false, true_and, and_true, true_or, or_true, false_or, or_false, forall_eq, forall_const, true_implies, false_implies, if_true, if_false, sj_lits, sj_addI, sj_mulI, sj_clI, sj_inI, sj_ltI, sj_leI, sj_eqI, sj_lcI, m, hL.nz, hi12]
    exact so_g h hf hM1 h47 rfl
  · simp only [hi, if_neg e, if_neg e2, if_neg e3] at h
    exact pm_no hL hM 2 (by decide) (by decide) h
  · subst e3 ei
    simp only [hi] at h
    refine pm_ok hL hM (fun w1 hf hM1 h47 => ⟨fun _ => ⟨fun _ => ?_, fun z => absurd z (by decide)⟩, fun z => absurd z (by decide)⟩)
    have m := hM1.all
    simp (disch := omega) only [ne_eq, and_self, not_false_eq_true, not_true_eq_false, true_and, and_true, true_or, or_true, false_or, or_false, forall_eq, forall_const, true_implies, false_implies, if_true, if_false, sj_lits, sj_addI, sj_mulI, sj_clI, sj_inI, sj_ltI, sj_leI, sj_eqI, sj_lcI, m, hL.nz, hi12]
    exact so_g h hf hM1 h47 rfl
  · simp only [hi] at h
    exact pm_no hL hM 1 (by decide) (by decide) h
theorem sj_si_o {w : sj_W} {a b j y : Nat} {v : Int32} (h : b ≠ a) : sj_i (sj_si w a j v) b y = sj_i w b y := if_neg (fun z => h z.1)
theorem sj_si_s {w : sj_W} {a j y : Nat} {v : Int32} : sj_i (sj_si w a j v) a y = if y = j then v else sj_i w a y := by
  show (if a = a ∧ y = j then v else sj_i w a y) = _
  by_cases e : y = j
  · rw [if_pos ⟨rfl, e⟩, if_pos e]
  · rw [if_neg (fun z => e z.2), if_neg e]
theorem pm_span {La : Nat → Nat} {σ : sj_S} {w : sj_W} (hL : sj_La La) (hM : sj_Mo La σ w) (hw : sj_wf σ) {a1 a2 a3 a4 : Int32} {Q : Int32 → sj_W → Prop} (h : so_pM La w (ab_span σ a1 a2 a3 a4) Int32.toInt64 Q) : vc_X7_span (La 200) a1 a2 a3 a4 w Q := by
  unfold ab_span at h
  have e0 : (0 : Int64).toInt = 0 := rfl
  have e32 : (32 : Int64).toInt = 32 := rfl
  refine pm_isSpan (fun i hi ei hi12 => ⟨fun z => absurd z (by decide), fun _ => pm_isRow (fun r hr er hr4 => ⟨fun _ => pm_in (fun t1 t2 => ⟨fun z => absurd z (by decide), fun _ => pm_in (fun t3 t4 => ⟨fun z => absurd z (by decide), fun _ => ?_⟩) (fun t3 => ⟨fun _ => ?_, fun z => absurd rfl z⟩)⟩) (fun t1 => ⟨fun _ => ?_, fun z => absurd rfl z⟩), fun z => absurd z (by decide)⟩) (fun hr => ⟨fun z => absurd rfl z, fun _ => ?_⟩)⟩) (fun hi => ⟨fun _ => ?_, fun z => absurd rfl z⟩)
  · subst ei
    simp only [hi, hr] at h
    rw [Int32.toInt_toInt64, e0] at t1
    rw [Int32.toInt_toInt64, e32] at t2
    rw [Int32.toInt_toInt64, Int32.toInt_toInt64] at t3
    rw [Int32.toInt_toInt64, e32] at t4
    rw [if_pos (by omega)] at h
    have e3 := sj_asN (x := a3) (by omega)
    have e4 := sj_asN (x := a4) (by omega)
    refine pm_ok hL hM (fun w1 hf hM1 h47 => ?_)
    have m := hM1.all
    simp (disch := omega) only [ne_eq, and_self, not_false_eq_true, not_true_eq_false, true_and, and_true, true_or, or_true, false_or, or_false, forall_eq, forall_const, true_implies, false_implies, if_true, if_false, sj_lits, sj_addI, sj_mulI, sj_clI, sj_inI, sj_ltI, sj_leI, sj_eqI, sj_lcI, m, hL.nz, hi12, sj_rd]
    have f1 : sj_fr (fun a => a = La 203 ∨ a = La 204 ∨ a = La 205) w1 (sj_si (sj_si (sj_si w1 (La 203) i a2) (La 204) i a3) (La 205) i a4) := ((sj_fr.rf.i (Or.inl (Or.inl rfl))).i (Or.inl (Or.inr (Or.inl rfl)))).i (Or.inl (Or.inr (Or.inr rfl)))
    have n : ∀ i j : Nat, i ≠ j → La i ≠ La j := fun i j h e => h (hL.1 _ _ e)
    have hs := hM1.ms.fr f1
    obtain ⟨s1, s2, s3, s4, s5, s6, s7⟩ := hs
    obtain ⟨_, _, _, _, _, _, _, h1, i1, j1, k1⟩ := hM1
    refine so_g h (hf.trans (f1.mono fun a q => q.elim (fun e => ⟨203, by decide, e⟩) (fun q => q.elim (fun e => ⟨204, by decide, e⟩) (fun e => ⟨205, by decide, e⟩)))) ⟨s1, s2, s3, s4, s5, s6, s7, fun y hy => ⟨?_, ?_⟩, fun y hy => ?_, j1, fun j hj => ?_⟩ h47 ?_
    · exact (sj_si_o (n 202 205 (by decide))).trans ((sj_si_o (n 202 204 (by decide))).trans ((sj_si_o (n 202 203 (by decide))).trans (h1 y hy).1))
    · exact (h1 y hy).2
    · have q3 : sj_i (sj_si (sj_si (sj_si w1 (La 203) i a2) (La 204) i a3) (La 205) i a4) (La 203) y = if y = i then a2 else sj_i w1 (La 203) y := by
        rw [sj_si_o (n 203 205 (by decide)), sj_si_o (n 203 204 (by decide)), sj_si_s]
      have q4 : sj_i (sj_si (sj_si (sj_si w1 (La 203) i a2) (La 204) i a3) (La 205) i a4) (La 204) y = if y = i then a3 else sj_i w1 (La 204) y := by
        rw [sj_si_o (n 204 205 (by decide)), sj_si_s, sj_si_o (n 204 203 (by decide))]
      have q5 : sj_i (sj_si (sj_si (sj_si w1 (La 203) i a2) (La 204) i a3) (La 205) i a4) (La 205) y = if y = i then a4 else sj_i w1 (La 205) y := by
        rw [sj_si_s, sj_si_o (n 205 204 (by decide)), sj_si_o (n 205 203 (by decide))]
      rw [q3, q4, q5]
      by_cases c : y = i
      · subst c
        have e1 : sj_pr (sj_setP σ y r a3.toInt.toNat a4.toInt.toNat) y = r := if_pos rfl
        have e2 : sj_pf (sj_setP σ y r a3.toInt.toNat a4.toInt.toNat) y = a3.toInt.toNat := if_pos rfl
        have e5 : sj_pt (sj_setP σ y r a3.toInt.toNat a4.toInt.toNat) y = a4.toInt.toNat := if_pos rfl
        rw [e1, e2, e5, if_pos rfl, if_pos rfl, if_pos rfl]
        exact ⟨er, e3, e4⟩
      · have e1 : sj_pr (sj_setP σ i r a3.toInt.toNat a4.toInt.toNat) y = sj_pr σ y := if_neg c
        have e2 : sj_pf (sj_setP σ i r a3.toInt.toNat a4.toInt.toNat) y = sj_pf σ y := if_neg c
        have e5 : sj_pt (sj_setP σ i r a3.toInt.toNat a4.toInt.toNat) y = sj_pt σ y := if_neg c
        rw [e1, e2, e5, if_neg c, if_neg c, if_neg c]
        exact i1 y hy
    · exact (sj_si_o (n 206 205 (by decide))).trans ((sj_si_o (n 206 204 (by decide))).trans ((sj_si_o (n 206 203 (by decide))).trans (k1 j hj)))
    · exact congrArg Int32.toInt64 ((congrArg (fun z => z - a3) e4).trans ((congrArg (fun z => nI a4.toInt.toNat - z) e3).trans (sj_subI (by omega))))
  · simp only [hi, hr] at h
    rw [Int32.toInt_toInt64, e0] at t1
    rw [Int32.toInt_toInt64, e32] at t2
    rw [Int32.toInt_toInt64, Int32.toInt_toInt64, e32] at t3
    rw [if_neg (by omega)] at h
    exact pm_no hL hM 2 (by decide) (by decide) h
  · simp only [hi, hr] at h
    rw [Int32.toInt_toInt64, e0, e32] at t1
    rw [if_neg (by omega)] at h
    exact pm_no hL hM 2 (by decide) (by decide) h
  · simp only [hi, hr] at h
    exact pm_no hL hM 1 (by decide) (by decide) h
  · simp only [hi] at h
    exact pm_no hL hM 1 (by decide) (by decide) h
theorem pm_fits {La : Nat → Nat} {σ : sj_S} {w : sj_W} (hL : sj_La La) (hM : sj_Mo La σ w) (hw : sj_wf σ) {a1 a2 : Int32} {Q : Int32 → sj_W → Prop} (h : so_pM La w (ab_fits σ a1 a2) Int32.toInt64 Q) : vc_X7_fits (La 200) a1 a2 w Q := by
  unfold ab_fits at h
  refine pm_isKind (fun k hk hk4 => ⟨fun _ => pm_isSpan (fun i hi ei hi12 => ⟨fun z => absurd z (by decide), fun _ => ?_⟩) (fun hi => ⟨fun _ => ?_, fun z => absurd rfl z⟩), fun z => absurd z (by decide)⟩) (fun hk => ⟨fun z => absurd rfl z, fun _ => ?_⟩)
  · subst ei
    simp only [hk, hi] at h
    refine pm_ok' hL hM (fun w1 hf hM1 h47 => ⟨hM1.1.1, pm_isFit hL hM1 hw hk hi12 (fun f => ⟨fun z => absurd z (by decide), fun _ => ?_⟩) (fun f => ⟨fun _ => ?_, fun z => absurd rfl z⟩)⟩)
    · rw [if_pos f] at h
      exact so_g h hf hM1 h47 rfl
    · rw [if_neg f] at h
      exact so_g h hf hM1 h47 rfl
  · simp only [hk, hi] at h
    exact pm_no' hL hM 2 (by decide) (by decide) h
  · simp only [hk] at h
    exact pm_no' hL hM 1 (by decide) (by decide) h
theorem pm_asks {La : Nat → Nat} {σ : sj_S} {w : sj_W} (hL : sj_La La) (hM : sj_Mo La σ w) (hw : sj_wf σ) {a1 a2 a3 a4 : Int32} {Q : Int32 → sj_W → Prop} (h : so_pM La w (ab_asks σ a1 a2 a3 a4) Int32.toInt64 Q) : vc_X7_asks (La 200) a1 a2 a3 a4 w Q := by
  unfold ab_asks at h
  refine pm_isKind (fun k hk hk4 => ⟨fun z => absurd z (by decide), fun _ => pm_isAsk (fun hq => ⟨fun z => absurd z (by decide), fun _ => ⟨hM.1.1, pm_noWords hL hM hw hk (fun i j hi ei hi12 hj ej hj12 fi fj => ?_) (fun hi => ?_) (fun i hi hj => ?_) (fun i j hi hj hf => ?_)⟩⟩) (fun hq => ⟨fun _ => ⟨hM.1.1, fun z => absurd rfl z, fun _ => ?_⟩, fun z => absurd rfl z⟩)⟩) (fun hk => ⟨fun _ => ⟨hM.1.1, fun z => absurd rfl z, fun _ => ?_⟩, fun z => absurd rfl z⟩)
  · subst ei ej
    simp only [hk, hi, hj, if_pos hq, if_pos (And.intro fi fj)] at h
    refine pm_ok hL hM (fun w1 hf hM1 h47 => ?_)
    have m := hM1.all
    have b1 := hw.2.1 i hi12
    have b2 := hw.2.1 j hj12
    unfold sj_fit at fi fj
    simp (disch := omega) only [ne_eq, and_self, not_false_eq_true, not_true_eq_false, true_and, and_true, true_or, or_true, false_or, or_false, forall_eq, forall_const, true_implies, false_implies, if_true, if_false, sj_lits, sj_addI, sj_mulI, sj_clI, sj_inI, sj_ltI, sj_leI, sj_eqI, sj_lcI, m, hL.nz, hi12, hj12]
    refine pm_many hL hM1 hw hi12 ?_
    simp (disch := omega) only [ne_eq, and_self, not_false_eq_true, not_true_eq_false, true_and, and_true, true_or, or_true, false_or, or_false, forall_eq, forall_const, true_implies, false_implies, if_true, if_false, sj_lits, sj_addI, sj_mulI, sj_clI, sj_inI, sj_ltI, sj_leI, sj_eqI, sj_lcI, m, hL.nz, hi12, hj12]
    refine pm_many hL hM1 hw hj12 ⟨m.1.1, pm_answer hL hM1 hw hk hq b1.1 b2.1 (by unfold sj_wn; omega) (by unfold sj_wn; omega) (so_g h hf hM1 h47 rfl)⟩
  · simp only [hk, hi, if_pos hq] at h
    exact pm_no hL hM 2 (by decide) (by decide) h
  · simp only [hk, hi, hj, if_pos hq] at h
    exact pm_no hL hM 2 (by decide) (by decide) h
  · simp only [hk, hi, hj, if_pos hq, if_neg hf] at h
    exact pm_no hL hM 3 (by decide) (by decide) h
  · simp only [hk, if_neg hq] at h
    exact pm_no hL hM 1 (by decide) (by decide) h
  · simp only [hk] at h
    exact pm_no hL hM 1 (by decide) (by decide) h
theorem pm_asksRows {La : Nat → Nat} {σ : sj_S} {w : sj_W} (hL : sj_La La) (hM : sj_Mo La σ w) (hw : sj_wf σ) {a1 a2 a3 a4 : Int32} {Q : Int32 → sj_W → Prop} (h : so_pM La w (ab_asksRows σ a1 a2 a3 a4) Int32.toInt64 Q) : vc_X7_asksRows (La 200) a1 a2 a3 a4 w Q := by
  unfold ab_asksRows at h
  refine pm_isKind (fun k hk hk4 => ⟨fun z => absurd z (by decide), fun _ => pm_isAsk (fun hq => ⟨fun _ => pm_isRow (fun i hi ei hi4 => ⟨fun z => absurd z (by decide), fun _ => pm_isRow (fun j hj ej hj4 => ⟨fun z => absurd z (by decide), fun _ => ?_⟩) (fun hj => ⟨fun _ => ?_, fun z => absurd rfl z⟩)⟩) (fun hi => ⟨fun _ => ?_, fun z => absurd rfl z⟩), fun z => absurd z (by decide)⟩) (fun hq => ⟨fun z => absurd rfl z, fun _ => ?_⟩)⟩) (fun hk => ⟨fun _ => ?_, fun z => absurd rfl z⟩)
  · subst ei ej
    simp only [hk, hi, hj, if_pos hq] at h
    refine pm_ok hL hM (fun w1 hf hM1 h47 => ⟨hM1.1.1, pm_size hL hM1 hk hi4 ⟨hM1.1.1, pm_size hL hM1 hk hj4 ⟨hM1.1.1, pm_answer (f := 0) (g := 0) hL hM1 hw hk hq hi4 hj4 (by omega) (by omega) ?_⟩⟩⟩)
    simp only [Nat.zero_add]
    exact so_g h hf hM1 h47 rfl
  · simp only [hk, hi, hj, if_pos hq] at h
    exact pm_no hL hM 2 (by decide) (by decide) h
  · simp only [hk, hi, if_pos hq] at h
    exact pm_no hL hM 2 (by decide) (by decide) h
  · simp only [hk, if_neg hq] at h
    exact pm_no hL hM 1 (by decide) (by decide) h
  · simp only [hk] at h
    exact pm_no hL hM 1 (by decide) (by decide) h
theorem pm_refused {La : Nat → Nat} {σ : sj_S} {w : sj_W} (hL : sj_La La) (hM : sj_Mo La σ w) (hw : sj_wf σ) {a1 a2 a3 a4 a5 : Int32} {Q : Int32 → sj_W → Prop} (h : so_pM La w (ab_refused σ a1 a2 a3 a4 a5) Int32.toInt64 Q) : vc_X7_refused (La 200) a1 a2 a3 a4 a5 w Q := by
  unfold ab_refused at h
  refine pm_isKind (fun k hk hk4 => ⟨fun z => absurd z (by decide), fun _ => pm_isAsk (fun hq => ⟨fun _ => pm_isRow (fun r hr er hr4 => ⟨fun z => absurd z (by decide), fun _ => ?_⟩) (fun hr => ⟨fun _ => ?_, fun z => absurd rfl z⟩), fun z => absurd z (by decide)⟩) (fun hq => ⟨fun z => absurd rfl z, fun _ => ?_⟩)⟩) (fun hk => ⟨fun _ => ?_, fun z => absurd rfl z⟩)
  · subst er
    simp only [hk, hr, if_pos hq] at h
    have c := (hw.1 (k * 4 + r) (by omega)).1
    have eN : (nI (sj_n σ (k * 4 + r))).toInt = sj_n σ (k * 4 + r) := nI_toInt (by omega)
    have e0 : (nI 0).toInt = 0 := rfl
    refine pm_ok hL hM (fun w1 hf hM1 h47 => ?_)
    refine sj_jn1_i (fun c w' => w' = w1 ∧ c = sj_b (decide (a5.toInt < a4.toInt))) (fun E hE => ⟨fun z => hE _ _ ⟨rfl, ?_⟩, fun z => hE _ _ ⟨rfl, ?_⟩⟩) ?_
    · rw [sj_leXX] at z
      rw [decide_eq_false (by omega)]
      rfl
    · rw [sj_leXX] at z
      rw [decide_eq_true (by omega)]
      rfl
    · rintro y w' ⟨rfl, rfl⟩
      refine sj_jn1_i (fun c w'' => w'' = w' ∧ c = sj_b (decide (a4.toInt < 0 ∨ (sj_n σ (k * 4 + r) : Int) < a5.toInt))) (fun E hE => ⟨fun z => hE _ _ ⟨rfl, ?_⟩, fun z => ⟨hM1.1.1, pm_size hL hM1 hk hr4 ⟨fun z2 => hE _ _ ⟨rfl, ?_⟩, fun z2 => hE _ _ ⟨rfl, ?_⟩⟩⟩⟩) ?_
      · rw [sj_lits 0, sj_ltXX, e0] at z
        rw [decide_eq_true (by omega)]
        rfl
      · rw [sj_lits 0, sj_ltXX, e0] at z
        rw [sj_leXX, eN] at z2
        rw [decide_eq_false (by omega)]
        rfl
      · rw [sj_leXX, eN] at z2
        rw [decide_eq_true (by omega)]
        rfl
      · rintro y2 w'' ⟨rfl, rfl⟩
        simp only [sj_b_0]
        by_cases p1 : a5.toInt < a4.toInt
        · by_cases p2 : a4.toInt < 0 ∨ (sj_n σ (k * 4 + r) : Int) < a5.toInt
          · rw [if_pos p1, if_pos p2] at h
            rw [decide_eq_true p1, decide_eq_true p2]
            exact ⟨fun z => absurd z (by decide), fun _ => ⟨fun z => absurd z (by decide), fun _ => so_g h hf hM1 h47 rfl⟩⟩
          · rw [if_pos p1, if_neg p2] at h
            rw [decide_eq_true p1, decide_eq_false p2]
            exact ⟨fun z => absurd z (by decide), fun _ => ⟨fun _ => ⟨fun _ => ⟨fun z => absurd z (by decide), fun _ => so_g h hf hM1 h47 rfl⟩, fun z => absurd rfl z⟩, fun z => absurd rfl z⟩⟩
        · by_cases p2 : a4.toInt < 0 ∨ (sj_n σ (k * 4 + r) : Int) < a5.toInt
          · rw [if_neg p1, if_pos p2] at h
            rw [decide_eq_false p1, decide_eq_true p2]
            exact ⟨fun _ => ⟨fun z => absurd z (by decide), fun _ => so_g h hf hM1 h47 rfl⟩, fun z => absurd rfl z⟩
          · rw [if_neg p1, if_neg p2] at h
            rw [decide_eq_false p1, decide_eq_false p2]
            exact ⟨fun _ => ⟨fun _ => ⟨fun _ => so_g h hf hM1 h47 rfl, fun z => absurd rfl z⟩, fun z => absurd rfl z⟩, fun z => absurd rfl z⟩
  · simp only [hk, hr, if_pos hq] at h
    exact pm_no hL hM 2 (by decide) (by decide) h
  · simp only [hk, if_neg hq] at h
    exact pm_no hL hM 1 (by decide) (by decide) h
  · simp only [hk] at h
    exact pm_no hL hM 1 (by decide) (by decide) h
theorem pm_common {La : Nat → Nat} {σ : sj_S} {w : sj_W} (hL : sj_La La) (hM : sj_Mo La σ w) (hw : sj_wf σ) {a1 a2 a3 : Int32} {Q : Int32 → sj_W → Prop} (h : so_pM La w (ab_common σ a1 a2 a3) Int32.toInt64 Q) : vc_X7_common (La 200) a1 a2 a3 w Q := by
  unfold ab_common at h
  refine pm_isKind (fun k hk hk4 => ⟨hM.1.1, pm_noWords hL hM hw hk (fun i j hi ei hi12 hj ej hj12 fi fj => ?_) (fun hi => ?_) (fun i hi hj => ?_) (fun i j hi hj hf => ?_)⟩) (fun hk => ⟨hM.1.1, fun z => absurd rfl z, fun _ => ?_⟩)
  · subst ei ej
    simp only [hk, hi, hj, if_pos (And.intro fi fj)] at h
    refine pm_ok hL hM (fun w1 hf hM1 h47 => ?_)
    have m := hM1.all
    have b1 := hw.2.1 i hi12
    have b2 := hw.2.1 j hj12
    unfold sj_fit at fi fj
    simp (disch := omega) only [ne_eq, and_self, not_false_eq_true, not_true_eq_false, true_and, and_true, true_or, or_true, false_or, or_false, forall_eq, forall_const, true_implies, false_implies, if_true, if_false, sj_lits, sj_addI, sj_mulI, sj_clI, sj_inI, sj_ltI, sj_leI, sj_eqI, sj_lcI, m, hL.nz, hi12, hj12]
    refine pm_many hL hM1 hw hi12 ?_
    simp (disch := omega) only [ne_eq, and_self, not_false_eq_true, not_true_eq_false, true_and, and_true, true_or, or_true, false_or, or_false, forall_eq, forall_const, true_implies, false_implies, if_true, if_false, sj_lits, sj_addI, sj_mulI, sj_clI, sj_inI, sj_ltI, sj_leI, sj_eqI, sj_lcI, m, hL.nz, hi12, hj12]
    refine pm_many hL hM1 hw hj12 ⟨m.1.1, pm_alike hL hM1 hw hk b1.1 b2.1 (by unfold sj_wn; omega) (by unfold sj_wn; omega) (so_g h hf hM1 h47 rfl)⟩
  · simp only [hk, hi] at h
    exact pm_no hL hM 2 (by decide) (by decide) h
  · simp only [hk, hi, hj] at h
    exact pm_no hL hM 2 (by decide) (by decide) h
  · simp only [hk, hi, hj, if_neg hf] at h
    exact pm_no hL hM 3 (by decide) (by decide) h
  · simp only [hk] at h
    exact pm_no hL hM 1 (by decide) (by decide) h
theorem pm_sorted {La : Nat → Nat} {σ : sj_S} {w : sj_W} (hL : sj_La La) (hM : sj_Mo La σ w) (hw : sj_wf σ) {a1 : Int32} {Q : Int32 → sj_W → Prop} (h : so_pM La w (ab_sorted σ a1) Int32.toInt64 Q) : vc_X7_sorted (La 200) a1 w Q := by
  have m := hM.all
  have c := hw.2.2.1
  unfold ab_sorted at h
  have m46 := m.2.2.2.2.2.2.2.2.2.2.2.2.1
  unfold vc_X7_sorted
  rw [m46]
  refine ⟨m.1.1, pm_place (by omega) (fun j hj ej hlt => ⟨fun z => absurd z (by decide), fun _ => ?_⟩) (fun hj => ⟨fun _ => ?_, fun z => absurd rfl z⟩)⟩
  · subst ej
    simp only [hj] at h
    refine pm_ok hL hM (fun w1 hf hM1 h47 => ?_)
    have m1 := hM1.all
    simp (disch := omega) only [ne_eq, and_self, not_false_eq_true, not_true_eq_false, true_and, and_true, true_or, or_true, false_or, or_false, forall_eq, forall_const, true_implies, false_implies, if_true, if_false, sj_lits, sj_addI, sj_mulI, sj_clI, sj_inI, sj_ltI, sj_leI, sj_eqI, sj_lcI, m1, hL.nz]
    exact ⟨by omega, so_g h hf hM1 h47 rfl⟩
  · simp only [hj] at h
    exact pm_no hL hM 1 (by decide) (by decide) h
theorem pm_rank {La : Nat → Nat} {σ : sj_S} {w : sj_W} (hL : sj_La La) (hM : sj_Mo La σ w) (hw : sj_wf σ) {a1 a2 a3 : Int32} {Q : Int32 → sj_W → Prop} (h : so_pM La w (ab_rank σ a1 a2 a3) Int32.toInt64 Q) : vc_X7_rank (La 200) a1 a2 a3 w Q := by
  unfold ab_rank at h
  refine pm_isKind (fun k hk hk4 => ⟨fun z => absurd z (by decide), fun _ => pm_isOrder (fun u hu => ⟨fun z => absurd z (by decide), fun _ => ⟨hM.1.1, pm_noWords hL hM hw hk (fun i j hi ei hi12 hj ej hj12 fi fj => ?_) (fun hi => ?_) (fun i hi hj => ?_) (fun i j hi hj hf => ?_)⟩⟩) (fun hu => ⟨fun _ => ⟨hM.1.1, fun z => absurd rfl z, fun _ => ?_⟩, fun z => absurd rfl z⟩)⟩) (fun hk => ⟨fun _ => ⟨hM.1.1, fun z => absurd rfl z, fun _ => ?_⟩, fun z => absurd rfl z⟩)
  · subst ei
    simp only [hk, hu, hi, if_pos fi] at h
    refine pm_ok hL hM (fun w1 hf hM1 h47 => ?_)
    refine sj_lp2_run (fun v4 v5 w' => w' = w1 ∧ ∃ p, v5 = nI p ∧ p ≤ 12 ∧ v4 = nI (sj_cnt (sj_rankB σ k u i) p)) (fun _ v _ => 13 - v.toNatClampNeg) ?_ 64 _ _ _ ⟨rfl, 0, rfl, by omega, rfl⟩ (by omega)
    rintro v4 v5 w' K ⟨rfl, p, rfl, hp, rfl⟩ hK
    have hcl := sj_cnt_le (sj_rankB σ k u i) p
    have step : ∀ b, sj_rankB σ k u i p = b → p < 12 → K (nI (sj_cnt (sj_rankB σ k u i) p + (if b then 1 else 0))) (nI (p + 1)) w' := by
      intro b h3 h4
      refine hK _ _ _ ⟨rfl, p + 1, rfl, by omega, by rw [← h3]; rfl⟩ ?_
      rw [sj_clI (by omega), sj_clI (by omega)]
      omega
    unfold vb_X7_rank_41
    simp (disch := omega) only [sj_lits, sj_leI, sj_addI]
    refine ⟨fun q => ?_, fun q => ⟨hM1.1.1, pm_isFit hL hM1 hw hk (by omega) (fun fp => ⟨fun z => absurd z (by decide), fun _ => ⟨hM1.1.1, pm_spans hL hM1 hw hk hu (by omega) hi12 fp fi ⟨fun z => step false (decide_eq_false fun y => y.2 z) (by omega), fun z => step true (decide_eq_true ⟨fp, z⟩) (by omega)⟩⟩⟩) (fun fp => ⟨fun _ => step false (decide_eq_false fun y => fp y.1) (by omega), fun z => absurd rfl z⟩)⟩⟩
    have e : p = 12 := by omega
    subst e
    exact so_g h hf hM1 h47 rfl
  · simp only [hk, hu, hi] at h
    exact pm_no hL hM 2 (by decide) (by decide) h
  · rw [hi] at hj
    cases hj
  · rw [hi] at hj
    cases hj
    simp only [hk, hu, hi, if_neg (fun z => hf ⟨z, z⟩ : ¬ sj_fit σ k i)] at h
    exact pm_no hL hM 3 (by decide) (by decide) h
  · simp only [hk, hu] at h
    exact pm_no hL hM 1 (by decide) (by decide) h
  · simp only [hk] at h
    exact pm_no hL hM 1 (by decide) (by decide) h

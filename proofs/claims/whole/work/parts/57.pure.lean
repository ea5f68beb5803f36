/-! rows: the calls with loops -/
def ab_repeat (σ : sj_S) (a1 a2 a3 : Int32) : sj_O := match sj_kd a1 with
  | none => (1, 0, σ)
  | some k => if 1 ≤ a3.toInt ∧ a3.toInt ≤ 8 then (match sj_ix 4 a2 with
    | none => (2, 0, σ)
    | some r => if sj_n σ (k * 4 + r) * a3.toInt.toNat ≤ 32 then (0, (nI (sj_n σ (k * 4 + r) * a3.toInt.toNat)).toInt64, sj_setR σ (k * 4 + r) (sj_n σ (k * 4 + r) * a3.toInt.toNat) (fun j => sj_x σ (k * 4 + r) (j % sj_n σ (k * 4 + r)))) else (3, 0, σ)) else (1, 0, σ)
theorem pc_repeat {La : Nat → Nat} {σ : sj_S} {w : sj_W} (hL : sj_La La) (hC : sj_Cm La σ w) (hw : sj_wf σ) {a1 a2 a3 : Int32} {Q : Int32 → sj_W → Prop} {QX : String → sj_W → Prop} (h : so_pX La w (ab_repeat σ a1 a2 a3) sj_en Int32.toInt64 Q QX) : vc_X6_repeat (La 0) a1 a2 a3 w Q QX := by
  have a := hC.all
  unfold ab_repeat at h
  have e1 : (nI 1).toInt = 1 := rfl
  have e8 : (nI 8).toInt = 8 := rfl
  refine pc_kindOf (fun k hk hk4 => ?_) (fun hk => ?_)
  · simp only [hk] at h
    simp only [sj_lits, sj_ltXX, sj_leXX, e1, e8]
    refine ⟨fun q => ?_, fun q => ⟨fun q2 => ⟨a.1.1, pc_rowOf hL hC hk4 (fun r hr hr4 => ?_) (fun hr => ?_)⟩, fun q2 => ?_⟩⟩
    · rw [if_neg (by omega)] at h
      exact so_e h (by decide) sj_fr.rf hC
    · rw [if_pos (by omega)] at h
      simp only [hr] at h
      have e3 := sj_asN (x := a3) (by omega)
      generalize ht : a3.toInt.toNat = t at h e3
      subst e3
      have c := (hw.1 (k * 4 + r) (by omega)).1
      have b1 : sj_n σ (k * 4 + r) * t ≤ 32 * 8 := Nat.mul_le_mul c (by omega)
      have b2 : sj_n σ (k * 4 + r) * 1 ≤ sj_n σ (k * 4 + r) * t := Nat.mul_le_mul_left _ (by omega)
      generalize hN : sj_n σ (k * 4 + r) * t = N at h b1 b2
      simp (disch := omega) only [← sj_leXX, a, true_and, sj_mulI, hN, sj_leI, forall_eq]
      refine ⟨fun q3 => ?_, fun q3 => ?_⟩
      · rw [if_pos q3] at h
        refine sj_lp1_run (fun v w' => ∃ p, v = nI p ∧ sj_n σ (k * 4 + r) ≤ p ∧ p ≤ N ∧ sj_fr (fun a => a = La (100 + (k * 4 + r)) ∨ a = La (120 + (k * 4 + r))) w w' ∧ sj_I w' 9 (La (100 + (k * 4 + r))) = nI N ∧ ∀ j, j < p → sj_l w' (La (120 + (k * 4 + r))) j = sj_x σ (k * 4 + r) (j % sj_n σ (k * 4 + r))) (fun v _ => 40 - v.toNatClampNeg) ?_ 64 _ _ ⟨_, rfl, Nat.le_refl _, by omega, ?_, ?_, fun j hj => ?_⟩ (by omega)
        · rintro v w' K ⟨p, rfl, hp1, hp2, hfr, hsz, hx⟩ hK
          have a' := hC.1.fr hfr
          have aT := (a'.2.2.2.2.1 (k * 4 + r) (by omega))
          have aA := (a'.2.2.2.2.2.1 (k * 4 + r) (by omega))
          unfold vb_X6_repeat_75
          simp (disch := omega) only [ne_eq, and_self, not_false_eq_true, not_true_eq_false, true_and, and_true, true_or, or_true, false_or, or_false, forall_eq, forall_const, true_implies, false_implies, if_true, if_false, sj_lits, sj_addI, sj_mulI, sj_clI, sj_inI, sj_ltI, sj_leI, sj_eqI, sj_lcI, aT, aA, hsz, hL.nz]
          refine ⟨fun q4 => ?_, fun q4 => ?_⟩
          · have ep : p = N := by omega
            subst ep
            exact so_k h (sj_frR (k := k * 4 + r) (by omega) hfr) (sj_Cm.row hL hC (by omega) hfr hsz hx) rfl
          · have hnp : 0 < sj_n σ (k * 4 + r) := by
              rcases Nat.eq_zero_or_pos (sj_n σ (k * 4 + r)) with z | z
              · rw [z, Nat.zero_mul] at hN
                omega
              · exact z
            rw [sj_subI hp1]
            simp (disch := omega) only [ne_eq, and_self, not_false_eq_true, not_true_eq_false, true_and, and_true, true_or, or_true, false_or, or_false, forall_eq, forall_const, true_implies, false_implies, if_true, if_false, sj_lits, sj_addI, sj_mulI, sj_clI, sj_inI, sj_ltI, sj_leI, sj_eqI, sj_lcI, aT, aA]
            refine ⟨by omega, by omega, hK _ _ ⟨p + 1, rfl, by omega, by omega, hfr.l (Or.inl (Or.inr rfl)), ?_, fun j hj => ?_⟩ ?_⟩
            · simp (disch := omega) only [ne_eq, and_self, not_false_eq_true, not_true_eq_false, true_and, and_true, true_or, or_true, false_or, or_false, forall_eq, forall_const, true_implies, false_implies, if_true, if_false, sj_lits, sj_addI, sj_mulI, sj_clI, sj_inI, sj_ltI, sj_leI, sj_eqI, sj_lcI, sj_rd, hsz]
            · simp (disch := omega) only [ne_eq, and_self, not_false_eq_true, not_true_eq_false, true_and, and_true, true_or, or_true, false_or, or_false, forall_eq, forall_const, true_implies, false_implies, if_true, if_false, sj_lits, sj_addI, sj_mulI, sj_clI, sj_inI, sj_ltI, sj_leI, sj_eqI, sj_lcI, sj_rd]
              by_cases cj : j = p
              · subst cj
                rw [if_pos rfl, hx _ (by omega)]
                congr 1
                rw [← Nat.mod_eq_sub_mod hp1]
              · rw [if_neg cj]
                exact hx j (by omega)
            · rw [sj_clI (by omega), sj_clI (by omega)]; omega
        · exact sj_fr.rf.I (Or.inl (Or.inl rfl))
        · simp (disch := omega) only [ne_eq, and_self, not_false_eq_true, not_true_eq_false, true_and, and_true, true_or, or_true, false_or, or_false, forall_eq, forall_const, true_implies, false_implies, if_true, if_false, sj_lits, sj_addI, sj_mulI, sj_clI, sj_inI, sj_ltI, sj_leI, sj_eqI, sj_lcI, sj_rd]
        · simp (disch := omega) only [ne_eq, and_self, not_false_eq_true, not_true_eq_false, true_and, and_true, true_or, or_true, false_or, or_false, forall_eq, forall_const, true_implies, false_implies, if_true, if_false, sj_lits, sj_addI, sj_mulI, sj_clI, sj_inI, sj_ltI, sj_leI, sj_eqI, sj_lcI, sj_rd, a]
          rw [Nat.mod_eq_of_lt hj]
      · rw [if_neg q3] at h
        exact so_e h (by decide) sj_fr.rf hC
    · rw [if_pos (by omega)] at h
      simp only [hr] at h
      exact so_e h (by decide) sj_fr.rf hC
    · rw [if_neg (by omega)] at h
      exact so_e h (by decide) sj_fr.rf hC
  · simp only [hk] at h
    exact so_e h (by decide) sj_fr.rf hC
def ab_cut (σ : sj_S) (a1 a2 a3 a4 : Int32) : sj_O := match sj_kd a1 with
  | none => (1, 0, σ)
  | some k => match sj_ix 4 a2 with
    | none => (2, 0, σ)
    | some r => if 0 ≤ a3.toInt ∧ a3.toInt ≤ a4.toInt ∧ a4.toInt ≤ sj_n σ (k * 4 + r) then (0, (nI (a4.toInt.toNat - a3.toInt.toNat)).toInt64, sj_setR σ (k * 4 + r) (a4.toInt.toNat - a3.toInt.toNat) (fun j => sj_x σ (k * 4 + r) (a3.toInt.toNat + j))) else (2, 0, σ)
theorem pc_cut {La : Nat → Nat} {σ : sj_S} {w : sj_W} (hL : sj_La La) (hC : sj_Cm La σ w) (hw : sj_wf σ) {a1 a2 a3 a4 : Int32} {Q : Int32 → sj_W → Prop} {QX : String → sj_W → Prop} (h : so_pX La w (ab_cut σ a1 a2 a3 a4) sj_en Int32.toInt64 Q QX) : vc_X6_cut (La 0) a1 a2 a3 a4 w Q QX := by
  have a := hC.all
  unfold ab_cut at h
  have e0 : (nI 0).toInt = 0 := rfl
  refine pc_kindOf (fun k hk hk4 => ⟨a.1.1, pc_rowOf hL hC hk4 (fun r hr hr4 => ?_) (fun hr => ?_)⟩) (fun hk => ?_)
  · simp only [hk, hr] at h
    have c := (hw.1 (k * 4 + r) (by omega)).1
    have eN : (nI (sj_n σ (k * 4 + r))).toInt = sj_n σ (k * 4 + r) := nI_toInt (by omega)
    simp (disch := omega) only [a, true_and, sj_lits, sj_ltXX, sj_leXX, e0, eN, forall_eq]
    refine ⟨fun q => ?_, fun q => ⟨fun q2 => ?_, fun q2 => ⟨fun q3 => ?_, fun q3 => ?_⟩⟩⟩
    · rw [if_neg (by omega)] at h
      exact so_e h (by decide) sj_fr.rf hC
    · rw [if_neg (by omega)] at h
      exact so_e h (by decide) sj_fr.rf hC
    · rw [if_pos (by omega)] at h
      have e3 := sj_asN (x := a3) (by omega)
      have e4 := sj_asN (x := a4) (by omega)
      generalize h3 : a3.toInt.toNat = f at h e3
      generalize h4 : a4.toInt.toNat = t at h e4
      subst e3 e4
      rw [sj_subI (by omega)]
      refine sj_lp1_run (fun v w' => ∃ p, v = nI p ∧ p ≤ t - f ∧ sj_fr (fun a => a = La (100 + (k * 4 + r)) ∨ a = La (120 + (k * 4 + r))) w w' ∧ sj_I w' 9 (La (100 + (k * 4 + r))) = nI (t - f) ∧ (∀ j, j < p → sj_l w' (La (120 + (k * 4 + r))) j = sj_x σ (k * 4 + r) (f + j)) ∧ (∀ j, p ≤ j → j < sj_n σ (k * 4 + r) → sj_l w' (La (120 + (k * 4 + r))) j = sj_x σ (k * 4 + r) j)) (fun v _ => 40 - v.toNatClampNeg) ?_ 64 _ _ ⟨0, rfl, Nat.zero_le _, ?_, ?_, fun j hj => absurd hj (Nat.not_lt_zero _), fun j _ hj => ?_⟩ (by omega)
      · rintro v w' K ⟨p, rfl, hp2, hfr, hsz, hx, hy⟩ hK
        have a' := hC.1.fr hfr
        have aT := (a'.2.2.2.2.1 (k * 4 + r) (by omega))
        have aA := (a'.2.2.2.2.2.1 (k * 4 + r) (by omega))
        unfold vb_X6_cut_53
        simp (disch := omega) only [ne_eq, and_self, not_false_eq_true, not_true_eq_false, true_and, and_true, true_or, or_true, false_or, or_false, forall_eq, forall_const, true_implies, false_implies, if_true, if_false, sj_lits, sj_addI, sj_mulI, sj_clI, sj_inI, sj_ltI, sj_leI, sj_eqI, sj_lcI, aT, aA, hsz, hL.nz]
        refine ⟨fun q4 => ?_, fun q4 => ?_⟩
        · have ep : p = t - f := by omega
          subst ep
          exact so_k h (sj_frR (k := k * 4 + r) (by omega) hfr) (sj_Cm.row hL hC (by omega) hfr hsz hx) rfl
        · refine ⟨by omega, by omega, hK _ _ ⟨p + 1, rfl, by omega, hfr.l (Or.inl (Or.inr rfl)), ?_, fun j hj => ?_, fun j hj1 hj2 => ?_⟩ ?_⟩
          · simp (disch := omega) only [ne_eq, and_self, not_false_eq_true, not_true_eq_false, true_and, and_true, true_or, or_true, false_or, or_false, forall_eq, forall_const, true_implies, false_implies, if_true, if_false, sj_lits, sj_addI, sj_mulI, sj_clI, sj_inI, sj_ltI, sj_leI, sj_eqI, sj_lcI, sj_rd, hsz]
          · simp (disch := omega) only [ne_eq, and_self, not_false_eq_true, not_true_eq_false, true_and, and_true, true_or, or_true, false_or, or_false, forall_eq, forall_const, true_implies, false_implies, if_true, if_false, sj_lits, sj_addI, sj_mulI, sj_clI, sj_inI, sj_ltI, sj_leI, sj_eqI, sj_lcI, sj_rd]
            by_cases cj : j = p
            · subst cj
              rw [if_pos rfl, hy _ (by omega) (by omega)]
            · rw [if_neg cj]
              exact hx j (by omega)
          · simp (disch := omega) only [ne_eq, and_self, not_false_eq_true, not_true_eq_false, true_and, and_true, true_or, or_true, false_or, or_false, forall_eq, forall_const, true_implies, false_implies, if_true, if_false, sj_lits, sj_addI, sj_mulI, sj_clI, sj_inI, sj_ltI, sj_leI, sj_eqI, sj_lcI, sj_rd]
            rw [if_neg (by omega)]
            exact hy j (by omega) hj2
          · rw [sj_clI (by omega), sj_clI (by omega)]; omega
      · exact sj_fr.rf.I (Or.inl (Or.inl rfl))
      · simp (disch := omega) only [ne_eq, and_self, not_false_eq_true, not_true_eq_false, true_and, and_true, true_or, or_true, false_or, or_false, forall_eq, forall_const, true_implies, false_implies, if_true, if_false, sj_lits, sj_addI, sj_mulI, sj_clI, sj_inI, sj_ltI, sj_leI, sj_eqI, sj_lcI, sj_rd]
      · simp (disch := omega) only [ne_eq, and_self, not_false_eq_true, not_true_eq_false, true_and, and_true, true_or, or_true, false_or, or_false, forall_eq, forall_const, true_implies, false_implies, if_true, if_false, sj_lits, sj_addI, sj_mulI, sj_clI, sj_inI, sj_ltI, sj_leI, sj_eqI, sj_lcI, sj_rd, a]
    · rw [if_neg (by omega)] at h
      exact so_e h (by decide) sj_fr.rf hC
  · simp only [hk, hr] at h
    exact so_e h (by decide) sj_fr.rf hC
  · simp only [hk] at h
    exact so_e h (by decide) sj_fr.rf hC
theorem sj_dec (n : Nat) : nI (n + 1) + -nI 1 = nI n := by
  have e : nI (n + 1) + -nI 1 = nI (n + 1) - nI 1 := (Int32.sub_eq_add_neg (nI (n + 1)) (nI 1)).symm
  rw [e, sj_subI (by omega)]
  rfl
def ab_reverse (σ : sj_S) (a1 a2 : Int32) : sj_O := match sj_kd a1 with
  | none => (1, 0, σ)
  | some k => match sj_ix 4 a2 with
    | none => (2, 0, σ)
    | some r => (0, (nI (sj_n σ (k * 4 + r))).toInt64, sj_setR σ (k * 4 + r) (sj_n σ (k * 4 + r)) (fun j => sj_x σ (k * 4 + r) (sj_n σ (k * 4 + r) - 1 - j)))
theorem pc_reverse {La : Nat → Nat} {σ : sj_S} {w : sj_W} (hL : sj_La La) (hC : sj_Cm La σ w) (hw : sj_wf σ) {a1 a2 : Int32} {Q : Int32 → sj_W → Prop} {QX : String → sj_W → Prop} (h : so_pX La w (ab_reverse σ a1 a2) sj_en Int32.toInt64 Q QX) : vc_X6_reverse (La 0) a1 a2 w Q QX := by
  have a := hC.all
  unfold ab_reverse at h
  refine pc_kindOf (fun k hk hk4 => ⟨a.1.1, pc_rowOf hL hC hk4 (fun r hr hr4 => ?_) (fun hr => ?_)⟩) (fun hk => ?_)
  · simp only [hk, hr] at h
    have c := (hw.1 (k * 4 + r) (by omega)).1
    simp (disch := omega) only [a, true_and, sj_lits]
    generalize hN : sj_n σ (k * 4 + r) = n at h c
    refine sj_lp2_run (fun v4 v5 w' => ∃ l, v5 = nI l ∧ 2 * l ≤ n + 1 ∧ v4.toInt = (n : Int) - 1 - l ∧ sj_fr (fun a => a = La (100 + (k * 4 + r)) ∨ a = La (120 + (k * 4 + r))) w w' ∧ sj_I w' 9 (La (100 + (k * 4 + r))) = nI n ∧ ∀ j, j < n → sj_l w' (La (120 + (k * 4 + r))) j = if j < l ∨ n - 1 < j + l then sj_x σ (k * 4 + r) (n - 1 - j) else sj_x σ (k * 4 + r) j) (fun _ v _ => 40 - v.toNatClampNeg) ?_ 64 _ _ _ ⟨0, rfl, by omega, ?_, sj_fr.rf, by rw [← hN]; exact a.2.2.2.2.2.2.2.2.2.1 _ (by omega), fun j hj => ?_⟩ (by omega)
    · rintro v4 v w' K ⟨l, rfl, hl, e4, hfr, hsz, hx⟩ hK
      have a' := hC.1.fr hfr
      have aT := (a'.2.2.2.2.1 (k * 4 + r) (by omega))
      have aA := (a'.2.2.2.2.2.1 (k * 4 + r) (by omega))
      have el : (nI l).toInt = l := nI_toInt (by omega)
      unfold vb_X6_reverse_21
      rw [sj_leXX, el, e4]
      refine ⟨fun q => ?_, fun q => ?_⟩
      · refine ⟨aT.1, ?_⟩
        rw [hsz]
        refine so_k h (sj_frR (k := k * 4 + r) (by omega) hfr) (sj_Cm.row hL hC (by omega) hfr hsz (fun j hj => ?_)) rfl
        rw [hx j hj]
        by_cases cj : j < l ∨ n - 1 < j + l
        · rw [if_pos cj]
        · rw [if_neg cj]
          congr 1
          omega
      · obtain ⟨m, hm⟩ : ∃ m, n = m + 2 + l := ⟨n - 2 - l, by omega⟩
        have e5 : v4 = nI (m + 1) := by
          refine Int32.toInt_inj.mp ?_
          rw [e4, nI_toInt (by omega)]
          omega
        subst e5
        simp (disch := omega) only [ne_eq, and_self, not_false_eq_true, not_true_eq_false, true_and, and_true, true_or, or_true, false_or, or_false, forall_eq, forall_const, true_implies, false_implies, if_true, if_false, sj_lits, sj_addI, sj_mulI, sj_clI, sj_inI, sj_ltI, sj_leI, sj_eqI, sj_lcI, sj_rd, aT, aA, hL.nz, sj_dec]
        refine ⟨by omega, by omega, by omega, by omega, hK _ _ _ ⟨l + 1, rfl, by omega, ?_, (hfr.l (Or.inl (Or.inr rfl))).l (Or.inl (Or.inr rfl)), ?_, fun j hj => ?_⟩ ?_⟩
        · rw [nI_toInt (by omega)]; omega
        · simp (disch := omega) only [ne_eq, and_self, not_false_eq_true, not_true_eq_false, true_and, and_true, true_or, or_true, false_or, or_false, forall_eq, forall_const, true_implies, false_implies, if_true, if_false, sj_lits, sj_addI, sj_mulI, sj_clI, sj_inI, sj_ltI, sj_leI, sj_eqI, sj_lcI, sj_rd, hsz]
        · simp (disch := omega) only [ne_eq, and_self, not_false_eq_true, not_true_eq_false, true_and, and_true, true_or, or_true, false_or, or_false, forall_eq, forall_const, true_implies, false_implies, if_true, if_false, sj_lits, sj_addI, sj_mulI, sj_clI, sj_inI, sj_ltI, sj_leI, sj_eqI, sj_lcI, sj_rd]
          by_cases c1 : j = m + 1
          · subst c1
            rw [if_pos rfl, if_pos (by omega), hx l (by omega), if_neg (by omega)]
            congr 1
            omega
          · rw [if_neg c1]
            by_cases c2 : j = l
            · subst c2
              rw [if_pos rfl, if_pos (by omega), hx (m + 1) (by omega), if_neg (by omega)]
              congr 1
              omega
            · rw [if_neg c2, hx j hj]
              by_cases c3 : j < l ∨ n - 1 < j + l
              · rw [if_pos c3, if_pos (by omega)]
              · rw [if_neg c3, if_neg (by omega)]
        · rw [sj_clI (by omega), sj_clI (by omega)]; omega
    · by_cases z : n = 0
      · subst z
        rfl
      · rw [sj_subI (by omega), nI_toInt (by omega)]
        omega
    · rw [if_neg (by omega)]
      exact a.2.2.2.2.2.2.2.2.2.2.1 _ _ (by omega) (by omega)
  · simp only [hk, hr] at h
    exact so_e h (by decide) sj_fr.rf hC
  · simp only [hk] at h
    exact so_e h (by decide) sj_fr.rf hC

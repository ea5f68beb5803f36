/-! convert -/
def sj_ch (k : Nat) (c : Int32) (x : Int64) : Int64 := if c = 117 then (if 0 ≤ x.toInt then x else x - 2 * sj_least k) else if c = 116 then (if 0 ≤ x.toInt then x + sj_least k else x - sj_least k) else x
abbrev sj_can (k : Nat) (c : Int32) (x : Int64) (k2 : Nat) : Prop := ¬ (c = 117 ∧ k = 3 ∧ x.toInt < 0) ∧ sj_inK k2 (sj_ch k c x)
theorem sj_ge0 (x : Int64) : (0 ≤ lg_cmp x 0) = (0 ≤ x.toInt) := by
  rw [lg_cmp_ge, Int64.le_iff_toInt_le]
  rfl
theorem pc_changed {k : Nat} (hk : k < 4) {c : Int32} {x : Int64} {w : sj_W} {Q : Int64 → sj_W → Prop} (h : Q (sj_ch k c x) w) : vc_X6_changed (nI k) c x w Q := by
  unfold vc_X6_changed
  unfold sj_ch at h
  rw [sj_ge0, sj_inI (by omega), sj_clI (by omega)]
  refine ⟨fun q => ⟨fun q2 => ?_, fun q2 => ⟨fun q3 => ⟨hk, ?_⟩, fun q3 => ⟨hk, ?_⟩⟩⟩, fun q => ⟨fun q3 => ?_, fun q3 => ⟨hk, ?_⟩⟩⟩
  · rw [if_neg q, if_neg q2] at h; exact h
  · rw [if_neg q, if_pos q2, if_pos q3] at h; exact h
  · rw [if_neg q, if_pos q2, if_neg q3] at h; exact h
  · rw [if_pos q, if_pos q3] at h; exact h
  · rw [if_pos q, if_neg q3] at h; exact h
theorem pc_canChange {k k2 : Nat} (hk : k < 4) (hk2 : k2 < 4) {c : Int32} {x : Int64} {w : sj_W} {Q : Int32 → sj_W → Prop} (h : sj_can k c x k2 → Q 1 w) (h0 : ¬ sj_can k c x k2 → Q 0 w) : vc_X6_canChange (nI k) c x (nI k2) w Q := by
  unfold vc_X6_canChange
  rw [sj_ge0]
  simp (disch := omega) only [sj_lits 3, sj_eqI]
  refine ⟨fun q => ?_, fun q => ⟨fun q2 => ?_, fun q2 => ⟨fun q3 => ?_, fun q3 => ?_⟩⟩⟩
  · exact pc_changed hk (pc_isNumberOf hk2 (fun z => ⟨Or.inr rfl, h ⟨fun y => q y.1, z⟩⟩) (fun z => ⟨Or.inl rfl, h0 fun y => z y.2⟩))
  · exact pc_changed hk (pc_isNumberOf hk2 (fun z => ⟨Or.inr rfl, h ⟨fun y => q2 y.2.1, z⟩⟩) (fun z => ⟨Or.inl rfl, h0 fun y => z y.2⟩))
  · exact pc_changed hk (pc_isNumberOf hk2 (fun z => ⟨Or.inr rfl, h ⟨fun y => by omega, z⟩⟩) (fun z => ⟨Or.inl rfl, h0 fun y => z y.2⟩))
  · exact h0 (fun y => y.1 ⟨q, q2, by omega⟩)
abbrev sj_how (c : Int32) : Prop := c = 110 ∨ c = 117 ∨ c = 116
def sj_canAll (σ : sj_S) (k r : Nat) (c : Int32) (k2 : Nat) : Bool := (List.range (sj_n σ (k * 4 + r))).all (fun j => decide (sj_can k c (sj_x σ (k * 4 + r) j) k2))
theorem sj_canAll_t {σ : sj_S} {k r : Nat} {c : Int32} {k2 : Nat} (h : ∀ j, j < sj_n σ (k * 4 + r) → sj_can k c (sj_x σ (k * 4 + r) j) k2) : sj_canAll σ k r c k2 = true := List.all_eq_true.mpr fun j hj => decide_eq_true (h j (List.mem_range.mp hj))
theorem sj_canAll_f {σ : sj_S} {k r : Nat} {c : Int32} {k2 : Nat} {j : Nat} (hj : j < sj_n σ (k * 4 + r)) (h : ¬ sj_can k c (sj_x σ (k * 4 + r) j) k2) : sj_canAll σ k r c k2 = false := Bool.eq_false_iff.mpr fun z => h (of_decide_eq_true (List.all_eq_true.mp z j (List.mem_range.mpr hj)))
def ab_convert (σ : sj_S) (a1 a2 a3 a4 a5 : Int32) : sj_O := match sj_kd a1 with
  | none => (1, 0, σ)
  | some k => match sj_kd a3 with
    | none => (1, 0, σ)
    | some k2 => if sj_how a5 then (match sj_ix 4 a2 with
      | none => (2, 0, σ)
      | some r => match sj_ix 4 a4 with
        | none => (2, 0, σ)
        | some r2 => if sj_canAll σ k r a5 k2 = true then (0, (nI (sj_n σ (k * 4 + r))).toInt64, sj_setR σ (k2 * 4 + r2) (sj_n σ (k * 4 + r)) (fun j => sj_ch k a5 (sj_x σ (k * 4 + r) j))) else (3, 0, σ)) else (1, 0, σ)
theorem pc_convert {La : Nat → Nat} {σ : sj_S} {w : sj_W} (hL : sj_La La) (hC : sj_Cm La σ w) (hw : sj_wf σ) {a1 a2 a3 a4 a5 : Int32} {Q : Int32 → sj_W → Prop} {QX : String → sj_W → Prop} (h : so_pX La w (ab_convert σ a1 a2 a3 a4 a5) sj_en Int32.toInt64 Q QX) : vc_X6_convert (La 0) a1 a2 a3 a4 a5 w Q QX := by
  have a := hC.all
  unfold ab_convert at h
  refine pc_kindOf (fun k hk hk4 => pc_kindOf (fun k2 hk2 hk24 => ?_) (fun hk2 => ?_)) (fun hk => ?_)
  · simp only [hk, hk2] at h
    have key : sj_how a5 → sj_T w (La 0) = 5 ∧ vc_X6_rowOf (La 0) (nI k) a2 w (fun r8 w9 => sj_T w9 (La 0) = 5 ∧ vc_X6_rowOf (La 0) (nI k2) a4 w9 (fun r11 w12 => sj_lp1 (vb_X6_convert_65 a5 (nI k) (nI k2) r8 r11 Q QX (fun w_65 => sj_T w_65 r8 = 2 ∧ sj_T w_65 r11 = 2 ∧ ∀ w22 : sj_W, w22 = sj_sI w_65 9 r11 (sj_I w_65 9 r8) → sj_lp1 (vb_X6_convert_124 a5 (nI k) r8 r11 Q QX (fun w_124 => sj_T w_124 r11 = 2 ∧ Q (sj_I w_124 9 r11) w_124)) 64 0 w22)) 64 0 w12) QX) QX := by
      intro hh
      refine ⟨a.1.1, pc_rowOf hL hC hk4 (fun r hr hr4 => ⟨a.1.1, pc_rowOf hL hC hk24 (fun r2 hr2 hr24 => ?_) (fun hr2 => ?_)⟩) (fun hr => ?_)⟩
      · simp only [hr, hr2, if_pos hh] at h
        have c := (hw.1 (k * 4 + r) (by omega)).1
        refine sj_lp1_run (fun v w' => w' = w ∧ ∃ p, v = nI p ∧ p ≤ sj_n σ (k * 4 + r) ∧ ∀ j, j < p → sj_can k a5 (sj_x σ (k * 4 + r) j) k2) (fun v _ => 40 - v.toNatClampNeg) ?_ 64 _ _ ⟨rfl, 0, rfl, Nat.zero_le _, fun j hj => absurd hj (Nat.not_lt_zero _)⟩ (by omega)
        rintro v w' K ⟨rfl, p, rfl, hp, hok⟩ hK
        unfold vb_X6_convert_65
        simp (disch := omega) only [ne_eq, and_self, not_false_eq_true, not_true_eq_false, true_and, and_true, true_or, or_true, false_or, or_false, forall_eq, forall_const, true_implies, false_implies, if_true, if_false, sj_lits, sj_addI, sj_mulI, sj_clI, sj_inI, sj_ltI, sj_leI, sj_eqI, sj_lcI, a, hL.nz]
        refine ⟨fun q => ?_, fun q => ⟨by omega, ?_⟩⟩
        · have ep : p = sj_n σ (k * 4 + r) := by omega
          subst ep
          rw [if_pos (sj_canAll_t hok)] at h
          generalize hN : sj_n σ (k * 4 + r) = n at h c
          refine sj_lp1_run (fun v w1 => ∃ p, v = nI p ∧ p ≤ n ∧ sj_fr (fun a => a = La (100 + (k2 * 4 + r2)) ∨ a = La (120 + (k2 * 4 + r2))) w' w1 ∧ sj_I w1 9 (La (100 + (k2 * 4 + r2))) = nI n ∧ sj_I w1 9 (La (100 + (k * 4 + r))) = nI n ∧ (∀ j, j < p → sj_l w1 (La (120 + (k2 * 4 + r2))) j = sj_ch k a5 (sj_x σ (k * 4 + r) j)) ∧ ∀ j, p ≤ j → j < n → sj_l w1 (La (120 + (k * 4 + r))) j = sj_x σ (k * 4 + r) j) (fun v _ => 40 - v.toNatClampNeg) ?_ 64 _ _ ⟨0, rfl, Nat.zero_le _, ?_, ?_, ?_, fun j hj => absurd hj (Nat.not_lt_zero _), fun j _ hj => ?_⟩ (by omega)
          · rintro v w1 K2 ⟨p, rfl, hp2, hfr, hsz2, hsz, hx, hy⟩ hK2
            have a' := hC.1.fr hfr
            have aT := (a'.2.2.2.2.1 (k * 4 + r) (by omega))
            have aA := (a'.2.2.2.2.2.1 (k * 4 + r) (by omega))
            have aT2 := (a'.2.2.2.2.1 (k2 * 4 + r2) (by omega))
            have aA2 := (a'.2.2.2.2.2.1 (k2 * 4 + r2) (by omega))
            unfold vb_X6_convert_124
            simp (disch := omega) only [ne_eq, and_self, not_false_eq_true, not_true_eq_false, true_and, and_true, true_or, or_true, false_or, or_false, forall_eq, forall_const, true_implies, false_implies, if_true, if_false, sj_lits, sj_addI, sj_mulI, sj_clI, sj_inI, sj_ltI, sj_leI, sj_eqI, sj_lcI, aT, aA, aT2, hsz, hL.nz]
            refine ⟨fun q4 => ?_, fun q4 => ⟨by omega, pc_changed hk4 ?_⟩⟩
            · rw [hsz2]
              have ep : p = n := by omega
              subst ep
              exact so_k h (sj_frR (k := k2 * 4 + r2) (by omega) hfr) (sj_Cm.row hL hC (by omega) hfr hsz2 hx) rfl
            · simp (disch := omega) only [ne_eq, and_self, not_false_eq_true, not_true_eq_false, true_and, and_true, true_or, or_true, false_or, or_false, forall_eq, forall_const, true_implies, false_implies, if_true, if_false, sj_lits, sj_addI, sj_mulI, sj_clI, sj_inI, sj_ltI, sj_leI, sj_eqI, sj_lcI, aA2]
              refine ⟨by omega, hK2 _ _ ⟨p + 1, rfl, by omega, hfr.l (Or.inl (Or.inr rfl)), ?_, ?_, fun j hj => ?_, fun j hj1 hj2 => ?_⟩ ?_⟩
              · simp (disch := omega) only [ne_eq, and_self, not_false_eq_true, not_true_eq_false, true_and, and_true, true_or, or_true, false_or, or_false, forall_eq, forall_const, true_implies, false_implies, if_true, if_false, sj_lits, sj_addI, sj_mulI, sj_clI, sj_inI, sj_ltI, sj_leI, sj_eqI, sj_lcI, sj_rd, hsz2]
              · simp (disch := omega) only [ne_eq, and_self, not_false_eq_true, not_true_eq_false, true_and, and_true, true_or, or_true, false_or, or_false, forall_eq, forall_const, true_implies, false_implies, if_true, if_false, sj_lits, sj_addI, sj_mulI, sj_clI, sj_inI, sj_ltI, sj_leI, sj_eqI, sj_lcI, sj_rd, hsz]
              · simp (disch := omega) only [ne_eq, and_self, not_false_eq_true, not_true_eq_false, true_and, and_true, true_or, or_true, false_or, or_false, forall_eq, forall_const, true_implies, false_implies, if_true, if_false, sj_lits, sj_addI, sj_mulI, sj_clI, sj_inI, sj_ltI, sj_leI, sj_eqI, sj_lcI, sj_rd]
                by_cases cj : j = p
                · subst cj
                  rw [if_pos rfl, hy _ (Nat.le_refl _) (by omega)]
                · rw [if_neg cj]
                  exact hx j (by omega)
              · simp (disch := omega) only [ne_eq, and_self, not_false_eq_true, not_true_eq_false, true_and, and_true, true_or, or_true, false_or, or_false, forall_eq, forall_const, true_implies, false_implies, if_true, if_false, sj_lits, sj_addI, sj_mulI, sj_clI, sj_inI, sj_ltI, sj_leI, sj_eqI, sj_lcI, sj_rd]
                rw [if_neg (by omega)]
                exact hy j (by omega) hj2
              · rw [sj_clI (by omega), sj_clI (by omega)]; omega
          · exact sj_fr.rf.I (Or.inl (Or.inl rfl))
          · simp (disch := omega) only [ne_eq, and_self, not_false_eq_true, not_true_eq_false, true_and, and_true, true_or, or_true, false_or, or_false, forall_eq, forall_const, true_implies, false_implies, if_true, if_false, sj_lits, sj_addI, sj_mulI, sj_clI, sj_inI, sj_ltI, sj_leI, sj_eqI, sj_lcI, sj_rd, hN]
          · simp (disch := omega) only [ne_eq, and_self, not_false_eq_true, not_true_eq_false, true_and, and_true, true_or, or_true, false_or, or_false, forall_eq, forall_const, true_implies, false_implies, if_true, if_false, sj_lits, sj_addI, sj_mulI, sj_clI, sj_inI, sj_ltI, sj_leI, sj_eqI, sj_lcI, sj_rd, a, hN]
            split <;> rfl
          · simp (disch := omega) only [ne_eq, and_self, not_false_eq_true, not_true_eq_false, true_and, and_true, true_or, or_true, false_or, or_false, forall_eq, forall_const, true_implies, false_implies, if_true, if_false, sj_lits, sj_addI, sj_mulI, sj_clI, sj_inI, sj_ltI, sj_leI, sj_eqI, sj_lcI, sj_rd, a]
        · simp (disch := omega) only [a]
          refine pc_canChange hk4 hk24 (fun z => ⟨fun _ => hK _ _ ⟨rfl, p + 1, rfl, by omega, fun j hj => ?_⟩ ?_, fun z => absurd z (by decide)⟩) (fun z => ⟨fun y => absurd rfl y, fun _ => ?_⟩)
          · by_cases cj : j = p
            · subst cj; exact z
            · exact hok j (by omega)
          · rw [sj_clI (by omega), sj_clI (by omega)]; omega
          · rw [if_neg (by rw [sj_canAll_f (by omega) z]; decide)] at h
            exact so_e h (by decide) sj_fr.rf hC
      · simp only [hr, hr2, if_pos hh] at h
        exact so_e h (by decide) sj_fr.rf hC
      · simp only [hr, if_pos hh] at h
        exact so_e h (by decide) sj_fr.rf hC
    refine ⟨fun e => key (Or.inl e), fun e1 => ⟨fun e => key (Or.inr (Or.inl e)), fun e2 => ⟨fun e => key (Or.inr (Or.inr e)), fun e3 => ?_⟩⟩⟩
    rw [if_neg (fun z => z.elim e1 fun z => z.elim e2 e3)] at h
    exact so_e h (by decide) sj_fr.rf hC
  · simp only [hk, hk2] at h
    exact so_e h (by decide) sj_fr.rf hC
  · simp only [hk] at h
    exact so_e h (by decide) sj_fr.rf hC

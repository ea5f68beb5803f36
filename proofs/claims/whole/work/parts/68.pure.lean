/-! factor -/
theorem sj_cnt_ex {p : Nat → Bool} : ∀ (n j : Nat), j < sj_cnt p n → ∃ x, x < n ∧ p x = true ∧ sj_cnt p x = j
  | 0, j, h => absurd h (Nat.not_lt_zero _)
  | n + 1, j, h => by
    rw [sj_cnt_s] at h
    by_cases c : j < sj_cnt p n
    · obtain ⟨x, h1, h2, h3⟩ := sj_cnt_ex n j c
      exact ⟨x, by omega, h2, h3⟩
    · by_cases c2 : p n = true
      · rw [if_pos c2] at h
        exact ⟨n, by omega, c2, by omega⟩
      · rw [if_neg c2] at h
        omega
theorem sj_fb_ok {u : Bool} {n : Nat} {f : Nat → Int64} {j : Nat} (h : j < sj_cnt (sj_pm u n f) n) : sj_fb u n f j < n ∧ sj_pm u n f (sj_fb u n f j) = true ∧ sj_cnt (sj_pm u n f) (sj_fb u n f j) = j := by
  obtain ⟨x, h1, h2, h3⟩ := sj_cnt_ex n j h
  have e : sj_fb u n f j = x := sj_find_eq n 0 (Nat.zero_le _) (by omega) (fun i _ hi => by
    by_cases c : sj_pm u n f i = true
    · have := sj_cnt_lt c x hi
      rw [decide_eq_false (by omega), Bool.and_false]
    · rw [Bool.eq_false_iff.mpr c, Bool.false_and]) (fun _ => by rw [h2, decide_eq_true h3]; rfl)
  rw [e]
  exact ⟨h1, h2, h3⟩
def ab_factor (σ : sj_S) (a1 a2 a3 a4 : Int32) : sj_O := match sj_kd a1 with
  | none => (1, 0, σ)
  | some k => match sj_od a2 with
    | none => (1, 0, σ)
    | some u => match sj_ix 4 a3 with
      | none => (2, 0, σ)
      | some r => match sj_ix (sj_cnt (sj_pm u (sj_n σ (k * 4 + r)) (sj_x σ (k * 4 + r))) (sj_n σ (k * 4 + r))) a4 with
        | none => (2, 0, σ)
        | some p => (0, (nI (sj_fb u (sj_n σ (k * 4 + r)) (sj_x σ (k * 4 + r)) p)).toInt64, σ)
theorem pc_factor {La : Nat → Nat} {σ : sj_S} {w : sj_W} (hL : sj_La La) (hC : sj_Cm La σ w) (hw : sj_wf σ) {a1 a2 a3 a4 : Int32} {Q : Int32 → sj_W → Prop} {QX : String → sj_W → Prop} (h : so_pX La w (ab_factor σ a1 a2 a3 a4) sj_en Int32.toInt64 Q QX) : vc_X6_factor (La 0) a1 a2 a3 a4 w Q QX := by
  have a := hC.all
  have en := hC.en
  unfold ab_factor at h
  refine pc_kindOf (fun k hk hk4 => pc_isUnsigned (fun u hu => ?_) (fun hu => ?_)) (fun hk => ?_)
  · simp (disch := omega) only [ne_eq, and_self, not_false_eq_true, not_true_eq_false, true_and, and_true, true_or, or_true, false_or, or_false, forall_eq, forall_const, true_implies, false_implies, if_true, if_false, sj_lits, sj_addI, sj_mulI, sj_clI, sj_inI, sj_ltI, sj_leI, sj_eqI, sj_lcI, a, en, hL.nz]
    refine pc_rowOf hL hC hk4 (fun r hr hr4 => ?_) (fun hr => ?_)
    · simp only [hk, hu, hr] at h
      have c := (hw.1 (k * 4 + r) (by omega)).1
      have cc := sj_cnt_le (sj_pm u (sj_n σ (k * 4 + r)) (sj_x σ (k * 4 + r))) (sj_n σ (k * 4 + r))
      simp (disch := omega) only [ne_eq, and_self, not_false_eq_true, not_true_eq_false, true_and, and_true, true_or, or_true, false_or, or_false, forall_eq, forall_const, true_implies, false_implies, if_true, if_false, sj_lits, sj_addI, sj_mulI, sj_clI, sj_inI, sj_ltI, sj_leI, sj_eqI, sj_lcI, a, en, hL.nz]
      refine pc_take hL hC hw (by omega) (fun w1 hf hC1 hE => ?_)
      have b := hC1.all
      have en1 := hC1.en
      simp (disch := omega) only [ne_eq, and_self, not_false_eq_true, not_true_eq_false, true_and, and_true, true_or, or_true, false_or, or_false, forall_eq, forall_const, true_implies, false_implies, if_true, if_false, sj_lits, sj_addI, sj_mulI, sj_clI, sj_inI, sj_ltI, sj_leI, sj_eqI, sj_lcI, b, en1, hL.nz]
      refine pc_split hL hC1 hw (by omega) hE (fun w2 hf2 hC2 hE2 hO => ?_)
      have b2 := hC2.all
      have en2 := hC2.en
      simp (disch := omega) only [ne_eq, and_self, not_false_eq_true, not_true_eq_false, true_and, and_true, true_or, or_true, false_or, or_false, forall_eq, forall_const, true_implies, false_implies, if_true, if_false, sj_lits, sj_addI, sj_mulI, sj_clI, sj_inI, sj_ltI, sj_leI, sj_eqI, sj_lcI, b2, en2, hL.nz]
      rw [hO.1]
      have hf3 := (sj_XE.x hf).trans (sj_X8.x hf2)
      refine pc_wantPlace (by omega) (fun p hp e hlt => ?_) (fun hp => ?_)
      · subst e
        simp only [hp] at h
        obtain ⟨h1, h2, h3⟩ := sj_fb_ok hlt
        have h4 := hO.2 _ h1 h2
        rw [h3] at h4
        simp (disch := omega) only [ne_eq, and_self, not_false_eq_true, not_true_eq_false, true_and, and_true, true_or, or_true, false_or, or_false, forall_eq, forall_const, true_implies, false_implies, if_true, if_false, sj_lits, sj_addI, sj_mulI, sj_clI, sj_inI, sj_ltI, sj_leI, sj_eqI, sj_lcI, b2, en2, hL.nz]
        rw [h4]
        exact ⟨by omega, so_k h hf3 hC2 rfl⟩
      · simp only [hp] at h
        exact so_e h (by decide) hf3 hC2
    · simp only [hk, hu, hr] at h
      exact so_e h (by decide) sj_fr.rf hC
  · simp only [hk, hu] at h
    exact so_e h (by decide) sj_fr.rf hC
  · simp only [hk] at h
    exact so_e h (by decide) sj_fr.rf hC

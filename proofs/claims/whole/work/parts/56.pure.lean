/-! words: the calls that ask -/
def ab_asks (σ : sj_S) (a1 a2 a3 a4 : Int32) : sj_O := match sj_kd a1 with
  | none => (1, 0, σ)
  | some k => if sj_isq a2 then (match sj_ix 12 a3 with
    | none => (2, 0, σ)
    | some i => match sj_ix 12 a4 with
      | none => (2, 0, σ)
      | some j => if sj_fit σ k i ∧ sj_fit σ k j then (0, (sj_ans a2 (sj_wn σ i) (sj_wx σ k i) (sj_wn σ j) (sj_wx σ k j)).toInt64, σ) else (3, 0, σ)) else (1, 0, σ)
theorem pc_asks {La : Nat → Nat} {σ : sj_S} {w : sj_W} (hL : sj_La La) (hC : sj_Cm La σ w) (hw : sj_wf σ) {a1 a2 a3 a4 : Int32} {Q : Int32 → sj_W → Prop} {QX : String → sj_W → Prop} (h : so_pX La w (ab_asks σ a1 a2 a3 a4) sj_en Int32.toInt64 Q QX) : vc_X6_asks (La 0) a1 a2 a3 a4 w Q QX := by
  have a := hC.all.1.1
  unfold ab_asks at h
  refine pc_kindOf (fun k hk hk4 => pc_wantQuestion (fun hq => ⟨a, pc_spanOf hL hC (fun i hi hi12 => ⟨a, pc_spanOf hL hC (fun j hj hj12 => ⟨a, pc_fittingWord hL hC hw hk4 hi12 (fun p w1 hf1 hw1 hp => ?_) (fun hf1 => ?_)⟩) (fun hj => ?_)⟩) (fun hi => ?_)⟩) (fun hq => ?_)) (fun hk => ?_)
  · have hC1 := hC.no hw1
    refine ⟨hC1.all.1.1, pc_fittingWord hL hC1 hw hk4 hj12 (fun q w2 hf2 hw2 hq2 => ?_) (fun hf2 => ?_)⟩
    · simp only [hk, hi, hj, if_pos hq, if_pos (And.intro hf1 hf2)] at h
      exact pc_answer (hp.no hw2) hq2 (so_k h (hw1.trans hw2).no (hC1.no hw2) rfl)
    · simp only [hk, hi, hj, if_pos hq, if_neg (fun z => hf2 (And.right z) : ¬ (sj_fit σ k i ∧ sj_fit σ k j))] at h
      exact so_e h (by decide) hw1.no hC1
  · simp only [hk, hi, hj, if_pos hq, if_neg (fun z => hf1 (And.left z) : ¬ (sj_fit σ k i ∧ sj_fit σ k j))] at h
    exact so_e h (by decide) sj_fr.rf hC
  · simp only [hk, hi, hj, if_pos hq] at h
    exact so_e h (by decide) sj_fr.rf hC
  · simp only [hk, hi, if_pos hq] at h
    exact so_e h (by decide) sj_fr.rf hC
  · simp only [hk, if_neg hq] at h
    exact so_e h (by decide) sj_fr.rf hC
  · simp only [hk] at h
    exact so_e h (by decide) sj_fr.rf hC
def ab_asksRows (σ : sj_S) (a1 a2 a3 a4 : Int32) : sj_O := match sj_kd a1 with
  | none => (1, 0, σ)
  | some k => if sj_isq a2 then (match sj_ix 4 a3 with
    | none => (2, 0, σ)
    | some i => match sj_ix 4 a4 with
      | none => (2, 0, σ)
      | some j => (0, (sj_ans a2 (sj_n σ (k * 4 + i)) (sj_x σ (k * 4 + i)) (sj_n σ (k * 4 + j)) (sj_x σ (k * 4 + j))).toInt64, σ)) else (1, 0, σ)
/-- a whole row as a new word -/
theorem pc_rowWord {La : Nat → Nat} {σ : sj_S} {w : sj_W} (hL : sj_La La) (hC : sj_Cm La σ w) (hw : sj_wf σ) {r : Nat} (hr : r < 16) {q f : Nat} (hq : sj_T w q = 0) {w2 : sj_W} (e2 : w2 = sj_nw w q 4 0) (hf : f ≤ sj_n σ r) {Q : sj_W → Prop} (h : ∀ w', sj_fr sj_no w w' → sj_Wo w' q (sj_n σ r - f) (fun j => sj_x σ r (f + j)) → Q w') : sj_T w2 (La (100 + r)) = 2 ∧ sj_A w2 8 (La (100 + r)) ≠ 0 ∧ sj_T w2 (La (100 + r)) = 2 ∧ vc_X4_init q (sj_A w2 8 (La (100 + r))) (nI f) (sj_I w2 9 (La (100 + r))) w2 Q := by
  have a0 := hC.all
  have c := (hw.1 r hr).1
  have a := (hC.no (w' := w2) (by rw [e2]; exact sj_fr.rf.nw hq)).all
  simp (disch := omega) only [ne_eq, and_self, not_false_eq_true, not_true_eq_false, true_and, and_true, true_or, or_true, false_or, or_false, forall_eq, forall_const, true_implies, false_implies, if_true, if_false, sj_lits, sj_addI, sj_mulI, sj_clI, sj_inI, sj_ltI, sj_leI, sj_eqI, sj_lcI, a, hL.nz]
  refine pc_word hq e2 (fun z => hL.2 _ z) (a0.2.2.2.2.2.2.1 _ (by omega)) (by simp (disch := omega) only [ne_eq, and_self, not_false_eq_true, not_true_eq_false, true_and, and_true, true_or, or_true, false_or, or_false, forall_eq, forall_const, true_implies, false_implies, if_true, if_false, sj_lits, sj_addI, sj_mulI, sj_clI, sj_inI, sj_ltI, sj_leI, sj_eqI, sj_lcI, a0]; omega) hf (by simp (disch := omega) only [ne_eq, and_self, not_false_eq_true, not_true_eq_false, true_and, and_true, true_or, or_true, false_or, or_false, forall_eq, forall_const, true_implies, false_implies, if_true, if_false, sj_lits, sj_addI, sj_mulI, sj_clI, sj_inI, sj_ltI, sj_leI, sj_eqI, sj_lcI, a0]; omega) (fun i hi => ?_) h
  exact a0.2.2.2.2.2.2.2.2.2.2.1 _ _ (by omega) (by omega)
theorem pc_asksRows {La : Nat → Nat} {σ : sj_S} {w : sj_W} (hL : sj_La La) (hC : sj_Cm La σ w) (hw : sj_wf σ) {a1 a2 a3 a4 : Int32} {Q : Int32 → sj_W → Prop} {QX : String → sj_W → Prop} (h : so_pX La w (ab_asksRows σ a1 a2 a3 a4) sj_en Int32.toInt64 Q QX) : vc_X6_asksRows (La 0) a1 a2 a3 a4 w Q QX := by
  have a := hC.all.1.1
  unfold ab_asksRows at h
  refine pc_kindOf (fun k hk hk4 => pc_wantQuestion (fun hq => ⟨a, pc_rowOf hL hC hk4 (fun i hi hi4 => ⟨a, pc_rowOf hL hC hk4 (fun j hj hj4 => ?_) (fun hj => ?_)⟩) (fun hi => ?_)⟩) (fun hq => ?_)) (fun hk => ?_)
  · simp only [hk, hi, hj, if_pos hq] at h
    intro q hq0 hqT w2 e2
    refine pc_rowWord hL hC hw (by omega) hqT e2 (Nat.zero_le _) (fun w3 hf3 hp3 => ?_)
    intro q' hq0' hqT' w4 e4
    have hC3 := hC.no hf3
    refine pc_rowWord hL hC3 hw (by omega) hqT' e4 (Nat.zero_le _) (fun w5 hf5 hp5 => ?_)
    simp only [Nat.sub_zero, Nat.zero_add] at hp3 hp5
    exact pc_answer (hp3.no hf5) hp5 (so_k h (hf3.trans hf5).no (hC3.no hf5) rfl)
  · simp only [hk, hi, hj, if_pos hq] at h
    exact so_e h (by decide) sj_fr.rf hC
  · simp only [hk, hi, if_pos hq] at h
    exact so_e h (by decide) sj_fr.rf hC
  · simp only [hk, if_neg hq] at h
    exact so_e h (by decide) sj_fr.rf hC
  · simp only [hk] at h
    exact so_e h (by decide) sj_fr.rf hC
def ab_refused (σ : sj_S) (a1 a2 a3 a4 a5 : Int32) : sj_O := match sj_kd a1 with
  | none => (1, 0, σ)
  | some k => if sj_isq a2 then (match sj_ix 4 a3 with
    | none => (2, 0, σ)
    | some r => (0, (nI ((if a5.toInt < a4.toInt then 1 else 0) + (if a4.toInt < 0 ∨ (sj_n σ (k * 4 + r) : Int) < a5.toInt then 2 else 0))).toInt64, σ)) else (1, 0, σ)
theorem pc_refused {La : Nat → Nat} {σ : sj_S} {w : sj_W} (hL : sj_La La) (hC : sj_Cm La σ w) (hw : sj_wf σ) {a1 a2 a3 a4 a5 : Int32} {Q : Int32 → sj_W → Prop} {QX : String → sj_W → Prop} (h : so_pX La w (ab_refused σ a1 a2 a3 a4 a5) sj_en Int32.toInt64 Q QX) : vc_X6_refused (La 0) a1 a2 a3 a4 a5 w Q QX := by
  have a := hC.all
  unfold ab_refused at h
  refine pc_kindOf (fun k hk hk4 => pc_wantQuestion (fun hq => ⟨a.1.1, pc_rowOf hL hC hk4 (fun r hr hr4 => ?_) (fun hr => ?_)⟩) (fun hq => ?_)) (fun hk => ?_)
  · simp only [hk, hr, if_pos hq] at h
    have c := (hw.1 (k * 4 + r) (by omega)).1
    have e0 : (nI 0).toInt = 0 := rfl
    have key : ∀ y : Nat, y < 2 → (y = if a5.toInt < a4.toInt then 1 else 0) → ((a4 < 0 → Q (nI y + 2) w) ∧ (¬ a4 < 0 → sj_T w (La (100 + (k * 4 + r))) = 2 ∧ ((a5 ≤ (sj_I w 9 (La (100 + (k * 4 + r)))) → Q (nI y + 0) w) ∧ (¬ a5 ≤ (sj_I w 9 (La (100 + (k * 4 + r)))) → Q (nI y + 2) w)))) := by
      intro y hy ey
      rw [← ey] at h
      have eN : (nI (sj_n σ (k * 4 + r))).toInt = sj_n σ (k * 4 + r) := nI_toInt (by omega)
      simp (disch := omega) only [a, sj_lits, sj_ltXX, sj_leXX, e0, eN, sj_addI, true_and]
      refine ⟨fun q => ?_, fun q => ⟨fun r => ?_, fun r => ?_⟩⟩
      · rw [if_pos (by omega)] at h
        exact so_k h sj_fr.rf hC rfl
      · rw [if_neg (by omega)] at h
        exact so_k h sj_fr.rf hC rfl
      · rw [if_pos (by omega)] at h
        exact so_k h sj_fr.rf hC rfl
    refine ⟨fun q => key 0 (by decide) ?_, fun q => key 1 (by decide) ?_⟩
    · rw [sj_leXX] at q
      rw [if_neg (by omega)]
    · rw [sj_leXX] at q
      rw [if_pos (by omega)]
  · simp only [hk, hr, if_pos hq] at h
    exact so_e h (by decide) sj_fr.rf hC
  · simp only [hk, if_neg hq] at h
    exact so_e h (by decide) sj_fr.rf hC
  · simp only [hk] at h
    exact so_e h (by decide) sj_fr.rf hC
def ab_common (σ : sj_S) (a1 a2 a3 : Int32) : sj_O := match sj_kd a1 with
  | none => (1, 0, σ)
  | some k => match sj_ix 12 a2 with
    | none => (2, 0, σ)
    | some i => match sj_ix 12 a3 with
      | none => (2, 0, σ)
      | some j => if sj_fit σ k i ∧ sj_fit σ k j then (0, (nI (sj_lcp (sj_wn σ i) (sj_wx σ k i) (sj_wn σ j) (sj_wx σ k j))).toInt64, σ) else (3, 0, σ)
theorem pc_common {La : Nat → Nat} {σ : sj_S} {w : sj_W} (hL : sj_La La) (hC : sj_Cm La σ w) (hw : sj_wf σ) {a1 a2 a3 : Int32} {Q : Int32 → sj_W → Prop} {QX : String → sj_W → Prop} (h : so_pX La w (ab_common σ a1 a2 a3) sj_en Int32.toInt64 Q QX) : vc_X6_common (La 0) a1 a2 a3 w Q QX := by
  have a := hC.all.1.1
  unfold ab_common at h
  refine pc_kindOf (fun k hk hk4 => ⟨a, pc_spanOf hL hC (fun i hi hi12 => ⟨a, pc_spanOf hL hC (fun j hj hj12 => ⟨a, pc_fittingWord hL hC hw hk4 hi12 (fun p w1 hf1 hw1 hp => ?_) (fun hf1 => ?_)⟩) (fun hj => ?_)⟩) (fun hi => ?_)⟩) (fun hk => ?_)
  · have hC1 := hC.no hw1
    refine ⟨hC1.all.1.1, pc_fittingWord hL hC1 hw hk4 hj12 (fun q w2 hf2 hw2 hq2 => ?_) (fun hf2 => ?_)⟩
    · simp only [hk, hi, hj, if_pos (And.intro hf1 hf2)] at h
      exact pc_alike (hp.no hw2) hq2 (so_k h (hw1.trans hw2).no (hC1.no hw2) rfl)
    · simp only [hk, hi, hj, if_neg (fun z => hf2 (And.right z) : ¬ (sj_fit σ k i ∧ sj_fit σ k j))] at h
      exact so_e h (by decide) hw1.no hC1
  · simp only [hk, hi, hj, if_neg (fun z => hf1 (And.left z) : ¬ (sj_fit σ k i ∧ sj_fit σ k j))] at h
    exact so_e h (by decide) sj_fr.rf hC
  · simp only [hk, hi, hj] at h
    exact so_e h (by decide) sj_fr.rf hC
  · simp only [hk, hi] at h
    exact so_e h (by decide) sj_fr.rf hC
  · simp only [hk] at h
    exact so_e h (by decide) sj_fr.rf hC
def ab_sorted (σ : sj_S) (a1 : Int32) : sj_O := match sj_ix (sj_ln σ) a1 with
  | none => (1, 0, σ)
  | some j => (0, (nI (sj_lx σ j)).toInt64, σ)
theorem pc_sorted {La : Nat → Nat} {σ : sj_S} {w : sj_W} (hL : sj_La La) (hC : sj_Cm La σ w) (hw : sj_wf σ) {a1 : Int32} {Q : Int32 → sj_W → Prop} {QX : String → sj_W → Prop} (h : so_pX La w (ab_sorted σ a1) sj_en2 Int32.toInt64 Q QX) : vc_X6_sorted (La 0) a1 w Q QX := by
  have a := hC.all
  have c := hw.2.2.1
  unfold ab_sorted at h
  unfold vc_X6_sorted
  simp (disch := omega) only [ne_eq, and_self, not_false_eq_true, not_true_eq_false, true_and, and_true, true_or, or_true, false_or, or_false, forall_eq, forall_const, true_implies, false_implies, if_true, if_false, sj_lits, sj_addI, sj_mulI, sj_clI, sj_inI, sj_ltI, sj_leI, sj_eqI, sj_lcI, a, hL.nz]
  refine pc_wantPlace (by omega) (fun i hi e hlt => ?_) (fun hi => ?_)
  · subst e
    simp only [hi] at h
    simp (disch := omega) only [ne_eq, and_self, not_false_eq_true, not_true_eq_false, true_and, and_true, true_or, or_true, false_or, or_false, forall_eq, forall_const, true_implies, false_implies, if_true, if_false, sj_lits, sj_addI, sj_mulI, sj_clI, sj_inI, sj_ltI, sj_leI, sj_eqI, sj_lcI, a, hL.nz]
    exact ⟨by omega, so_k h sj_fr.rf hC rfl⟩
  · simp only [hi] at h
    exact so_e h (by decide) sj_fr.rf hC

/-! ending, factors, factor: the calls -/
def sj_rkB (u : Bool) (n : Nat) (f : Nat → Int64) (p i : Nat) : Bool := decide (sj_cnt (fun j => sj_eltB u n f j i) n = p)
/-- where the ending begins that has so many lesser ones -/
def sj_eo (u : Bool) (n : Nat) (f : Nat → Int64) (p : Nat) : Nat := sj_find (sj_rkB u n f p) n 0
theorem sj_eo_eq {u : Bool} {n : Nat} {f : Nat → Int64} {lx : Nat → Nat} (h : sj_isSort sj_tt (sj_elt u n f) n n lx) {p : Nat} (hp : p < n) : sj_eo u n f p = lx p := by
  have rk : ∀ j, j < n → sj_cnt (fun i => sj_eltB u n f i (lx j)) n = j := fun j hj => sj_sort_rank h (fun i _ => sj_elt_irr) (fun i j _ _ => sj_elt_as) hj (fun i _ => by rw [sj_eltB_iff]; exact ⟨fun z => ⟨trivial, z⟩, fun z => z.2⟩)
  have hl := (h.1 p hp).1
  refine sj_find_eq n 0 (Nat.zero_le _) (by omega) (fun i _ hi => decide_eq_false fun z => ?_) (fun _ => decide_eq_true (rk p hp))
  obtain ⟨b, hb, e⟩ := h.2.2 i (by omega) trivial
  have e2 := rk b hb
  rw [e, z] at e2
  subst e2
  omega
def ab_ending (σ : sj_S) (a1 a2 a3 a4 : Int32) : sj_O := match sj_kd a1 with
  | none => (1, 0, σ)
  | some k => match sj_od a2 with
    | none => (1, 0, σ)
    | some u => match sj_ix 4 a3 with
      | none => (2, 0, σ)
      | some r => match sj_ix (sj_n σ (k * 4 + r)) a4 with
        | none => (2, 0, σ)
        | some p => (0, (nI (sj_eo u (sj_n σ (k * 4 + r)) (sj_x σ (k * 4 + r)) p)).toInt64, σ)
theorem sj_X7.x {La : Nat → Nat} {w w' : sj_W} (h : sj_fr (sj_X7 La) w w') : sj_fr (so_XC La) w w' := h.mono fun a e => ⟨7, Or.inl (by decide), e⟩
theorem sj_X8.x {La : Nat → Nat} {w w' : sj_W} (h : sj_fr (sj_X8 La) w w') : sj_fr (so_XC La) w w' := h.mono fun a q => q.elim (fun e => ⟨4, Or.inl (by decide), e⟩) (fun e => ⟨8, Or.inl (by decide), e⟩)
theorem pc_ending {La : Nat → Nat} {σ : sj_S} {w : sj_W} (hL : sj_La La) (hC : sj_Cm La σ w) (hw : sj_wf σ) {a1 a2 a3 a4 : Int32} {Q : Int32 → sj_W → Prop} {QX : String → sj_W → Prop} (h : so_pX La w (ab_ending σ a1 a2 a3 a4) sj_en Int32.toInt64 Q QX) : vc_X6_ending (La 0) a1 a2 a3 a4 w Q QX := by
  have a := hC.all
  have en := hC.en
  unfold ab_ending at h
  refine pc_kindOf (fun k hk hk4 => pc_isUnsigned (fun u hu => ⟨a.1.1, pc_rowOf hL hC hk4 (fun r hr hr4 => ?_) (fun hr => ?_)⟩) (fun hu => ?_)) (fun hk => ?_)
  · have c := (hw.1 (k * 4 + r) (by omega)).1
    simp only [hk, hu, hr] at h
    simp (disch := omega) only [ne_eq, and_self, not_false_eq_true, not_true_eq_false, true_and, and_true, true_or, or_true, false_or, or_false, forall_eq, forall_const, true_implies, false_implies, if_true, if_false, sj_lits, sj_addI, sj_mulI, sj_clI, sj_inI, sj_ltI, sj_leI, sj_eqI, sj_lcI, a, hL.nz]
    refine pc_wantPlace (by omega) (fun p hp e hlt => ?_) (fun hp => ?_)
    · subst e
      simp only [hp] at h
      simp (disch := omega) only [ne_eq, and_self, not_false_eq_true, not_true_eq_false, true_and, and_true, true_or, or_true, false_or, or_false, forall_eq, forall_const, true_implies, false_implies, if_true, if_false, sj_lits, sj_addI, sj_mulI, sj_clI, sj_inI, sj_ltI, sj_leI, sj_eqI, sj_lcI, a, en, hL.nz]
      refine pc_take hL hC hw (by omega) (fun w1 hf hC1 hE => ?_)
      have b := hC1.all
      have en1 := hC1.en
      simp (disch := omega) only [ne_eq, and_self, not_false_eq_true, not_true_eq_false, true_and, and_true, true_or, or_true, false_or, or_false, forall_eq, forall_const, true_implies, false_implies, if_true, if_false, sj_lits, sj_addI, sj_mulI, sj_clI, sj_inI, sj_ltI, sj_leI, sj_eqI, sj_lcI, b, en1, hL.nz]
      refine pc_putInOrder hL hC1 hw (by omega) hE (fun w2 hf2 hC2 hE2 hO => ?_)
      have b2 := hC2.all
      have en2 := hC2.en
      simp (disch := omega) only [ne_eq, and_self, not_false_eq_true, not_true_eq_false, true_and, and_true, true_or, or_true, false_or, or_false, forall_eq, forall_const, true_implies, false_implies, if_true, if_false, sj_lits, sj_addI, sj_mulI, sj_clI, sj_inI, sj_ltI, sj_leI, sj_eqI, sj_lcI, b2, en2, hL.nz]
      obtain ⟨lx, hs, hx⟩ := hO
      rw [sj_eo_eq hs hlt, ← hx p hlt] at h
      exact ⟨by omega, so_k h ((sj_XE.x hf).trans (sj_X7.x hf2)) hC2 rfl⟩
    · simp only [hp] at h
      exact so_e h (by decide) sj_fr.rf hC
  · simp only [hk, hu, hr] at h
    exact so_e h (by decide) sj_fr.rf hC
  · simp only [hk, hu] at h
    exact so_e h (by decide) sj_fr.rf hC
  · simp only [hk] at h
    exact so_e h (by decide) sj_fr.rf hC
def ab_factors (σ : sj_S) (a1 a2 a3 : Int32) : sj_O := match sj_kd a1 with
  | none => (1, 0, σ)
  | some k => match sj_od a2 with
    | none => (1, 0, σ)
    | some u => match sj_ix 4 a3 with
      | none => (2, 0, σ)
      | some r => (0, (nI (sj_cnt (sj_pm u (sj_n σ (k * 4 + r)) (sj_x σ (k * 4 + r))) (sj_n σ (k * 4 + r)))).toInt64, σ)
theorem pc_factors {La : Nat → Nat} {σ : sj_S} {w : sj_W} (hL : sj_La La) (hC : sj_Cm La σ w) (hw : sj_wf σ) {a1 a2 a3 : Int32} {Q : Int32 → sj_W → Prop} {QX : String → sj_W → Prop} (h : so_pX La w (ab_factors σ a1 a2 a3) sj_en Int32.toInt64 Q QX) : vc_X6_factors (La 0) a1 a2 a3 w Q QX := by
  have a := hC.all
  have en := hC.en
  unfold ab_factors at h
  refine pc_kindOf (fun k hk hk4 => pc_isUnsigned (fun u hu => ?_) (fun hu => ?_)) (fun hk => ?_)
  · simp (disch := omega) only [ne_eq, and_self, not_false_eq_true, not_true_eq_false, true_and, and_true, true_or, or_true, false_or, or_false, forall_eq, forall_const, true_implies, false_implies, if_true, if_false, sj_lits, sj_addI, sj_mulI, sj_clI, sj_inI, sj_ltI, sj_leI, sj_eqI, sj_lcI, a, en, hL.nz]
    refine pc_rowOf hL hC hk4 (fun r hr hr4 => ?_) (fun hr => ?_)
    · simp only [hk, hu, hr] at h
      simp (disch := omega) only [ne_eq, and_self, not_false_eq_true, not_true_eq_false, true_and, and_true, true_or, or_true, false_or, or_false, forall_eq, forall_const, true_implies, false_implies, if_true, if_false, sj_lits, sj_addI, sj_mulI, sj_clI, sj_inI, sj_ltI, sj_leI, sj_eqI, sj_lcI, a, en, hL.nz]
      refine pc_take hL hC hw (by omega) (fun w1 hf hC1 hE => ?_)
      have b := hC1.all
      have en1 := hC1.en
      simp (disch := omega) only [ne_eq, and_self, not_false_eq_true, not_true_eq_false, true_and, and_true, true_or, or_true, false_or, or_false, forall_eq, forall_const, true_implies, false_implies, if_true, if_false, sj_lits, sj_addI, sj_mulI, sj_clI, sj_inI, sj_ltI, sj_leI, sj_eqI, sj_lcI, b, en1, hL.nz]
      refine pc_split hL hC1 hw (by omega) hE (fun w2 hf2 hC2 hE2 hO => ?_)
      have b2 := hC2.all
      have en2 := hC2.en
      simp (disch := omega) only [ne_eq, and_self, not_false_eq_true, not_true_eq_false, true_and, and_true, true_or, or_true, false_or, or_false, forall_eq, forall_const, true_implies, false_implies, if_true, if_false, sj_lits, sj_addI, sj_mulI, sj_clI, sj_inI, sj_ltI, sj_leI, sj_eqI, sj_lcI, b2, en2, hL.nz]
      rw [hO.1]
      exact so_k h ((sj_XE.x hf).trans (sj_X8.x hf2)) hC2 rfl
    · simp only [hk, hu, hr] at h
      exact so_e h (by decide) sj_fr.rf hC
  · simp only [hk, hu] at h
    exact so_e h (by decide) sj_fr.rf hC
  · simp only [hk] at h
    exact so_e h (by decide) sj_fr.rf hC

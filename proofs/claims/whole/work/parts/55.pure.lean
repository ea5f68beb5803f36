/-! rows: the plain calls -/
def ab_set (σ : sj_S) (a1 a2 a3 : Int32) (x : Int64) : sj_O := match sj_kd a1 with
  | none => (1, 0, σ)
  | some k => if sj_inK k x then (match sj_ix 4 a2 with
    | none => (2, 0, σ)
    | some r => match sj_ix (sj_n σ (k * 4 + r)) a3 with
      | none => (2, 0, σ)
      | some i => (0, sj_x σ (k * 4 + r) i, sj_setR σ (k * 4 + r) (sj_n σ (k * 4 + r)) (fun j => if j = i then x else sj_x σ (k * 4 + r) j))) else (1, 0, σ)
theorem pc_set {La : Nat → Nat} {σ : sj_S} {w : sj_W} (hL : sj_La La) (hC : sj_Cm La σ w) (hw : sj_wf σ) {a1 a2 a3 : Int32} {x : Int64} {Q : Int64 → sj_W → Prop} {QX : String → sj_W → Prop} (h : so_pX La w (ab_set σ a1 a2 a3 x) sj_en id Q QX) : vc_X6_set (La 0) a1 a2 a3 x w Q QX := by
  have a := hC.all
  unfold ab_set at h
  refine pc_kindOf (fun k hk hk4 => pc_wantNumber hk4 (fun hin => ⟨a.1.1, pc_rowOf hL hC hk4 (fun r hr hr4 => ?_) (fun hr => ?_)⟩) (fun hin => ?_)) (fun hk => ?_)
  · have c := (hw.1 (k * 4 + r) (by omega)).1
    simp only [hk, hr, if_pos hin] at h
    simp (disch := omega) only [ne_eq, and_self, not_false_eq_true, not_true_eq_false, true_and, and_true, true_or, or_true, false_or, or_false, forall_eq, forall_const, true_implies, false_implies, if_true, if_false, sj_lits, sj_addI, sj_mulI, sj_clI, sj_inI, sj_ltI, sj_leI, sj_eqI, sj_lcI, a, hL.nz]
    refine pc_wantPlace (by omega) (fun i hi e hlt => ?_) (fun hi => ?_)
    · subst e
      simp only [hi] at h
      simp (disch := omega) only [ne_eq, and_self, not_false_eq_true, not_true_eq_false, true_and, and_true, true_or, or_true, false_or, or_false, forall_eq, forall_const, true_implies, false_implies, if_true, if_false, sj_lits, sj_addI, sj_mulI, sj_clI, sj_inI, sj_ltI, sj_leI, sj_eqI, sj_lcI, a, hL.nz]
      refine ⟨by omega, by omega, so_k h (sj_frR (k := k * 4 + r) (by omega) ?_) (sj_Cm.row hL hC (by omega) ?_ ?_ ?_) rfl⟩
      · exact (sj_fr.rf.l (Or.inl (Or.inr rfl)))
      · exact (sj_fr.rf.l (Or.inl (Or.inr rfl)))
      · simp (disch := omega) only [ne_eq, and_self, not_false_eq_true, not_true_eq_false, true_and, and_true, true_or, or_true, false_or, or_false, forall_eq, forall_const, true_implies, false_implies, if_true, if_false, sj_lits, sj_addI, sj_mulI, sj_clI, sj_inI, sj_ltI, sj_leI, sj_eqI, sj_lcI, sj_rd, a]
      · intro j hj
        simp (disch := omega) only [ne_eq, and_self, not_false_eq_true, not_true_eq_false, true_and, and_true, true_or, or_true, false_or, or_false, forall_eq, forall_const, true_implies, false_implies, if_true, if_false, sj_lits, sj_addI, sj_mulI, sj_clI, sj_inI, sj_ltI, sj_leI, sj_eqI, sj_lcI, sj_rd, a]
    · simp only [hi] at h
      exact so_e h (by decide) sj_fr.rf hC
  · simp only [hk, hr, if_pos hin] at h
    exact so_e h (by decide) sj_fr.rf hC
  · simp only [hk, if_neg hin] at h
    exact so_e h (by decide) sj_fr.rf hC
  · simp only [hk] at h
    exact so_e h (by decide) sj_fr.rf hC
def ab_number (σ : sj_S) (a1 a2 a3 : Int32) : sj_O := match sj_kd a1 with
  | none => (1, 0, σ)
  | some k => match sj_ix 4 a2 with
    | none => (2, 0, σ)
    | some r => match sj_ix (sj_n σ (k * 4 + r)) a3 with
      | none => (2, 0, σ)
      | some i => (0, sj_x σ (k * 4 + r) i, σ)
theorem pc_number {La : Nat → Nat} {σ : sj_S} {w : sj_W} (hL : sj_La La) (hC : sj_Cm La σ w) (hw : sj_wf σ) {a1 a2 a3 : Int32} {Q : Int64 → sj_W → Prop} {QX : String → sj_W → Prop} (h : so_pX La w (ab_number σ a1 a2 a3) sj_en id Q QX) : vc_X6_number (La 0) a1 a2 a3 w Q QX := by
  have a := hC.all
  unfold ab_number at h
  refine pc_kindOf (fun k hk hk4 => ⟨a.1.1, pc_rowOf hL hC hk4 (fun r hr hr4 => ?_) (fun hr => ?_)⟩) (fun hk => ?_)
  · have c := (hw.1 (k * 4 + r) (by omega)).1
    simp only [hk, hr] at h
    simp (disch := omega) only [ne_eq, and_self, not_false_eq_true, not_true_eq_false, true_and, and_true, true_or, or_true, false_or, or_false, forall_eq, forall_const, true_implies, false_implies, if_true, if_false, sj_lits, sj_addI, sj_mulI, sj_clI, sj_inI, sj_ltI, sj_leI, sj_eqI, sj_lcI, a, hL.nz]
    refine pc_wantPlace (by omega) (fun i hi e hlt => ?_) (fun hi => ?_)
    · subst e
      simp only [hi] at h
      simp (disch := omega) only [ne_eq, and_self, not_false_eq_true, not_true_eq_false, true_and, and_true, true_or, or_true, false_or, or_false, forall_eq, forall_const, true_implies, false_implies, if_true, if_false, sj_lits, sj_addI, sj_mulI, sj_clI, sj_inI, sj_ltI, sj_leI, sj_eqI, sj_lcI, a, hL.nz]
      exact ⟨by omega, so_k h sj_fr.rf hC rfl⟩
    · simp only [hi] at h
      exact so_e h (by decide) sj_fr.rf hC
  · simp only [hk, hr] at h
    exact so_e h (by decide) sj_fr.rf hC
  · simp only [hk] at h
    exact so_e h (by decide) sj_fr.rf hC
def ab_length (σ : sj_S) (a1 a2 : Int32) : sj_O := match sj_kd a1 with
  | none => (1, 0, σ)
  | some k => match sj_ix 4 a2 with
    | none => (2, 0, σ)
    | some r => (0, (nI (sj_n σ (k * 4 + r))).toInt64, σ)
theorem pc_length {La : Nat → Nat} {σ : sj_S} {w : sj_W} (hL : sj_La La) (hC : sj_Cm La σ w) (hw : sj_wf σ) {a1 a2 : Int32} {Q : Int32 → sj_W → Prop} {QX : String → sj_W → Prop} (h : so_pX La w (ab_length σ a1 a2) sj_en Int32.toInt64 Q QX) : vc_X6_length (La 0) a1 a2 w Q QX := by
  have a := hC.all
  unfold ab_length at h
  refine pc_kindOf (fun k hk hk4 => ⟨a.1.1, pc_rowOf hL hC hk4 (fun r hr hr4 => ?_) (fun hr => ?_)⟩) (fun hk => ?_)
  · simp only [hk, hr] at h
    simp (disch := omega) only [ne_eq, and_self, not_false_eq_true, not_true_eq_false, true_and, and_true, true_or, or_true, false_or, or_false, forall_eq, forall_const, true_implies, false_implies, if_true, if_false, sj_lits, sj_addI, sj_mulI, sj_clI, sj_inI, sj_ltI, sj_leI, sj_eqI, sj_lcI, a, hL.nz]
    exact so_k h sj_fr.rf hC rfl
  · simp only [hk, hr] at h
    exact so_e h (by decide) sj_fr.rf hC
  · simp only [hk] at h
    exact so_e h (by decide) sj_fr.rf hC
def ab_clear (σ : sj_S) (a1 a2 : Int32) : sj_O := match sj_kd a1 with
  | none => (1, 0, σ)
  | some k => match sj_ix 4 a2 with
    | none => (2, 0, σ)
    | some r => (0, (nI (sj_n σ (k * 4 + r))).toInt64, sj_setR σ (k * 4 + r) 0 (sj_x σ (k * 4 + r)))
theorem pc_clear {La : Nat → Nat} {σ : sj_S} {w : sj_W} (hL : sj_La La) (hC : sj_Cm La σ w) (hw : sj_wf σ) {a1 a2 : Int32} {Q : Int32 → sj_W → Prop} {QX : String → sj_W → Prop} (h : so_pX La w (ab_clear σ a1 a2) sj_en Int32.toInt64 Q QX) : vc_X6_clear (La 0) a1 a2 w Q QX := by
  have a := hC.all
  unfold ab_clear at h
  refine pc_kindOf (fun k hk hk4 => ⟨a.1.1, pc_rowOf hL hC hk4 (fun r hr hr4 => ?_) (fun hr => ?_)⟩) (fun hk => ?_)
  · simp only [hk, hr] at h
    simp (disch := omega) only [ne_eq, and_self, not_false_eq_true, not_true_eq_false, true_and, and_true, true_or, or_true, false_or, or_false, forall_eq, forall_const, true_implies, false_implies, if_true, if_false, sj_lits, sj_addI, sj_mulI, sj_clI, sj_inI, sj_ltI, sj_leI, sj_eqI, sj_lcI, a, hL.nz]
    refine so_k h (sj_frR (k := k * 4 + r) (by omega) ?_) (sj_Cm.row hL hC (by omega) ?_ ?_ (fun j hj => absurd hj (Nat.not_lt_zero _))) rfl
    · exact sj_fr.rf.I (Or.inl (Or.inl rfl))
    · exact sj_fr.rf.I (Or.inl (Or.inl rfl))
    · simp (disch := omega) only [ne_eq, and_self, not_false_eq_true, not_true_eq_false, true_and, and_true, true_or, or_true, false_or, or_false, forall_eq, forall_const, true_implies, false_implies, if_true, if_false, sj_lits, sj_addI, sj_mulI, sj_clI, sj_inI, sj_ltI, sj_leI, sj_eqI, sj_lcI, sj_rd, a]
  · simp only [hk, hr] at h
    exact so_e h (by decide) sj_fr.rf hC
  · simp only [hk] at h
    exact so_e h (by decide) sj_fr.rf hC
/-! spans -/
theorem sj_Cm.spa {La : Nat → Nat} {σ : sj_S} {w w' : sj_W} (hL : sj_La La) (hC : sj_Cm La σ w) {k r f t : Nat} (hk : k < 12) (hf : sj_fr (fun a => a = La (140 + k)) w w') (h16 : sj_I w' 16 (La (140 + k)) = nI r) (h17 : sj_I w' 17 (La (140 + k)) = nI f) (h18 : sj_I w' 18 (La (140 + k)) = nI t) : sj_Cm La (sj_setP σ k r f t) w' := by
  obtain ⟨hS, h1, h2, h3, h4⟩ := hC
  refine ⟨hS.fr hf, fun i hi => ?_, fun i hi => ?_, ?_, fun j hj => ?_⟩
  · have u := (hf (La (100 + i)) (by rw [(hS.2.2.2.2.1 i hi).1]; omega)).2.2.2.2 (by simp only [hL.eq]; omega)
    have v := (hf (La (120 + i)) (by rw [(hS.2.2.2.2.2.1 i hi).1]; omega)).2.2.2.2 (by simp only [hL.eq]; omega)
    exact ⟨(u.1 9).trans (h1 i hi).1, fun j hj => (v.2.2.2.1 j).trans ((h1 i hi).2 j hj)⟩
  · by_cases c : i = k
    · subst c
      have e1 : sj_pr (sj_setP σ i r f t) i = r := if_pos rfl
      have e2 : sj_pf (sj_setP σ i r f t) i = f := if_pos rfl
      have e3 : sj_pt (sj_setP σ i r f t) i = t := if_pos rfl
      rw [e1, e2, e3]
      exact ⟨h16, h17, h18⟩
    · have e1 : sj_pr (sj_setP σ k r f t) i = sj_pr σ i := if_neg c
      have e2 : sj_pf (sj_setP σ k r f t) i = sj_pf σ i := if_neg c
      have e3 : sj_pt (sj_setP σ k r f t) i = sj_pt σ i := if_neg c
      rw [e1, e2, e3]
      have u := (hf (La (140 + i)) (by rw [hS.2.2.2.2.2.2.1 i hi]; omega)).2.2.2.2 (by simp only [hL.eq]; omega)
      exact ⟨(u.1 16).trans (h2 i hi).1, (u.1 17).trans (h2 i hi).2.1, (u.1 18).trans (h2 i hi).2.2⟩
  · have u := (hf (La 0) (by rw [hS.1.1]; omega)).2.2.2.2 (by simp only [hL.eq]; omega)
    exact (u.1 36).trans h3
  · have u := (hf (La 3) (by rw [hS.2.2.2.1.1]; omega)).2.2.2.2 (by simp only [hL.eq]; omega)
    exact (u.2.2.1 j).trans (h4 j hj)
def ab_span (σ : sj_S) (a1 a2 a3 a4 : Int32) : sj_O := match sj_ix 12 a1 with
  | none => (1, 0, σ)
  | some k => match sj_ix 4 a2 with
    | none => (1, 0, σ)
    | some r => if 0 ≤ a3.toInt ∧ a3.toInt ≤ a4.toInt ∧ a4.toInt ≤ 32 then (0, (nI (a4.toInt.toNat - a3.toInt.toNat)).toInt64, sj_setP σ k r a3.toInt.toNat a4.toInt.toNat) else (2, 0, σ)
theorem sj_asN {x : Int32} (h : 0 ≤ x.toInt) : x = nI x.toInt.toNat := by
  have h1 := Int32.toInt_lt x
  refine Int32.toInt_inj.mp ?_
  rw [nI_toInt (by omega)]
  omega
theorem sj_negX (x : Int32) : (x < nI 0) = (x.toInt < 0) := by rw [Int32.lt_iff_toInt_lt]; rfl
theorem sj_ltXX (x y : Int32) : (x < y) = (x.toInt < y.toInt) := by rw [Int32.lt_iff_toInt_lt]
theorem sj_leXX (x y : Int32) : (x ≤ y) = (x.toInt ≤ y.toInt) := by rw [Int32.le_iff_toInt_le]
theorem pc_span {La : Nat → Nat} {σ : sj_S} {w : sj_W} (hL : sj_La La) (hC : sj_Cm La σ w) {a1 a2 a3 a4 : Int32} {Q : Int32 → sj_W → Prop} {QX : String → sj_W → Prop} (h : so_pX La w (ab_span σ a1 a2 a3 a4) sj_en2 Int32.toInt64 Q QX) : vc_X6_span (La 0) a1 a2 a3 a4 w Q QX := by
  have a := hC.all
  unfold ab_span at h
  have e0 : (nI 0).toInt = 0 := rfl
  have e32 : (nI 32).toInt = 32 := rfl
  refine ⟨a.1.1, pc_spanOf hL hC (fun k hk hk12 => pc_wantRow (fun r hr er hr4 => ?_) (fun hr => ?_)) (fun hk => ?_)⟩
  · simp only [hk, hr] at h
    simp only [sj_lits, sj_ltXX, sj_leXX, e0, e32]
    refine ⟨fun q => ?_, fun q => ⟨fun q2 => ?_, fun q2 => ⟨fun q3 => ?_, fun q3 => ?_⟩⟩⟩
    · rw [if_neg (by omega)] at h
      exact so_e h (by decide) sj_fr.rf hC
    · rw [if_neg (by omega)] at h
      exact so_e h (by decide) sj_fr.rf hC
    · rw [if_pos (by omega)] at h
      have e3 := sj_asN (x := a3) (by omega)
      have e4 := sj_asN (x := a4) (by omega)
      have hf : sj_fr (fun a => a = La (140 + k)) w (sj_sI (sj_sI (sj_sI w 16 (La (140 + k)) a2) 17 (La (140 + k)) a3) 18 (La (140 + k)) a4) := by
        refine sj_fr.I (sj_fr.I (sj_fr.I sj_fr.rf ?_) ?_) ?_ <;> exact Or.inl rfl
      simp (disch := omega) only [ne_eq, and_self, not_false_eq_true, not_true_eq_false, true_and, and_true, true_or, or_true, false_or, or_false, forall_eq, forall_const, true_implies, false_implies, if_true, if_false, sj_lits, sj_addI, sj_mulI, sj_clI, sj_inI, sj_ltI, sj_leI, sj_eqI, sj_lcI, sj_rd, a]
      refine so_k h (hf.mono fun b hb => ⟨140 + k, Or.inl (by omega), hb⟩) (sj_Cm.spa hL hC hk12 hf ?_ ?_ ?_) ?_
      · simp only [sj_rd]
        exact er
      · simp only [sj_rd]
        exact e3
      · simp only [sj_rd]
        exact e4
      · exact congrArg Int32.toInt64 ((congrArg (fun z => z - a3) e4).trans ((congrArg (fun z => nI a4.toInt.toNat - z) e3).trans (sj_subI (by omega))))
    · rw [if_neg (by omega)] at h
      exact so_e h (by decide) sj_fr.rf hC
  · simp only [hk, hr] at h
    exact so_e h (by decide) sj_fr.rf hC
  · simp only [hk] at h
    exact so_e h (by decide) sj_fr.rf hC
def ab_tells (σ : sj_S) (a1 a2 : Int32) : sj_O := match sj_ix 12 a1 with
  | none => (1, 0, σ)
  | some k => if a2 = 114 then (0, (nI (sj_pr σ k)).toInt64, σ) else if a2 = 102 then (0, (nI (sj_pf σ k)).toInt64, σ) else if a2 = 116 then (0, (nI (sj_pt σ k)).toInt64, σ) else (2, 0, σ)
theorem pc_tells {La : Nat → Nat} {σ : sj_S} {w : sj_W} (hL : sj_La La) (hC : sj_Cm La σ w) {a1 a2 : Int32} {Q : Int32 → sj_W → Prop} {QX : String → sj_W → Prop} (h : so_pX La w (ab_tells σ a1 a2) sj_en2 Int32.toInt64 Q QX) : vc_X6_tells (La 0) a1 a2 w Q QX := by
  have a := hC.all
  unfold ab_tells at h
  refine ⟨a.1.1, pc_spanOf hL hC (fun k hk hk12 => ?_) (fun hk => ?_)⟩
  · simp only [hk] at h
    simp (disch := omega) only [a, true_and]
    refine ⟨fun q => ?_, fun q => ?_, fun q => ?_, fun q => ?_⟩
    · subst q
      exact so_k h sj_fr.rf hC rfl
    · subst q
      exact so_k h sj_fr.rf hC rfl
    · subst q
      exact so_k h sj_fr.rf hC rfl
    · rw [if_neg q.2.1, if_neg q.1, if_neg q.2.2] at h
      exact so_e h (by decide) sj_fr.rf hC
  · simp only [hk] at h
    exact so_e h (by decide) sj_fr.rf hC
def ab_fits (σ : sj_S) (a1 a2 : Int32) : sj_O := match sj_kd a1 with
  | none => (1, 0, σ)
  | some k => match sj_ix 12 a2 with
    | none => (2, 0, σ)
    | some j => (0, (if sj_fit σ k j then 1 else 0), σ)
theorem pc_fits {La : Nat → Nat} {σ : sj_S} {w : sj_W} (hL : sj_La La) (hC : sj_Cm La σ w) (hw : sj_wf σ) {a1 a2 : Int32} {Q : Int32 → sj_W → Prop} {QX : String → sj_W → Prop} (h : so_pX La w (ab_fits σ a1 a2) sj_en Int32.toInt64 Q QX) : vc_X6_fits (La 0) a1 a2 w Q QX := by
  have a := hC.all
  unfold ab_fits at h
  refine pc_kindOf (fun k hk hk4 => ⟨a.1.1, pc_spanOf hL hC (fun j hj hj12 => ⟨a.1.1, pc_isFitting hL hC hw hk4 hj12 (fun q => ?_) (fun q => ?_)⟩) (fun hj => ?_)⟩) (fun hk => ?_)
  · simp only [hk, hj, if_pos q] at h
    exact ⟨Or.inr rfl, so_k h sj_fr.rf hC rfl⟩
  · simp only [hk, hj, if_neg q] at h
    exact ⟨Or.inl rfl, so_k h sj_fr.rf hC rfl⟩
  · simp only [hk, hj] at h
    exact so_e h (by decide) sj_fr.rf hC
  · simp only [hk] at h
    exact so_e h (by decide) sj_fr.rf hC

/-! OUTCOMES: the exception's number (0: none), the answer, the state then -/
abbrev sj_O : Type := Nat × Int64 × sj_S
def sj_en (k : Nat) : String := if k = 1 then "java/lang/IllegalArgumentException" else if k = 2 then "java/lang/IndexOutOfBoundsException" else "java/lang/IllegalStateException"
def sj_en2 (k : Nat) : String := if k = 1 then "java/lang/IndexOutOfBoundsException" else "java/lang/IllegalArgumentException"
def sj_en3 (k : Nat) : String := if k = 1 then "java/lang/IllegalArgumentException" else "java/lang/IllegalStateException"
def so_XC (La : Nat → Nat) : Nat → Prop := fun a => ∃ i, (i < 200 ∨ i = 210 ∨ i = 211) ∧ a = La i
def so_XM (La : Nat → Nat) : Nat → Prop := fun a => ∃ i, (200 ≤ i ∧ i < 210) ∧ a = La i
/-- what a component's method must come to -/
def so_pX {A : Type} (La : Nat → Nat) (w : sj_W) (o : sj_O) (en : Nat → String) (cv : A → Int64) (Q : A → sj_W → Prop) (QX : String → sj_W → Prop) : Prop :=
  (o.1 = 0 → ∀ r w', sj_fr (so_XC La) w w' → sj_Cm La o.2.2 w' → cv r = o.2.1 → Q r w') ∧ (∀ w', o.1 ≠ 0 → sj_fr (so_XC La) w w' → sj_Cm La o.2.2 w' → QX (en o.1) w')
/-- what a call of the law of a component's method must come to -/
def so_pC (La : Nat → Nat) (w : sj_W) (o : sj_O) (Q : Int32 → sj_W → Prop) : Prop := ∀ w', sj_fr (so_XC La) w w' → sj_Cm La o.2.2 w' → (o.1 = 0 → sj_l w' (La 210) 0 = o.2.1) → Q (nI o.1) w'
theorem so_e {A : Type} {La : Nat → Nat} {w w' : sj_W} {k : Nat} {v : Int64} {σ : sj_S} {en : Nat → String} {cv : A → Int64} {Q : A → sj_W → Prop} {QX : String → sj_W → Prop} (h : so_pX La w (k, v, σ) en cv Q QX) (hk : k ≠ 0) (hf : sj_fr (so_XC La) w w') (hC : sj_Cm La σ w') : QX (en k) w' := h.2 w' hk hf hC
theorem so_k {A : Type} {La : Nat → Nat} {w w' : sj_W} {r : A} {v : Int64} {σ : sj_S} {en : Nat → String} {cv : A → Int64} {Q : A → sj_W → Prop} {QX : String → sj_W → Prop} (h : so_pX La w (0, v, σ) en cv Q QX) (hf : sj_fr (so_XC La) w w') (hC : sj_Cm La σ w') (hv : cv r = v) : Q r w' := h.1 rfl r w' hf hC hv
theorem so_XC.i {La : Nat → Nat} {i : Nat} (h : i < 200) : so_XC La (La i) := ⟨i, Or.inl h, rfl⟩
theorem sj_Cm.row {La : Nat → Nat} {σ : sj_S} {w w' : sj_W} (hL : sj_La La) (hC : sj_Cm La σ w) {k n : Nat} {f : Nat → Int64} (hk : k < 16) (hf : sj_fr (fun a => a = La (100 + k) ∨ a = La (120 + k)) w w') (hn : sj_I w' 9 (La (100 + k)) = nI n) (hx : ∀ j, j < n → sj_l w' (La (120 + k)) j = f j) : sj_Cm La (sj_setR σ k n f) w' := by
  obtain ⟨hS, h1, h2, h3, h4⟩ := hC
  refine ⟨hS.fr hf, fun i hi => ?_, fun i hi => ?_, ?_, fun j hj => ?_⟩
  · by_cases c : i = k
    · subst c
      have e1 : sj_n (sj_setR σ i n f) i = n := if_pos rfl
      have e2 : sj_x (sj_setR σ i n f) i = f := if_pos rfl
      rw [e1, e2]
      exact ⟨hn, hx⟩
    · have e1 : sj_n (sj_setR σ k n f) i = sj_n σ i := if_neg c
      have e2 : sj_x (sj_setR σ k n f) i = sj_x σ i := if_neg c
      rw [e1, e2]
      have u := (hf (La (100 + i)) (by rw [(hS.2.2.2.2.1 i hi).1]; omega)).2.2.2.2 (by simp only [hL.eq]; omega)
      have v := (hf (La (120 + i)) (by rw [(hS.2.2.2.2.2.1 i hi).1]; omega)).2.2.2.2 (by simp only [hL.eq]; omega)
      exact ⟨(u.1 9).trans (h1 i hi).1, fun j hj => (v.2.2.2.1 j).trans ((h1 i hi).2 j hj)⟩
  · have u := (hf (La (140 + i)) (by rw [hS.2.2.2.2.2.2.1 i hi]; omega)).2.2.2.2 (by simp only [hL.eq]; omega)
    exact ⟨(u.1 16).trans (h2 i hi).1, (u.1 17).trans (h2 i hi).2.1, (u.1 18).trans (h2 i hi).2.2⟩
  · have u := (hf (La 0) (by rw [hS.1.1]; omega)).2.2.2.2 (by simp only [hL.eq]; omega)
    exact (u.1 36).trans h3
  · have u := (hf (La 3) (by rw [hS.2.2.2.1.1]; omega)).2.2.2.2 (by simp only [hL.eq]; omega)
    exact (u.2.2.1 j).trans (h4 j hj)
theorem sj_frR {La : Nat → Nat} {k : Nat} {w w' : sj_W} (hk : k < 16) (hf : sj_fr (fun a => a = La (100 + k) ∨ a = La (120 + k)) w w') : sj_fr (so_XC La) w w' := hf.mono fun a h => h.elim (fun e => ⟨100 + k, Or.inl (by omega), e⟩) (fun e => ⟨120 + k, Or.inl (by omega), e⟩)
def ab_append (σ : sj_S) (a1 a2 : Int32) (x : Int64) : sj_O := match sj_kd a1 with
  | none => (1, 0, σ)
  | some k => if sj_inK k x then (match sj_ix 4 a2 with
    | none => (2, 0, σ)
    | some r => if sj_n σ (k * 4 + r) < 32 then (0, (nI (sj_n σ (k * 4 + r) + 1)).toInt64, sj_setR σ (k * 4 + r) (sj_n σ (k * 4 + r) + 1) (fun j => if j = sj_n σ (k * 4 + r) then x else sj_x σ (k * 4 + r) j)) else (3, 0, σ)) else (1, 0, σ)
theorem pc_append {La : Nat → Nat} {σ : sj_S} {w : sj_W} (hL : sj_La La) (hC : sj_Cm La σ w) (hw : sj_wf σ) {a1 a2 : Int32} {x : Int64} {Q : Int32 → sj_W → Prop} {QX : String → sj_W → Prop} (h : so_pX La w (ab_append σ a1 a2 x) sj_en Int32.toInt64 Q QX) : vc_X6_append (La 0) a1 a2 x w Q QX := by
  have a := hC.all
  unfold ab_append at h
  refine pc_kindOf (fun k hk hk4 => pc_wantNumber hk4 (fun hin => ⟨a.1.1, pc_rowOf hL hC hk4 (fun r hr hr4 => ?_) (fun hr => ?_)⟩) (fun hin => ?_)) (fun hk => ?_)
  · have c := (hw.1 (k * 4 + r) (by omega)).1
    simp only [hk, hr, if_pos hin] at h
    simp (disch := omega) only [ne_eq, and_self, not_false_eq_true, not_true_eq_false, true_and, and_true, true_or, or_true, false_or, or_false, forall_eq, forall_const, true_implies, false_implies, if_true, if_false, sj_lits, sj_addI, sj_mulI, sj_clI, sj_inI, sj_ltI, sj_leI, sj_eqI, sj_lcI, a, hL.nz]
    refine ⟨fun q => ?_, fun q => ?_⟩
    · rw [if_pos (by omega)] at h
      simp (disch := omega) only [ne_eq, and_self, not_false_eq_true, not_true_eq_false, true_and, and_true, true_or, or_true, false_or, or_false, forall_eq, forall_const, true_implies, false_implies, if_true, if_false, sj_lits, sj_addI, sj_mulI, sj_clI, sj_inI, sj_ltI, sj_leI, sj_eqI, sj_lcI, sj_rd, a]
      refine ⟨by omega, so_k h (sj_frR (k := k * 4 + r) (by omega) ?_) (sj_Cm.row hL hC (by omega) ?_ ?_ ?_) rfl⟩
      · exact (sj_fr.rf.l (Or.inl (Or.inr rfl))).I (Or.inl (Or.inl rfl))
      · exact (sj_fr.rf.l (Or.inl (Or.inr rfl))).I (Or.inl (Or.inl rfl))
      · simp (disch := omega) only [ne_eq, and_self, not_false_eq_true, not_true_eq_false, true_and, and_true, true_or, or_true, false_or, or_false, forall_eq, forall_const, true_implies, false_implies, if_true, if_false, sj_lits, sj_addI, sj_mulI, sj_clI, sj_inI, sj_ltI, sj_leI, sj_eqI, sj_lcI, sj_rd, a]
      · intro j hj
        simp (disch := omega) only [ne_eq, and_self, not_false_eq_true, not_true_eq_false, true_and, and_true, true_or, or_true, false_or, or_false, forall_eq, forall_const, true_implies, false_implies, if_true, if_false, sj_lits, sj_addI, sj_mulI, sj_clI, sj_inI, sj_ltI, sj_leI, sj_eqI, sj_lcI, sj_rd, a]
    · rw [if_neg (by omega)] at h
      exact so_e h (by decide) sj_fr.rf hC
  · simp only [hk, hr, if_pos hin] at h
    exact so_e h (by decide) sj_fr.rf hC
  · simp only [hk, if_neg hin] at h
    exact so_e h (by decide) sj_fr.rf hC
  · simp only [hk] at h
    exact so_e h (by decide) sj_fr.rf hC

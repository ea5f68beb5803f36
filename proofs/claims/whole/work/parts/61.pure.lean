/-! sort -/
abbrev sj_sw (σ : sj_S) (k : Nat) (u : Bool) (i j : Nat) : Int32 := sj_wc u (sj_wn σ i) (sj_wx σ k i) (sj_wn σ j) (sj_wx σ k j)
abbrev sj_slt (σ : sj_S) (k : Nat) (u : Bool) (i j : Nat) : Prop := ¬ nI 0 ≤ sj_sw σ k u i j ∨ (sj_sw σ k u i j = nI 0 ∧ i < j)
theorem sj_slt_irr {σ : sj_S} {k : Nat} {u : Bool} {i : Nat} : ¬ sj_slt σ k u i i := by
  rintro (h | h)
  · exact sj_wlt_irr (sj_wcL.mp h) sj_weq_r
  · omega
theorem sj_slt_tr {σ : sj_S} {k : Nat} {u : Bool} {i j l : Nat} (a : sj_slt σ k u i j) (b : sj_slt σ k u j l) : sj_slt σ k u i l := by
  rcases a with a | a
  · rcases b with b | b
    · exact Or.inl (sj_wcL.mpr (sj_wlt_tr (sj_wcL.mp a) (sj_wcL.mp b)))
    · exact Or.inl (sj_wcL.mpr (sj_wlt_r (sj_wcL.mp a) (sj_wc0.mp b.1)))
  · rcases b with b | b
    · exact Or.inl (sj_wcL.mpr (sj_wlt_l (sj_wc0.mp a.1) (sj_wcL.mp b)))
    · exact Or.inr ⟨sj_wc0.mpr (sj_weq_t (sj_wc0.mp a.1) (sj_wc0.mp b.1)), by omega⟩
theorem sj_slt_as {σ : sj_S} {k : Nat} {u : Bool} {i j : Nat} (a : sj_slt σ k u i j) : ¬ sj_slt σ k u j i := fun b => sj_slt_irr (sj_slt_tr a b)
def sj_fitB (σ : sj_S) (k i : Nat) : Bool := decide (sj_fit σ k i)
def sj_plc (σ : sj_S) (k : Nat) (u : Bool) (x i : Nat) : Bool := decide (sj_fit σ k i ∧ (¬ nI 0 ≤ sj_sw σ k u i x ∨ (sj_sw σ k u i x = nI 0 ∧ i < x)))
def sj_sxB (σ : sj_S) (k : Nat) (u : Bool) (j i : Nat) : Bool := decide (sj_fit σ k i ∧ sj_cnt (sj_plc σ k u i) 12 = j)
def sj_sx (σ : sj_S) (k : Nat) (u : Bool) (j : Nat) : Nat := sj_find (sj_sxB σ k u j) 12 0
theorem sj_plc_iff {σ : sj_S} {k : Nat} {u : Bool} {x i : Nat} : sj_plc σ k u x i = true ↔ sj_fit σ k i ∧ sj_slt σ k u i x := ⟨fun h => of_decide_eq_true h, fun h => decide_eq_true h⟩
/-- any list in order is that one -/
theorem sj_sx_eq {σ : sj_S} {k : Nat} {u : Bool} {ln : Nat} {lx : Nat → Nat} (h : sj_isSort (sj_fit σ k) (sj_slt σ k u) 12 ln lx) : ln = sj_cnt (sj_fitB σ k) 12 ∧ ∀ j, j < ln → sj_sx σ k u j = lx j := by
  have rk : ∀ j, j < ln → sj_cnt (sj_plc σ k u (lx j)) 12 = j := fun j hj => sj_sort_rank h (fun i _ => sj_slt_irr) (fun i j _ _ => sj_slt_as) hj (fun i _ => sj_plc_iff)
  refine ⟨(sj_sort_num h (fun i _ => sj_slt_irr) (fun i _ => ⟨fun z => of_decide_eq_true z, fun z => decide_eq_true z⟩)).symm, fun j hj => ?_⟩
  refine sj_find_eq 12 0 (Nat.zero_le _) (by have := (h.1 j hj).1; omega) (fun i _ hi => ?_) (fun _ => decide_eq_true ⟨(h.1 j hj).2, rk j hj⟩)
  refine decide_eq_false fun z => ?_
  obtain ⟨b, hb, e⟩ := h.2.2 i (by have := (h.1 j hj).1; omega) z.1
  have e2 := rk b hb
  rw [e, z.2] at e2
  subst e2
  omega
theorem sj_Cm.lst {La : Nat → Nat} {σ : sj_S} {w w' : sj_W} (hL : sj_La La) (hC : sj_Cm La σ w) {n : Nat} {l : Nat → Nat} (hf : sj_fr (fun a => a = La 0 ∨ a = La 3) w w') (h36 : sj_I w' 36 (La 0) = nI n) (hl : ∀ j, j < n → sj_i w' (La 3) j = nI (l j)) : sj_Cm La (sj_setL σ n l) w' := by
  obtain ⟨hS, h1, h2, h3, h4⟩ := hC
  refine ⟨hS.fr hf, fun i hi => ?_, fun i hi => ?_, h36, hl⟩
  · have u := (hf (La (100 + i)) (by rw [(hS.2.2.2.2.1 i hi).1]; omega)).2.2.2.2 (by simp only [hL.eq]; omega)
    have v := (hf (La (120 + i)) (by rw [(hS.2.2.2.2.2.1 i hi).1]; omega)).2.2.2.2 (by simp only [hL.eq]; omega)
    exact ⟨(u.1 9).trans (h1 i hi).1, fun j hj => (v.2.2.2.1 j).trans ((h1 i hi).2 j hj)⟩
  · have u := (hf (La (140 + i)) (by rw [hS.2.2.2.2.2.2.1 i hi]; omega)).2.2.2.2 (by simp only [hL.eq]; omega)
    exact ⟨(u.1 16).trans (h2 i hi).1, (u.1 17).trans (h2 i hi).2.1, (u.1 18).trans (h2 i hi).2.2⟩
theorem sj_wf.lst {σ : sj_S} (h : sj_wf σ) {n : Nat} {l : Nat → Nat} (hn : n ≤ 12) (hl : ∀ j, j < n → l j < 12) : sj_wf (sj_setL σ n l) := ⟨h.1, h.2.1, hn, hl⟩
theorem pc_putIntoList {La : Nat → Nat} {σ : sj_S} {w : sj_W} (hL : sj_La La) {k m ln : Nat} {u : Bool} {lx : Nat → Nat} (hC : sj_Cm La (sj_setL σ ln lx) w) (hw : sj_wf σ) (hk : k < 4) (hm : m < 12) (hln : ln ≤ m) (hfit : sj_fit σ k m) (hs : sj_isSort (sj_fit σ k) (sj_slt σ k u) m ln lx) {Q : sj_W → Prop}
    (h : ∀ w' lx', sj_fr (fun a => a = La 0 ∨ a = La 3) w w' → sj_Cm La (sj_setL σ (ln + 1) lx') w' → sj_isSort (sj_fit σ k) (sj_slt σ k u) (m + 1) (ln + 1) lx' → Q w') : vc_X6_putIntoList (La 0) (nI k) (sj_b u) (nI m) w Q := by
  have a := hC.all
  have hlx : ∀ j, j < ln → lx j < 12 := fun j hj => by have := (hs.1 j hj).1; omega
  have hw0 : sj_wf (sj_setL σ ln lx) := hw.lst (by omega) hlx
  unfold vc_X6_putIntoList
  simp (disch := omega) only [ne_eq, and_self, not_false_eq_true, not_true_eq_false, true_and, and_true, true_or, or_true, false_or, or_false, forall_eq, forall_const, true_implies, false_implies, if_true, if_false, sj_lits, sj_addI, sj_mulI, sj_clI, sj_inI, sj_ltI, sj_leI, sj_eqI, sj_lcI, a, hL.nz]
  refine ⟨by omega, pc_wordOf hL hC hw0 hk hm hfit (fun q w2 hf2 hq => ?_)⟩
  have a2 := (hC.no hf2).all
  simp (disch := omega) only [ne_eq, and_self, not_false_eq_true, not_true_eq_false, true_and, and_true, true_or, or_true, false_or, or_false, forall_eq, forall_const, true_implies, false_implies, if_true, if_false, sj_lits, sj_addI, sj_mulI, sj_clI, sj_inI, sj_ltI, sj_leI, sj_eqI, sj_lcI, a2]
  refine sj_lp1_run (fun v w' => ∃ p, v = nI p ∧ p ≤ ln ∧ sj_fr (fun a => a = La 0 ∨ a = La 3) w w' ∧ (∃ l2, sj_Cm La (sj_setL σ ln l2) w' ∧ (∀ j, j < ln → l2 j < 12) ∧ ∀ j, j < p → l2 j = lx j) ∧ (∀ j, p < j → j ≤ ln → sj_i w' (La 3) j = nI (lx (j - 1))) ∧ (∀ j, p ≤ j → j < ln → sj_slt σ k u m (lx j)) ∧ sj_Wo w' q (sj_wn σ m) (sj_wx σ k m)) (fun v _ => v.toNatClampNeg) ?_ 14 _ _ ⟨ln, rfl, Nat.le_refl _, hf2.no, ⟨lx, hC.no hf2, hlx, fun j _ => rfl⟩, fun j h1 h2 => by omega, fun j h1 h2 => by omega, hq⟩ ?_
  · rintro v w' K ⟨p, rfl, hp, hfr, ⟨l2, hC2, hl2, hl2x⟩, hsh, hgt, hqw⟩ hK
    have b := hC2.all
    have b36 : sj_I w' 36 (La 0) = nI ln := b.2.2.2.2.2.2.2.2.2.2.2.2.2.2.1
    have bl : ∀ j, j < ln → sj_i w' (La 3) j = nI (l2 j) := b.2.2.2.2.2.2.2.2.2.2.2.2.2.2.2
    have hw2 : sj_wf (sj_setL σ ln l2) := hw.lst (by omega) hl2
    have fin : ∀ w1, sj_fr sj_no w' w1 → (0 < p → sj_slt σ k u (lx (p - 1)) m) → Q (sj_sI (sj_si w1 (La 3) p (nI m)) 36 (La 0) (nI (ln + 1))) := by
      intro w1 hf1 hlt
      have hC1 := hC2.no hf1
      have c := hC1.all
      have c36 : sj_I w1 36 (La 0) = nI ln := c.2.2.2.2.2.2.2.2.2.2.2.2.2.2.1
      have cl : ∀ j, j < ln → sj_i w1 (La 3) j = nI (l2 j) := c.2.2.2.2.2.2.2.2.2.2.2.2.2.2.2
      have csh : ∀ j, p < j → j ≤ ln → sj_i w1 (La 3) j = nI (lx (j - 1)) := fun j h1 h2 => (((hf1 (La 3) (by rw [b.2.2.2.1.1]; omega)).2.2.2.2 (fun z => z)).2.2.1 j).trans (hsh j h1 h2)
      have hfr3 : sj_fr (fun a => a = La 0 ∨ a = La 3) w (sj_sI (sj_si w1 (La 3) p (nI m)) 36 (La 0) (nI (ln + 1))) := ((hfr.trans hf1.no).i (Or.inl (Or.inr rfl))).I (Or.inl (Or.inl rfl))
      refine h _ (fun j => if j < p then lx j else if j = p then m else lx (j - 1)) hfr3 ?_ ?_
      · refine sj_Cm.lst (σ := sj_setL σ ln l2) hL hC2 (((hf1.no.i (Or.inl (Or.inr rfl))).I (Or.inl (Or.inl rfl)))) ?_ (fun j hj => ?_)
        · simp (disch := omega) only [ne_eq, and_self, not_false_eq_true, not_true_eq_false, true_and, and_true, true_or, or_true, false_or, or_false, forall_eq, forall_const, true_implies, false_implies, if_true, if_false, sj_lits, sj_addI, sj_mulI, sj_clI, sj_inI, sj_ltI, sj_leI, sj_eqI, sj_lcI, sj_rd]
        · simp (disch := omega) only [ne_eq, and_self, not_false_eq_true, not_true_eq_false, true_and, and_true, true_or, or_true, false_or, or_false, forall_eq, forall_const, true_implies, false_implies, if_true, if_false, sj_lits, sj_addI, sj_mulI, sj_clI, sj_inI, sj_ltI, sj_leI, sj_eqI, sj_lcI, sj_rd]
          by_cases c1 : j < p
          · rw [if_neg (by omega), if_pos c1, cl j (by omega), hl2x j c1]
          · rw [if_neg c1]
            by_cases c2 : j = p
            · rw [if_pos c2, if_pos c2]
            · rw [if_neg c2, if_neg c2, csh j (by omega) (by omega)]
      · obtain ⟨s1, s2, s3⟩ := hs
        refine ⟨fun j hj => ?_, fun i j hij hj => ?_, fun i hi hP => ?_⟩ <;> dsimp only
        · by_cases c1 : j < p
          · rw [if_pos c1]; have := s1 j (by omega); exact ⟨by omega, this.2⟩
          · rw [if_neg c1]
            by_cases c2 : j = p
            · rw [if_pos c2]; exact ⟨by omega, hfit⟩
            · rw [if_neg c2]; have := s1 (j - 1) (by omega); exact ⟨by omega, this.2⟩
        · by_cases c1 : j < p
          · rw [if_pos c1, if_pos (by omega)]; exact s2 i j hij (by omega)
          · rw [if_neg c1]
            by_cases c2 : j = p
            · rw [if_pos c2, if_pos (by omega)]
              by_cases c3 : i = p - 1
              · subst c3; exact hlt (by omega)
              · exact sj_slt_tr (s2 i (p - 1) (by omega) (by omega)) (hlt (by omega))
            · rw [if_neg c2]
              by_cases c3 : i < p
              · rw [if_pos c3]; exact s2 i (j - 1) (by omega) (by omega)
              · rw [if_neg c3]
                by_cases c4 : i = p
                · rw [if_pos c4]; exact hgt (j - 1) (by omega) (by omega)
                · rw [if_neg c4]; exact s2 (i - 1) (j - 1) (by omega) (by omega)
        · by_cases c1 : i = m
          · exact ⟨p, by omega, by rw [if_neg (Nat.lt_irrefl _), if_pos rfl, c1]⟩
          · obtain ⟨j, hj, e⟩ := s3 i (by omega) hP
            by_cases c2 : j < p
            · exact ⟨j, by omega, by rw [if_pos c2, e]⟩
            · exact ⟨j + 1, by omega, by rw [if_neg (by omega), if_neg (by omega), Nat.add_sub_cancel, e]⟩
    unfold vb_X6_putIntoList_19
    simp (disch := omega) only [sj_lits, sj_leI]
    refine ⟨fun q2 => ?_, fun q2 => ?_⟩
    · simp (disch := omega) only [ne_eq, and_self, not_false_eq_true, not_true_eq_false, true_and, and_true, true_or, or_true, false_or, or_false, forall_eq, forall_const, true_implies, false_implies, if_true, if_false, sj_lits, sj_addI, sj_mulI, sj_clI, sj_inI, sj_ltI, sj_leI, sj_eqI, sj_lcI, sj_rd, b.1, b.2.2.2.1, b36, hL.nz]
      exact ⟨by omega, fin w' sj_fr.rf (fun z => by omega)⟩
    rw [sj_subI (by omega)]
    have e1 : sj_i w' (La 3) (p - 1) = nI (lx (p - 1)) := by rw [bl _ (by omega), hl2x _ (by omega)]
    have hx12 := hlx (p - 1) (by omega)
    have hxs := hs.1 (p - 1) (by omega)
    simp (disch := omega) only [ne_eq, and_self, not_false_eq_true, not_true_eq_false, true_and, and_true, true_or, or_true, false_or, or_false, forall_eq, forall_const, true_implies, false_implies, if_true, if_false, sj_lits, sj_addI, sj_mulI, sj_clI, sj_inI, sj_ltI, sj_leI, sj_eqI, sj_lcI, b.1, b.2.1, b.2.2.1, b.2.2.2.1, e1, hL.nz]
    refine ⟨by omega, by omega, pc_wordOf hL hC2 hw2 hk hx12 hxs.2 (fun q3 w3 hf3 hq3 => pc_compareWords hq3 (hqw.no hf3) ⟨fun z => ?_, fun z => ?_⟩)⟩
    · have c := (hC2.no hf3).all
      have c36 : sj_I w3 36 (La 0) = nI ln := c.2.2.2.2.2.2.2.2.2.2.2.2.2.2.1
      simp (disch := omega) only [ne_eq, and_self, not_false_eq_true, not_true_eq_false, true_and, and_true, true_or, or_true, false_or, or_false, forall_eq, forall_const, true_implies, false_implies, if_true, if_false, sj_lits, sj_addI, sj_mulI, sj_clI, sj_inI, sj_ltI, sj_leI, sj_eqI, sj_lcI, sj_rd, c.1, c.2.2.2.1, c36, hL.nz]
      refine ⟨by omega, fin w3 hf3 (fun _ => ?_)⟩
      rcases sj_wc_cases u (sj_wn σ (lx (p - 1))) (sj_wx σ k (lx (p - 1))) (sj_wn σ m) (sj_wx σ k m) with ⟨e, hh⟩ | ⟨e, hh⟩ | ⟨e, hh⟩
      · exact Or.inr ⟨e, hxs.1⟩
      · exact Or.inl (sj_wcL.mpr hh)
      · exact absurd z (sj_wcG.mpr hh)
    · have hC3 := hC2.no hf3
      have c := hC3.all
      have cl : ∀ j, j < ln → sj_i w3 (La 3) j = nI (l2 j) := c.2.2.2.2.2.2.2.2.2.2.2.2.2.2.2
      have e3 : sj_i w3 (La 3) (p - 1) = nI (lx (p - 1)) := by rw [cl _ (by omega), hl2x _ (by omega)]
      have csh : ∀ j, p < j → j ≤ ln → sj_i w3 (La 3) j = nI (lx (j - 1)) := fun j h1 h2 => (((hf3 (La 3) (by rw [b.2.2.2.1.1]; omega)).2.2.2.2 (fun z => z)).2.2.1 j).trans (hsh j h1 h2)
      have ed : nI p + -nI 1 = nI (p - 1) := by
        obtain ⟨p', rfl⟩ : ∃ p', p = p' + 1 := ⟨p - 1, by omega⟩
        exact sj_dec p'
      simp (disch := omega) only [ne_eq, and_self, not_false_eq_true, not_true_eq_false, true_and, and_true, true_or, or_true, false_or, or_false, forall_eq, forall_const, true_implies, false_implies, if_true, if_false, sj_lits, sj_addI, sj_mulI, sj_clI, sj_inI, sj_ltI, sj_leI, sj_eqI, sj_lcI, c.1, c.2.2.2.1, e3, ed, hL.nz]
      refine ⟨by omega, by omega, hK _ _ ⟨p - 1, rfl, by omega, (hfr.trans hf3.no).i (Or.inl (Or.inr rfl)), ⟨fun j => if j = p then lx (p - 1) else l2 j, sj_Cm.lst (σ := sj_setL σ ln l2) hL hC2 (hf3.no.i (Or.inl (Or.inr rfl))) ?_ (fun j hj => ?_), fun j hj => ?_, fun j hj => ?_⟩, fun j h1 h2 => ?_, fun j h1 h2 => ?_, ?_⟩ ?_⟩
      · simp (disch := omega) only [ne_eq, and_self, not_false_eq_true, not_true_eq_false, true_and, and_true, true_or, or_true, false_or, or_false, forall_eq, forall_const, true_implies, false_implies, if_true, if_false, sj_lits, sj_addI, sj_mulI, sj_clI, sj_inI, sj_ltI, sj_leI, sj_eqI, sj_lcI, sj_rd]
        exact c.2.2.2.2.2.2.2.2.2.2.2.2.2.2.1
      · simp (disch := omega) only [ne_eq, and_self, not_false_eq_true, not_true_eq_false, true_and, and_true, true_or, or_true, false_or, or_false, forall_eq, forall_const, true_implies, false_implies, if_true, if_false, sj_lits, sj_addI, sj_mulI, sj_clI, sj_inI, sj_ltI, sj_leI, sj_eqI, sj_lcI, sj_rd]
        by_cases c1 : j = p
        · rw [if_pos c1, if_pos c1]
        · rw [if_neg c1, if_neg c1]
          exact cl j hj
      · dsimp only
        by_cases c1 : j = p
        · rw [if_pos c1]; exact hx12
        · rw [if_neg c1]; exact hl2 j hj
      · dsimp only
        rw [if_neg (by omega)]; exact hl2x j (by omega)
      · simp (disch := omega) only [ne_eq, and_self, not_false_eq_true, not_true_eq_false, true_and, and_true, true_or, or_true, false_or, or_false, forall_eq, forall_const, true_implies, false_implies, if_true, if_false, sj_lits, sj_addI, sj_mulI, sj_clI, sj_inI, sj_ltI, sj_leI, sj_eqI, sj_lcI, sj_rd]
        by_cases c1 : j = p
        · rw [if_pos c1, c1]
        · rw [if_neg c1]; exact csh j (by omega) h2
      · by_cases c1 : j = p - 1
        · subst c1
          refine Or.inl (sj_wcL.mpr (sj_wcG.mp z))
        · exact hgt j (by omega) h2
      · exact (hqw.no hf3).fr (X := fun a => a = La 3) (sj_fr.rf.i (Or.inl rfl)) (fun a ha => by rw [ha, c.2.2.2.1.1]; exact ⟨by decide, by decide⟩)
      · rw [sj_clI (by omega), sj_clI (by omega)]; omega
  · have e36 : sj_ln (sj_setL σ ln lx) = ln := rfl
    rw [e36, sj_clI (by omega)]; omega
def ab_sort (σ : sj_S) (a1 a2 : Int32) : sj_O := match sj_kd a1 with
  | none => (1, 0, σ)
  | some k => match sj_od a2 with
    | none => (1, 0, σ)
    | some u => (0, (nI (sj_cnt (sj_fitB σ k) 12)).toInt64, sj_setL σ (sj_cnt (sj_fitB σ k) 12) (sj_sx σ k u))
theorem sj_Cm.relist {La : Nat → Nat} {σ : sj_S} {w : sj_W} {n : Nat} {l l' : Nat → Nat} (h : sj_Cm La (sj_setL σ n l) w) (he : ∀ j, j < n → l' j = l j) : sj_Cm La (sj_setL σ n l') w := ⟨h.1, h.2.1, h.2.2.1, h.2.2.2.1, fun j hj => (h.2.2.2.2 j hj).trans (congrArg nI (he j hj).symm)⟩
theorem pc_sort {La : Nat → Nat} {σ : sj_S} {w : sj_W} (hL : sj_La La) (hC : sj_Cm La σ w) (hw : sj_wf σ) {a1 a2 : Int32} {Q : Int32 → sj_W → Prop} {QX : String → sj_W → Prop} (h : so_pX La w (ab_sort σ a1 a2) sj_en Int32.toInt64 Q QX) : vc_X6_sort (La 0) a1 a2 w Q QX := by
  have a := hC.all
  unfold ab_sort at h
  refine pc_kindOf (fun k hk hk4 => pc_isUnsigned (fun u hu => ⟨a.1.1, ?_⟩) (fun hu => ?_)) (fun hk => ?_)
  · simp only [hk, hu] at h
    intro w7 e7
    refine sj_lp1_run (fun v w' => ∃ m ln lx, v = nI m ∧ m ≤ 12 ∧ ln ≤ m ∧ sj_fr (fun a => a = La 0 ∨ a = La 3) w w' ∧ sj_Cm La (sj_setL σ ln lx) w' ∧ sj_isSort (sj_fit σ k) (sj_slt σ k u) m ln lx) (fun v _ => 13 - v.toNatClampNeg) ?_ 14 _ _ ⟨0, 0, fun _ => 0, rfl, by omega, by omega, ?_, ?_, ⟨fun j hj => by omega, fun i j _ hj => by omega, fun i hi => by omega⟩⟩ (by omega)
    · rintro v w' K ⟨m, ln, lx, rfl, hm, hln, hfr, hC', hs⟩ hK
      have hw' : sj_wf (sj_setL σ ln lx) := hw.lst (by omega) (fun j hj => by have := (hs.1 j hj).1; omega)
      have b := hC'.all
      have b36 : sj_I w' 36 (La 0) = nI ln := b.2.2.2.2.2.2.2.2.2.2.2.2.2.2.1
      unfold vb_X6_sort_19
      simp (disch := omega) only [ne_eq, and_self, not_false_eq_true, not_true_eq_false, true_and, and_true, true_or, or_true, false_or, or_false, forall_eq, forall_const, true_implies, false_implies, if_true, if_false, sj_lits, sj_addI, sj_mulI, sj_clI, sj_inI, sj_ltI, sj_leI, sj_eqI, sj_lcI, b.1, b.2.1, b.2.2.1, b36, hL.nz]
      refine ⟨fun q => ?_, fun q => ⟨by omega, ?_⟩⟩
      · have e : m = 12 := by omega
        subst e
        obtain ⟨e1, e2⟩ := sj_sx_eq hs
        rw [← e1] at h
        exact so_k h (hfr.mono fun b hb => hb.elim (fun e => ⟨0, Or.inl (by decide), e⟩) (fun e => ⟨3, Or.inl (by decide), e⟩)) (hC'.relist e2) rfl
      · have hm12 : m < 12 := by omega
        simp (disch := omega) only [b.2.2.1]
        refine ⟨fun z => hL.2 _ z, pc_isFitting hL hC' hw' hk4 hm12 (fun hf => ⟨fun e => absurd e (by decide), fun _ => ⟨b.1.1, ?_⟩⟩) (fun hf => ⟨fun _ => ?_, fun e => absurd rfl e⟩)⟩
        · refine pc_putIntoList hL hC' hw hk4 (by omega) hln hf hs (fun w2 lx2 hf2 hC2 hs2 => hK _ _ ⟨m + 1, ln + 1, lx2, rfl, by omega, by omega, hfr.trans hf2, hC2, hs2⟩ ?_)
          rw [sj_clI (by omega), sj_clI (by omega)]; omega
        · refine hK _ _ ⟨m + 1, ln, lx, rfl, by omega, by omega, hfr, hC', ⟨fun j hj => ⟨by have := (hs.1 j hj).1; omega, (hs.1 j hj).2⟩, hs.2.1, fun i hi hP => ?_⟩⟩ ?_
          · by_cases c : i = m
            · subst c; exact absurd hP hf
            · exact hs.2.2 i (by omega) hP
          · rw [sj_clI (by omega), sj_clI (by omega)]; omega
    · rw [e7]
      exact sj_fr.rf.I (Or.inl (Or.inl rfl))
    · refine sj_Cm.lst hL hC (w' := w7) ?_ ?_ (fun j hj => by omega)
      · rw [e7]
        exact sj_fr.rf.I (Or.inl (Or.inl rfl))
      · rw [e7]
        simp (disch := omega) only [ne_eq, and_self, not_false_eq_true, not_true_eq_false, true_and, and_true, true_or, or_true, false_or, or_false, forall_eq, forall_const, true_implies, false_implies, if_true, if_false, sj_lits, sj_addI, sj_mulI, sj_clI, sj_inI, sj_ltI, sj_leI, sj_eqI, sj_lcI, sj_rd]
  · simp only [hk, hu] at h
    exact so_e h (by decide) sj_fr.rf hC
  · simp only [hk] at h
    exact so_e h (by decide) sj_fr.rf hC

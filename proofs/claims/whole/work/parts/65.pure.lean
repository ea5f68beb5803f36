/-! the order of the endings -/
theorem sj_wc_n {u : Bool} {n m : Nat} {f g : Nat → Int64} (h : ¬ (sj_lcp n f m g < n ∧ sj_lcp n f m g < m)) (hn : n < 2147483648) (hm : m < 2147483648) : sj_wc u n f m g = sj_nc false (nI n).toInt64 (nI m).toInt64 := by
  unfold sj_wc
  rw [if_neg h, sj_nc_n hn hm]
theorem pc_compareParts {La : Nat → Nat} {σ : sj_S} {w : sj_W} (hL : sj_La La) (hC : sj_Cm La σ w) (hw : sj_wf σ) {r : Nat} {u : Bool} (hr : r < 16) (hE : sj_En La σ r u w) {i a j b : Nat} (hi : i ≤ a) (ha : a ≤ sj_n σ r) (hj : j ≤ b) (hb : b ≤ sj_n σ r) {Q : Int32 → sj_W → Prop} (h : Q (sj_wc u (a - i) (sj_sf (sj_x σ r) i) (b - j) (sj_sf (sj_x σ r) j)) w) : vc_X0_compareParts (La 4) (nI i) (nI a) (nI j) (nI b) w Q := by
  have t := hC.all
  have en := hC.en
  have c := (hw.1 r hr).1
  obtain ⟨⟨e5, e6, e7⟩, tab⟩ := hE
  have hl := sj_lcp_min (n := sj_n σ r - i) (m := sj_n σ r - j) (n' := a - i) (m' := b - j) (f := sj_sf (sj_x σ r) i) (g := sj_sf (sj_x σ r) j) (by omega) (by omega)
  have e : sj_lcp (sj_n σ r - i) (sj_sf (sj_x σ r) i) (sj_n σ r - j) (sj_sf (sj_x σ r) j) = sj_ls (sj_n σ r) (sj_x σ r) i j := rfl
  rw [e] at hl
  have hle := sj_ls_le (n := sj_n σ r) (f := sj_x σ r) (i := i) (j := j)
  have htab := tab i j (by omega) (by omega)
  unfold vc_X0_compareParts
  rw [sj_subI hi, sj_subI hj]
  simp (disch := omega) only [ne_eq, and_self, not_false_eq_true, not_true_eq_false, true_and, and_true, true_or, or_true, false_or, or_false, forall_eq, forall_const, true_implies, false_implies, if_true, if_false, sj_lits, sj_addI, sj_mulI, sj_clI, sj_inI, sj_ltI, sj_leI, sj_eqI, sj_lcI, en, htab, hL.nz]
  refine ⟨by omega, by omega, fun q => ?_, fun q => ⟨fun q2 => ?_, fun q2 => ?_⟩⟩
  · rw [sj_wc_n (by omega) (by omega) (by omega)] at h
    exact pc_compareNumbers (u := false) h
  · rw [sj_wc_n (by omega) (by omega) (by omega)] at h
    exact pc_compareNumbers (u := false) h
  · rw [e5, e7]
    simp (disch := omega) only [ne_eq, and_self, not_false_eq_true, not_true_eq_false, true_and, and_true, true_or, or_true, false_or, or_false, forall_eq, forall_const, true_implies, false_implies, if_true, if_false, sj_lits, sj_addI, sj_mulI, sj_clI, sj_inI, sj_ltI, sj_leI, sj_eqI, sj_lcI, t]
    refine ⟨fun z => hL.2 _ z, by omega, fun z => hL.2 _ z, by omega, pc_compareNumbers ?_⟩
    have e9 : sj_lcp (a - i) (sj_sf (sj_x σ r) i) (b - j) (sj_sf (sj_x σ r) j) = sj_ls (sj_n σ r) (sj_x σ r) i j := by rw [hl]; omega
    unfold sj_wc at h
    rw [e9, if_pos ⟨by omega, by omega⟩] at h
    exact h
theorem sj_sort_ins {P : Nat → Prop} {lt : Nat → Nat → Prop} {m ln p : Nat} {lx : Nat → Nat} (hs : sj_isSort P lt m ln lx) (hp : p ≤ ln) (hP : P m) (htr : ∀ a b c, lt a b → lt b c → lt a c) (hlt : 0 < p → lt (lx (p - 1)) m) (hgt : ∀ j, p ≤ j → j < ln → lt m (lx j)) : sj_isSort P lt (m + 1) (ln + 1) (fun j => if j < p then lx j else if j = p then m else lx (j - 1)) := by
  obtain ⟨s1, s2, s3⟩ := hs
  refine ⟨fun j hj => ?_, fun i j hij hj => ?_, fun i hi hP2 => ?_⟩ <;> dsimp only
  · by_cases c1 : j < p
    · rw [if_pos c1]; have := s1 j (by omega); exact ⟨by omega, this.2⟩
    · rw [if_neg c1]
      by_cases c2 : j = p
      · rw [if_pos c2]; exact ⟨by omega, hP⟩
      · rw [if_neg c2]; have := s1 (j - 1) (by omega); exact ⟨by omega, this.2⟩
  · by_cases c1 : j < p
    · rw [if_pos c1, if_pos (by omega)]; exact s2 i j hij (by omega)
    · rw [if_neg c1]
      by_cases c2 : j = p
      · rw [if_pos c2, if_pos (by omega)]
        by_cases c3 : i = p - 1
        · subst c3; exact hlt (by omega)
        · exact htr _ _ _ (s2 i (p - 1) (by omega) (by omega)) (hlt (by omega))
      · rw [if_neg c2]
        by_cases c3 : i < p
        · rw [if_pos c3]; exact s2 i (j - 1) (by omega) (by omega)
        · rw [if_neg c3]
          by_cases c4 : i = p
          · rw [if_pos c4]; exact hgt (j - 1) (by omega) (by omega)
          · rw [if_neg c4]; exact s2 (i - 1) (j - 1) (by omega) (by omega)
  · by_cases c1 : i = m
    · exact ⟨p, by omega, by rw [if_neg (Nat.lt_irrefl _), if_pos rfl, c1]⟩
    · obtain ⟨j, hj, e⟩ := s3 i (by omega) hP2
      by_cases c2 : j < p
      · exact ⟨j, by omega, by rw [if_pos c2, e]⟩
      · exact ⟨j + 1, by omega, by rw [if_neg (by omega), if_neg (by omega), Nat.add_sub_cancel, e]⟩
/-- an ending is less than another -/
def sj_elt (u : Bool) (n : Nat) (f : Nat → Int64) (i j : Nat) : Prop := sj_wlt u (n - i) (sj_sf f i) (n - j) (sj_sf f j)
theorem sj_elt_tr {u : Bool} {n : Nat} {f : Nat → Int64} (i j k : Nat) (a : sj_elt u n f i j) (b : sj_elt u n f j k) : sj_elt u n f i k := sj_wlt_tr a b
theorem sj_elt_irr {u : Bool} {n : Nat} {f : Nat → Int64} {i : Nat} : ¬ sj_elt u n f i i := fun h => sj_wlt_irr h sj_weq_r
theorem sj_elt_as {u : Bool} {n : Nat} {f : Nat → Int64} {i j : Nat} (a : sj_elt u n f i j) : ¬ sj_elt u n f j i := fun b => sj_wlt_asym a b
theorem sj_elt_tot {u : Bool} {n : Nat} {f : Nat → Int64} {i j : Nat} (hi : i ≤ n) (hj : j ≤ n) (h : i ≠ j) : sj_elt u n f i j ∨ sj_elt u n f j i := by
  rcases sj_w_tot u (n - i) (sj_sf f i) (n - j) (sj_sf f j) with e | e | e
  · have := e.1
    omega
  · exact Or.inl e
  · exact Or.inr e
def sj_tt : Nat → Prop := fun _ => True
/-- the endings are in order -/
def sj_Or (La : Nat → Nat) (σ : sj_S) (r : Nat) (u : Bool) (w : sj_W) : Prop := ∃ lx, sj_isSort sj_tt (sj_elt u (sj_n σ r) (sj_x σ r)) (sj_n σ r) (sj_n σ r) lx ∧ ∀ j, j < sj_n σ r → sj_i w (La 7) j = nI (lx j)
def sj_X7 (La : Nat → Nat) : Nat → Prop := fun a => a = La 7
theorem sj_En.fr {La : Nat → Nat} {σ : sj_S} {r : Nat} {u : Bool} {X : Nat → Prop} {w w' : sj_W} (h : sj_En La σ r u w) (hw : sj_wf σ) (hr : r < 16) (hC : sj_Cm La σ w) (g : sj_fr X w w') (hX : ∀ i, (i = 4 ∨ (10 ≤ i ∧ i < 43)) → ¬ X (La i)) : sj_En La σ r u w' := by
  have en := hC.en
  have c := (hw.1 r hr).1
  obtain ⟨⟨e5, e6, e7⟩, tab⟩ := h
  have q := (g (La 4) (by rw [en.1.1]; omega)).2.2.2.2 (hX 4 (Or.inl rfl))
  refine ⟨⟨(q.2.1 5).trans e5, (q.1 6).trans e6, (q.1 7).trans e7⟩, fun i j hi hj => ?_⟩
  have t := (g (La (10 + i)) (by rw [en.2.2.2.1 i (by omega)]; omega)).2.2.2.2 (hX _ (by omega))
  exact (t.2.2.1 j).trans (tab i j hi hj)
theorem pc_putInOrder {La : Nat → Nat} {σ : sj_S} {w : sj_W} (hL : sj_La La) (hC : sj_Cm La σ w) (hw : sj_wf σ) {r : Nat} {u : Bool} (hr : r < 16) (hE : sj_En La σ r u w) {Q : sj_W → Prop} (h : ∀ w', sj_fr (sj_X7 La) w w' → sj_Cm La σ w' → sj_En La σ r u w' → sj_Or La σ r u w' → Q w') : vc_X0_putInOrder (La 4) w Q := by
  have c := (hw.1 r hr).1
  have ok : ∀ w', sj_fr (sj_X7 La) w w' → sj_Cm La σ w' ∧ sj_En La σ r u w' := fun w' hf => ⟨hC.fr hf (fun i _ e => by have := hL.1 _ _ e; omega), hE.fr hw hr hC hf (fun i hi e => by have := hL.1 _ _ e; omega)⟩
  refine sj_lp1_run (fun v w' => ∃ m lx, v = nI m ∧ m ≤ sj_n σ r ∧ sj_fr (sj_X7 La) w w' ∧ sj_isSort sj_tt (sj_elt u (sj_n σ r) (sj_x σ r)) m m lx ∧ ∀ j, j < m → sj_i w' (La 7) j = nI (lx j)) (fun v _ => 40 - v.toNatClampNeg) ?_ 64 _ _ ⟨0, fun _ => 0, rfl, Nat.zero_le _, sj_fr.rf, ⟨fun j hj => by omega, fun i j _ hj => by omega, fun i hi => by omega⟩, fun j hj => by omega⟩ (by omega)
  rintro v w1 K ⟨m, lx, rfl, hm, hf1, hs, hx1⟩ hK
  obtain ⟨hC1, hE1⟩ := ok w1 hf1
  have en1 := hC1.en
  have e6 := hE1.1.2.1
  unfold vb_X0_putInOrder_2
  simp (disch := omega) only [ne_eq, and_self, not_false_eq_true, not_true_eq_false, true_and, and_true, true_or, or_true, false_or, or_false, forall_eq, forall_const, true_implies, false_implies, if_true, if_false, sj_lits, sj_addI, sj_mulI, sj_clI, sj_inI, sj_ltI, sj_leI, sj_eqI, sj_lcI, en1, e6]
  refine ⟨fun q => ?_, fun q => ?_⟩
  · have e : m = sj_n σ r := by omega
    subst e
    exact h w1 hf1 hC1 hE1 ⟨lx, hs, hx1⟩
  · refine sj_lp1_run (fun v w' => ∃ p, v = nI p ∧ p ≤ m ∧ sj_fr (sj_X7 La) w w' ∧ (∀ j, j < p → sj_i w' (La 7) j = nI (lx j)) ∧ (∀ j, p < j → j ≤ m → sj_i w' (La 7) j = nI (lx (j - 1))) ∧ (∀ j, p ≤ j → j < m → sj_elt u (sj_n σ r) (sj_x σ r) m (lx j))) (fun v _ => v.toNatClampNeg) ?_ 64 _ _ ⟨m, rfl, Nat.le_refl _, hf1, hx1, fun j h1 h2 => by omega, fun j h1 h2 => by omega⟩ (by rw [sj_clI (by omega)]; omega)
    rintro v w2 K2 ⟨p, rfl, hp, hf2, hlo, hhi, hgt⟩ hK2
    obtain ⟨hC2, hE2⟩ := ok w2 hf2
    have en2 := hC2.en
    have e62 := hE2.1.2.1
    have fin : (0 < p → sj_elt u (sj_n σ r) (sj_x σ r) (lx (p - 1)) m) → K (nI (m + 1)) (sj_si w2 (La 7) p (nI m)) := by
      intro hlt
      refine hK _ _ ⟨m + 1, fun j => if j < p then lx j else if j = p then m else lx (j - 1), rfl, by omega, hf2.i (Or.inl rfl), sj_sort_ins hs hp trivial sj_elt_tr hlt hgt, fun j hj => ?_⟩ ?_
      · simp (disch := omega) only [ne_eq, and_self, not_false_eq_true, not_true_eq_false, true_and, and_true, true_or, or_true, false_or, or_false, forall_eq, forall_const, true_implies, false_implies, if_true, if_false, sj_lits, sj_addI, sj_mulI, sj_clI, sj_inI, sj_ltI, sj_leI, sj_eqI, sj_lcI, sj_rd]
        by_cases c1 : j < p
        · rw [if_neg (by omega), if_pos c1]; exact hlo j c1
        · rw [if_neg c1]
          by_cases c2 : j = p
          · rw [if_pos c2, if_pos c2]
          · rw [if_neg c2, if_neg c2]; exact hhi j (by omega) (by omega)
      · rw [sj_clI (by omega), sj_clI (by omega)]; omega
    unfold vb_X0_putInOrder_12
    simp (disch := omega) only [sj_lits, sj_leI]
    refine ⟨fun z => ?_, fun z => ?_⟩
    · simp (disch := omega) only [ne_eq, and_self, not_false_eq_true, not_true_eq_false, true_and, and_true, true_or, or_true, false_or, or_false, forall_eq, forall_const, true_implies, false_implies, if_true, if_false, sj_lits, sj_addI, sj_mulI, sj_clI, sj_inI, sj_ltI, sj_leI, sj_eqI, sj_lcI, en2, hL.nz]
      exact ⟨by omega, fin (fun y => by omega)⟩
    · have hx2 := hlo (p - 1) (by omega)
      have hlm := (hs.1 (p - 1) (by omega)).1
      rw [sj_subI (by omega)]
      simp (disch := omega) only [ne_eq, and_self, not_false_eq_true, not_true_eq_false, true_and, and_true, true_or, or_true, false_or, or_false, forall_eq, forall_const, true_implies, false_implies, if_true, if_false, sj_lits, sj_addI, sj_mulI, sj_clI, sj_inI, sj_ltI, sj_leI, sj_eqI, sj_lcI, en2, hx2, e62, hL.nz]
      refine ⟨by omega, pc_compareParts hL hC2 hw hr hE2 (by omega) (Nat.le_refl _) (by omega) (Nat.le_refl _) ⟨fun y => ?_, fun y => ?_⟩⟩
      · simp (disch := omega) only [ne_eq, and_self, not_false_eq_true, not_true_eq_false, true_and, and_true, true_or, or_true, false_or, or_false, forall_eq, forall_const, true_implies, false_implies, if_true, if_false, sj_lits, sj_addI, sj_mulI, sj_clI, sj_inI, sj_ltI, sj_leI, sj_eqI, sj_lcI, en2, hL.nz]
        refine ⟨by omega, fin (fun _ => ?_)⟩
        rcases sj_wc_cases u (sj_n σ r - lx (p - 1)) (sj_sf (sj_x σ r) (lx (p - 1))) (sj_n σ r - m) (sj_sf (sj_x σ r) m) with ⟨e, hh⟩ | ⟨e, hh⟩ | ⟨e, hh⟩
        · have := hh.1
          omega
        · exact hh
        · exact absurd y (sj_wcG.mpr hh)
      · have ed : nI p + -nI 1 = nI (p - 1) := by
          obtain ⟨p', rfl⟩ : ∃ p', p = p' + 1 := ⟨p - 1, by omega⟩
          exact sj_dec p'
        rw [ed]
        simp (disch := omega) only [ne_eq, and_self, not_false_eq_true, not_true_eq_false, true_and, and_true, true_or, or_true, false_or, or_false, forall_eq, forall_const, true_implies, false_implies, if_true, if_false, sj_lits, sj_addI, sj_mulI, sj_clI, sj_inI, sj_ltI, sj_leI, sj_eqI, sj_lcI, en2, hx2, hL.nz]
        refine ⟨by omega, by omega, hK2 _ _ ⟨p - 1, rfl, by omega, hf2.i (Or.inl rfl), fun j hj => ?_, fun j h1 h2 => ?_, fun j h1 h2 => ?_⟩ ?_⟩
        · simp (disch := omega) only [ne_eq, and_self, not_false_eq_true, not_true_eq_false, true_and, and_true, true_or, or_true, false_or, or_false, forall_eq, forall_const, true_implies, false_implies, if_true, if_false, sj_lits, sj_addI, sj_mulI, sj_clI, sj_inI, sj_ltI, sj_leI, sj_eqI, sj_lcI, sj_rd]
          rw [if_neg (by omega)]; exact hlo j (by omega)
        · simp (disch := omega) only [ne_eq, and_self, not_false_eq_true, not_true_eq_false, true_and, and_true, true_or, or_true, false_or, or_false, forall_eq, forall_const, true_implies, false_implies, if_true, if_false, sj_lits, sj_addI, sj_mulI, sj_clI, sj_inI, sj_ltI, sj_leI, sj_eqI, sj_lcI, sj_rd]
          by_cases c1 : j = p
          · rw [if_pos c1, c1]
          · rw [if_neg c1]; exact hhi j (by omega) h2
        · by_cases c1 : j = p - 1
          · subst c1
            exact sj_wcG.mp y
          · exact hgt j (by omega) h2
        · rw [sj_clI (by omega), sj_clI (by omega)]; omega

/-! ENDINGS of a row -/
def sj_sf (f : Nat → Int64) (i : Nat) : Nat → Int64 := fun t => f (i + t)
/-- how many numbers two endings have alike -/
def sj_ls (n : Nat) (f : Nat → Int64) (i j : Nat) : Nat := sj_lcp (n - i) (sj_sf f i) (n - j) (sj_sf f j)
theorem sj_ls_step {n : Nat} {f : Nat → Int64} {i j : Nat} (hi : i < n) (hj : j < n) (h : f i = f j) : sj_ls n f i j = sj_ls n f (i + 1) (j + 1) + 1 := by
  have k := sj_lcp_is (n - (i + 1)) (sj_sf f (i + 1)) (n - (j + 1)) (sj_sf f (j + 1))
  have e : sj_lcp (n - (i + 1)) (sj_sf f (i + 1)) (n - (j + 1)) (sj_sf f (j + 1)) = sj_ls n f (i + 1) (j + 1) := rfl
  rw [e] at k
  obtain ⟨k1, k2, k3, k4⟩ := k
  refine sj_lcp_eq ⟨by omega, by omega, fun t ht => ?_, fun a b => ?_⟩
  · cases t with
    | zero => exact h
    | succ t =>
      have := k3 t (by omega)
      unfold sj_sf at this ⊢
      rw [show i + (t + 1) = i + 1 + t by omega, show j + (t + 1) = j + 1 + t by omega]
      exact this
  · have := k4 (by omega) (by omega)
    unfold sj_sf at this ⊢
    rw [show i + (sj_ls n f (i + 1) (j + 1) + 1) = i + 1 + sj_ls n f (i + 1) (j + 1) by omega, show j + (sj_ls n f (i + 1) (j + 1) + 1) = j + 1 + sj_ls n f (i + 1) (j + 1) by omega]
    exact this
theorem sj_ls_ne {n : Nat} {f : Nat → Int64} {i j : Nat} (h : f i ≠ f j) : sj_ls n f i j = 0 := sj_lcp_eq ⟨Nat.zero_le _, Nat.zero_le _, fun t ht => absurd ht (Nat.not_lt_zero _), fun _ _ => h⟩
theorem sj_ls_end {n : Nat} {f : Nat → Int64} {i j : Nat} (h : n ≤ i ∨ n ≤ j) : sj_ls n f i j = 0 := by
  have k := sj_lcp_is (n - i) (sj_sf f i) (n - j) (sj_sf f j)
  have e : sj_lcp (n - i) (sj_sf f i) (n - j) (sj_sf f j) = sj_ls n f i j := rfl
  rw [e] at k
  have k1 := k.1
  have k2 := k.2.1
  omega
theorem sj_ls_le {n : Nat} {f : Nat → Int64} {i j : Nat} : sj_ls n f i j ≤ n - i ∧ sj_ls n f i j ≤ n - j := ⟨(sj_lcp_is (n - i) (sj_sf f i) (n - j) (sj_sf f j)).1, (sj_lcp_is (n - i) (sj_sf f i) (n - j) (sj_sf f j)).2.1⟩
/-- parts of two words -/
theorem sj_lcp_min {n m n' m' : Nat} {f g : Nat → Int64} (hn : n' ≤ n) (hm : m' ≤ m) : sj_lcp n' f m' g = min (sj_lcp n f m g) (min n' m') := by
  obtain ⟨k1, k2, k3, k4⟩ := sj_lcp_is n f m g
  refine sj_lcp_eq ⟨by omega, by omega, fun j hj => k3 j (by omega), fun a b => ?_⟩
  have e : min (sj_lcp n f m g) (min n' m') = sj_lcp n f m g := by omega
  rw [e] at a b ⊢
  exact k4 (by omega) (by omega)
/-- the component's endings hold the row r, by the order u -/
def sj_Eb (La : Nat → Nat) (σ : sj_S) (r : Nat) (u : Bool) (w : sj_W) : Prop := sj_A w 5 (La 4) = La (120 + r) ∧ sj_I w 6 (La 4) = nI (sj_n σ r) ∧ sj_I w 7 (La 4) = sj_b u
def sj_En (La : Nat → Nat) (σ : sj_S) (r : Nat) (u : Bool) (w : sj_W) : Prop := sj_Eb La σ r u w ∧ ∀ i j, i ≤ sj_n σ r → j ≤ sj_n σ r → sj_i w (La (10 + i)) j = nI (sj_ls (sj_n σ r) (sj_x σ r) i j)
/-- what take() writes -/
def sj_XE (La : Nat → Nat) : Nat → Prop := fun a => a = La 4 ∨ ∃ i, i < 33 ∧ a = La (10 + i)
theorem sj_XE.c {La : Nat → Nat} (hL : sj_La La) : ∀ i, i < 200 → sj_XE La (La i) → i = 4 ∨ i = 7 ∨ i = 8 ∨ (10 ≤ i ∧ i < 100) := by
  rintro i _ (e | ⟨j, hj, e⟩)
  · exact Or.inl (hL.1 _ _ e)
  · have := hL.1 _ _ e
    omega
/-- the component's shape in its endings -/
theorem sj_Cm.en {La : Nat → Nat} {σ : sj_S} {w : sj_W} (h : sj_Cm La σ w) :
    (sj_T w (La 4) = 1 ∧ sj_A w 0 (La 4) = La 5 ∧ sj_A w 1 (La 4) = La 6 ∧ sj_A w 2 (La 4) = La 7 ∧ sj_A w 3 (La 4) = La 8) ∧ (sj_T w (La 5) = 13 ∧ sj_N w (La 5) = 33) ∧ (∀ k, k < 33 → sj_r w (La 5) k = La (10 + k)) ∧ (∀ k, k < 33 → sj_T w (La (10 + k)) = 7) ∧ (∀ k, k < 33 → sj_N w (La (10 + k)) = 33) ∧
    (sj_T w (La 6) = 13 ∧ sj_N w (La 6) = 33) ∧ (∀ k, k < 33 → sj_r w (La 6) k = La (50 + k)) ∧ (∀ k, k < 33 → sj_T w (La (50 + k)) = 7) ∧ (∀ k, k < 33 → sj_N w (La (50 + k)) = 33) ∧ (sj_T w (La 7) = 7 ∧ sj_N w (La 7) = 32) ∧ (sj_T w (La 8) = 7 ∧ sj_N w (La 8) = 32) := by
  obtain ⟨⟨a1, a2, a3, a4, a5, a6, a7, a8, a9, a10, a11, a12⟩, _⟩ := h
  exact ⟨a8, ⟨a9.1, a9.2.1⟩, fun k hk => (a9.2.2 k hk).1, fun k hk => (a9.2.2 k hk).2.1, fun k hk => (a9.2.2 k hk).2.2, ⟨a10.1, a10.2.1⟩, fun k hk => (a10.2.2 k hk).1, fun k hk => (a10.2.2 k hk).2.1, fun k hk => (a10.2.2 k hk).2.2, a11, a12⟩
theorem sj_m1 (m : Nat) : nI (m + 1) - nI 1 = nI m := (sj_subI (by omega)).trans rfl
theorem sj_m1n (m : Nat) : nI m + -nI 1 = nI m - nI 1 := (Int32.sub_eq_add_neg (nI m) (nI 1)).symm
theorem sj_m1z {m : Nat} (h : m < 2147483648) : (nI m - nI 1 < nI 0) = (m = 0) := by
  cases m with
  | zero => exact propext ⟨fun _ => rfl, fun _ => by decide⟩
  | succ m =>
    rw [sj_m1, sj_ltI (by omega) (by omega)]
    exact propext ⟨fun z => by omega, fun z => by omega⟩
theorem pc_take {La : Nat → Nat} {σ : sj_S} {w : sj_W} (hL : sj_La La) (hC : sj_Cm La σ w) (hw : sj_wf σ) {r : Nat} {u : Bool} (hr : r < 16) {Q : sj_W → Prop} (h : ∀ w', sj_fr (sj_XE La) w w' → sj_Cm La σ w' → sj_En La σ r u w' → Q w') : vc_X0_take (La 4) (La (100 + r)) (sj_b u) w Q := by
  have a := hC.all
  have en := hC.en
  have c := (hw.1 r hr).1
  have hXE : ∀ i, i < 33 → sj_XE La (La (10 + i)) := fun i hi => Or.inr ⟨i, hi, rfl⟩
  unfold vc_X0_take
  simp (disch := omega) only [ne_eq, and_self, not_false_eq_true, not_true_eq_false, true_and, and_true, true_or, or_true, false_or, or_false, forall_eq, forall_const, true_implies, false_implies, if_true, if_false, sj_lits, sj_addI, sj_mulI, sj_clI, sj_inI, sj_ltI, sj_leI, sj_eqI, sj_lcI, a, en, sj_rd, hL.nz, hL.eq]
  refine ⟨by cases u <;> decide, ?_⟩
  generalize hN : sj_n σ r = n at c
  have f0 : sj_fr (sj_XE La) w (sj_sI (sj_sI (sj_sA w 5 (La 4) (La (120 + r))) 6 (La 4) (nI n)) 7 (La 4) (sj_b u)) := ((sj_fr.rf.A (Or.inl ⟨Or.inl rfl, rfl⟩)).I (Or.inl (Or.inl rfl))).I (Or.inl (Or.inl rfl))
  have g0 : sj_Eb La σ r u (sj_sI (sj_sI (sj_sA w 5 (La 4) (La (120 + r))) 6 (La 4) (nI n)) 7 (La 4) (sj_b u)) := by
    unfold sj_Eb
    simp (disch := omega) only [ne_eq, and_self, not_false_eq_true, not_true_eq_false, true_and, and_true, true_or, or_true, false_or, or_false, forall_eq, forall_const, true_implies, false_implies, if_true, if_false, sj_lits, sj_addI, sj_mulI, sj_clI, sj_inI, sj_ltI, sj_leI, sj_eqI, sj_lcI, sj_rd, hN]
    rfl
  refine sj_lp1_run (fun v w' => ∃ p, v = nI p ∧ p ≤ n + 1 ∧ sj_fr (sj_XE La) w w' ∧ sj_Eb La σ r u w' ∧ ∀ j, j < p → sj_i w' (La (10 + j)) n = nI 0 ∧ sj_i w' (La (10 + n)) j = nI 0) (fun v _ => 40 - v.toNatClampNeg) ?_ 64 _ _ ⟨0, rfl, by omega, f0, g0, fun j hj => by omega⟩ (by omega)
  rintro v w1 K ⟨p, rfl, hp, hf1, hb1, hz1⟩ hK
  have hC1 := hC.fr hf1 (sj_XE.c hL)
  have en1 := hC1.en
  have e6 := hb1.2.1
  rw [hN] at e6
  unfold vb_X0_take_23
  simp (disch := omega) only [ne_eq, and_self, not_false_eq_true, not_true_eq_false, true_and, and_true, true_or, or_true, false_or, or_false, forall_eq, forall_const, true_implies, false_implies, if_true, if_false, sj_lits, sj_addI, sj_mulI, sj_clI, sj_inI, sj_ltI, sj_leI, sj_eqI, sj_lcI, en1, e6, sj_rd, hL.nz, hL.eq]
  refine ⟨fun q => ?_, fun q => ?_⟩
  · -- the table
    have ep : p = n + 1 := by omega
    subst ep
    refine sj_lp1_run (fun v w' => ∃ m, v = nI m - nI 1 ∧ m ≤ n ∧ sj_fr (sj_XE La) w w' ∧ sj_Eb La σ r u w' ∧ ∀ i j, i ≤ n → j ≤ n → (m ≤ i ∨ j = n) → sj_i w' (La (10 + i)) j = nI (sj_ls n (sj_x σ r) i j)) (fun v _ => (v + 1).toNatClampNeg) ?_ 64 _ _ ⟨n, rfl, Nat.le_refl _, hf1, hb1, fun i j hi hj z => ?_⟩ ?_
    · rintro v w2 K2 ⟨m, rfl, hm, hf2, hb2, ht2⟩ hK2
      have hC2 := hC.fr hf2 (sj_XE.c hL)
      have en2 := hC2.en
      unfold vb_X0_take_68
      have e6 := hb2.2.1
      rw [hN] at e6
      rw [sj_lits 0, sj_m1z (by omega)]
      refine ⟨fun z => ?_, fun z => ⟨en2.1.1, ?_⟩⟩
      · subst z
        refine h w2 hf2 hC2 ⟨hb2, fun i j hi hj => ?_⟩
        rw [hN] at hi hj ⊢
        exact ht2 i j hi hj (Or.inl (Nat.zero_le _))
      · obtain ⟨m, rfl⟩ : ∃ m', m = m' + 1 := ⟨m - 1, by omega⟩
        rw [sj_m1, e6]
        refine sj_lp1_run (fun v w' => ∃ l, v = nI l - nI 1 ∧ l ≤ n ∧ sj_fr (sj_XE La) w w' ∧ sj_Eb La σ r u w' ∧ ∀ i j, i ≤ n → j ≤ n → (m + 1 ≤ i ∨ (i = m ∧ l ≤ j) ∨ j = n) → sj_i w' (La (10 + i)) j = nI (sj_ls n (sj_x σ r) i j)) (fun v _ => (v + 1).toNatClampNeg) ?_ 64 _ _ ⟨n, rfl, Nat.le_refl _, hf2, hb2, fun i j hi hj z => ht2 i j hi hj (by omega)⟩ ?_
        · rintro v w3 K3 ⟨l, rfl, hl, hf3, hb3, ht3⟩ hK3
          have hC3 := hC.fr hf3 (sj_XE.c hL)
          have en3 := hC3.en
          have b3 := hC3.all
          unfold vb_X0_take_80
          rw [sj_lits 0, sj_m1z (by omega)]
          refine ⟨fun z => ?_, fun z => ?_⟩
          · subst z
            refine hK2 _ _ ⟨m, sj_m1n m, by omega, hf3, hb3, fun i j hi hj z => ht3 i j hi hj (by omega)⟩ ?_
            rw [sj_lits 1, sj_m1n, Int32.sub_add_cancel, Int32.sub_add_cancel, sj_clI (by omega), sj_clI (by omega)]
            omega
          · obtain ⟨l, rfl⟩ : ∃ l', l = l' + 1 := ⟨l - 1, by omega⟩
            have e5 := hb3.1
            have fin : ∀ w4, w4 = sj_si w3 (La (10 + m)) l (nI (sj_ls n (sj_x σ r) m l)) → K3 (nI l - nI 1) w4 := by
              intro w4 e4
              refine hK3 _ _ ⟨l, rfl, by omega, by rw [e4]; exact hf3.i (Or.inl (hXE m (by omega))), by rw [e4]; exact hb3, fun i j hi hj z => ?_⟩ ?_
              · rw [e4]
                simp (disch := omega) only [ne_eq, and_self, not_false_eq_true, not_true_eq_false, true_and, and_true, true_or, or_true, false_or, or_false, forall_eq, forall_const, true_implies, false_implies, if_true, if_false, sj_lits, sj_addI, sj_mulI, sj_clI, sj_inI, sj_ltI, sj_leI, sj_eqI, sj_lcI, sj_rd, hL.eq]
                by_cases c1 : 10 + i = 10 + m ∧ j = l
                · rw [if_pos c1, show i = m by omega, c1.2]
                · rw [if_neg c1]
                  exact ht3 i j hi hj (by omega)
              · rw [sj_lits 1, Int32.sub_add_cancel, Int32.sub_add_cancel, sj_clI (by omega), sj_clI (by omega)]
                omega
            rw [sj_m1]
            unfold sj_jn1
            simp (disch := omega) only [ne_eq, and_self, not_false_eq_true, not_true_eq_false, true_and, and_true, true_or, or_true, false_or, or_false, forall_eq, forall_const, true_implies, false_implies, if_true, if_false, sj_lits, sj_addI, sj_mulI, sj_clI, sj_inI, sj_ltI, sj_leI, sj_eqI, sj_lcI, en3, e5, b3, hL.nz, hL.eq, sj_m1n]
            refine ⟨by omega, by omega, fun z2 => ⟨by omega, by omega, fin _ (by rw [sj_ls_ne z2])⟩, fun z2 => ⟨by omega, fun z3 => absurd z3 (by decide), fun _ => ⟨by omega, by omega, by omega, fin _ ?_⟩⟩⟩
            rw [ht3 (m + 1) (l + 1) (by omega) (by omega) (Or.inl (Nat.le_refl _)), sj_addI, sj_ls_step (by omega) (by omega) z2]
        · rw [sj_lits 1, Int32.sub_add_cancel, sj_clI (by omega)]; omega
    · by_cases c1 : j = n
      · subst c1
        rw [sj_ls_end (Or.inr (Nat.le_refl _))]
        exact (hz1 i (by omega)).1
      · have : i = n := by omega
        subst this
        rw [sj_ls_end (Or.inl (Nat.le_refl _))]
        exact (hz1 j (by omega)).2
    · rw [sj_lits 1, Int32.sub_add_cancel, sj_clI (by omega)]; omega
  · have hp33 : p < 33 := by omega
    simp (disch := omega) only [ne_eq, and_self, not_false_eq_true, not_true_eq_false, true_and, and_true, true_or, or_true, false_or, or_false, forall_eq, forall_const, true_implies, false_implies, if_true, if_false, sj_lits, sj_addI, sj_mulI, sj_clI, sj_inI, sj_ltI, sj_leI, sj_eqI, sj_lcI, en1, hL.nz]
    refine ⟨by omega, by omega, by omega, by omega, hK _ _ ⟨p + 1, rfl, by omega, (hf1.i (Or.inl (hXE p (by omega)))).i (Or.inl (hXE n (by omega))), hb1, fun j hj => ?_⟩ ?_⟩
    · simp (disch := omega) only [ne_eq, and_self, not_false_eq_true, not_true_eq_false, true_and, and_true, true_or, or_true, false_or, or_false, forall_eq, forall_const, true_implies, false_implies, if_true, if_false, sj_lits, sj_addI, sj_mulI, sj_clI, sj_inI, sj_ltI, sj_leI, sj_eqI, sj_lcI, sj_rd, hL.eq]
      by_cases cj : j = p
      · subst cj
        constructor
        · by_cases c1 : 10 + j = 10 + n ∧ n = j
          · rw [if_pos c1]
          · rw [if_neg c1]
            exact if_pos rfl
        · exact if_pos rfl
      · have hh := hz1 j (by omega)
        constructor
        · by_cases c1 : 10 + j = 10 + n ∧ n = p
          · rw [if_pos c1]
          · rw [if_neg c1, if_neg (by omega)]
            exact hh.1
        · rw [if_neg (by omega)]
          by_cases c1 : 10 + n = 10 + p ∧ j = n
          · rw [if_pos c1]
          · rw [if_neg c1]
            exact hh.2
    · rw [sj_clI (by omega), sj_clI (by omega)]; omega

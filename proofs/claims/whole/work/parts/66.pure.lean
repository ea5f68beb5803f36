/-! distinct, longest, factors -/
def sj_mx (f : Nat → Nat) : Nat → Nat
  | 0 => 0
  | n + 1 => if sj_mx f n < f n then f n else sj_mx f n
theorem sj_mx_le {f : Nat → Nat} {b : Nat} : ∀ n, (∀ i, i < n → f i ≤ b) → sj_mx f n ≤ b
  | 0, _ => Nat.zero_le _
  | n + 1, h => by
    have := sj_mx_le n (fun i hi => h i (by omega))
    have := h n (by omega)
    unfold sj_mx
    split <;> omega
/-- how many numbers an ending has alike with a longer one, at most -/
def sj_ma (n : Nat) (f : Nat → Int64) (i : Nat) : Nat := sj_mx (fun a => sj_ls n f a i) i
theorem sj_ma_le {n : Nat} {f : Nat → Int64} {i : Nat} : sj_ma n f i ≤ n - i := sj_mx_le i fun a _ => sj_ls_le.2
theorem pc_mostAlikeAhead {La : Nat → Nat} {σ : sj_S} {w : sj_W} (hL : sj_La La) (hC : sj_Cm La σ w) (hw : sj_wf σ) {r : Nat} {u : Bool} (hr : r < 16) (hE : sj_En La σ r u w) {i : Nat} (hi : i < sj_n σ r) {Q : Int32 → sj_W → Prop} (h : Q (nI (sj_ma (sj_n σ r) (sj_x σ r) i)) w) : vc_X0_mostAlikeAhead (La 4) (nI i) w Q := by
  have en := hC.en
  have c := (hw.1 r hr).1
  refine sj_lp2_run (fun v2 v3 w' => w' = w ∧ ∃ a, v3 = nI a ∧ a ≤ i ∧ v2 = nI (sj_mx (fun a => sj_ls (sj_n σ r) (sj_x σ r) a i) a)) (fun _ v _ => 40 - v.toNatClampNeg) ?_ 64 _ _ _ ⟨rfl, 0, rfl, Nat.zero_le _, rfl⟩ (by omega)
  rintro v2 v3 w' K ⟨rfl, a, rfl, ha, rfl⟩ hK
  unfold vb_X0_mostAlikeAhead_4
  simp (disch := omega) only [ne_eq, and_self, not_false_eq_true, not_true_eq_false, true_and, and_true, true_or, or_true, false_or, or_false, forall_eq, forall_const, true_implies, false_implies, if_true, if_false, sj_lits, sj_addI, sj_mulI, sj_clI, sj_inI, sj_ltI, sj_leI, sj_eqI, sj_lcI, en, hL.nz]
  refine ⟨fun q => ?_, fun q => ?_⟩
  · have e : a = i := by omega
    subst e
    exact h
  · have ht := hE.2 a i (by omega) (by omega)
    have h1 := sj_mx_le (f := fun a => sj_ls (sj_n σ r) (sj_x σ r) a i) (b := sj_n σ r - i) a (fun _ _ => sj_ls_le.2)
    have h2 := (sj_ls_le (n := sj_n σ r) (f := sj_x σ r) (i := a) (j := i)).2
    simp (disch := omega) only [ne_eq, and_self, not_false_eq_true, not_true_eq_false, true_and, and_true, true_or, or_true, false_or, or_false, forall_eq, forall_const, true_implies, false_implies, if_true, if_false, sj_lits, sj_addI, sj_mulI, sj_clI, sj_inI, sj_ltI, sj_leI, sj_eqI, sj_lcI, en, ht, hL.nz]
    refine ⟨by omega, by omega, hK _ _ _ ⟨rfl, a + 1, rfl, by omega, ?_⟩ ?_⟩
    · show _ = nI (if _ then _ else _)
      split <;> rfl
    · rw [sj_clI (by omega), sj_clI (by omega)]; omega
def sj_dis (n : Nat) (f : Nat → Int64) : Nat := sj_sum (fun i => n - i - sj_ma n f i) n
theorem sj_sum_le {f : Nat → Nat} {b : Nat} : ∀ n, (∀ i, i < n → f i ≤ b) → sj_sum f n ≤ b * n
  | 0, _ => Nat.zero_le _
  | n + 1, h => by
    have := sj_sum_le n (fun i hi => h i (by omega))
    have := h n (by omega)
    show sj_sum f n + f n ≤ _
    rw [Nat.mul_succ]
    omega
theorem pc_countWords {La : Nat → Nat} {σ : sj_S} {w : sj_W} (hL : sj_La La) (hC : sj_Cm La σ w) (hw : sj_wf σ) {r : Nat} {u : Bool} (hr : r < 16) (hE : sj_En La σ r u w) {Q : Int32 → sj_W → Prop} (h : Q (nI (sj_dis (sj_n σ r) (sj_x σ r))) w) : vc_X0_countWords (La 4) w Q := by
  have en := hC.en
  have c := (hw.1 r hr).1
  have e6 := hE.1.2.1
  refine sj_lp2_run (fun v1 v2 w' => w' = w ∧ ∃ a, v2 = nI a ∧ a ≤ sj_n σ r ∧ v1 = nI (sj_sum (fun i => sj_n σ r - i - sj_ma (sj_n σ r) (sj_x σ r) i) a)) (fun _ v _ => 40 - v.toNatClampNeg) ?_ 64 _ _ _ ⟨rfl, 0, rfl, Nat.zero_le _, rfl⟩ (by omega)
  rintro v1 v2 w' K ⟨rfl, a, rfl, ha, rfl⟩ hK
  unfold vb_X0_countWords_4
  simp (disch := omega) only [ne_eq, and_self, not_false_eq_true, not_true_eq_false, true_and, and_true, true_or, or_true, false_or, or_false, forall_eq, forall_const, true_implies, false_implies, if_true, if_false, sj_lits, sj_addI, sj_mulI, sj_clI, sj_inI, sj_ltI, sj_leI, sj_eqI, sj_lcI, en, e6, hL.nz]
  refine ⟨fun q => ?_, fun q => ?_⟩
  · have e : a = sj_n σ r := by omega
    subst e
    exact h
  · refine pc_mostAlikeAhead hL hC hw hr hE (by omega) ?_
    have h1 := sj_ma_le (n := sj_n σ r) (f := sj_x σ r) (i := a)
    rw [sj_subI (by omega), sj_subI h1, sj_addI]
    refine hK _ _ _ ⟨rfl, a + 1, rfl, by omega, rfl⟩ ?_
    rw [sj_clI (by omega), sj_clI (by omega)]; omega
def sj_lon (n : Nat) (f : Nat → Int64) : Nat := sj_mx (sj_ma n f) n
theorem pc_longestTwice {La : Nat → Nat} {σ : sj_S} {w : sj_W} (hL : sj_La La) (hC : sj_Cm La σ w) (hw : sj_wf σ) {r : Nat} {u : Bool} (hr : r < 16) (hE : sj_En La σ r u w) {Q : Int32 → sj_W → Prop} (h : Q (nI (sj_lon (sj_n σ r) (sj_x σ r))) w) : vc_X0_longestTwice (La 4) w Q := by
  have en := hC.en
  have c := (hw.1 r hr).1
  have e6 := hE.1.2.1
  refine sj_lp2_run (fun v1 v2 w' => w' = w ∧ ∃ a, v2 = nI a ∧ a ≤ sj_n σ r ∧ v1 = nI (sj_mx (sj_ma (sj_n σ r) (sj_x σ r)) a)) (fun _ v _ => 40 - v.toNatClampNeg) ?_ 64 _ _ _ ⟨rfl, 0, rfl, Nat.zero_le _, rfl⟩ (by omega)
  rintro v1 v2 w' K ⟨rfl, a, rfl, ha, rfl⟩ hK
  unfold vb_X0_longestTwice_4
  simp (disch := omega) only [ne_eq, and_self, not_false_eq_true, not_true_eq_false, true_and, and_true, true_or, or_true, false_or, or_false, forall_eq, forall_const, true_implies, false_implies, if_true, if_false, sj_lits, sj_addI, sj_mulI, sj_clI, sj_inI, sj_ltI, sj_leI, sj_eqI, sj_lcI, en, e6, hL.nz]
  refine ⟨fun q => ?_, fun q => ?_⟩
  · have e : a = sj_n σ r := by omega
    subst e
    exact h
  · refine pc_mostAlikeAhead hL hC hw hr hE (by omega) ?_
    have h1 := sj_ma_le (n := sj_n σ r) (f := sj_x σ r) (i := a)
    have h2 := sj_mx_le (f := sj_ma (sj_n σ r) (sj_x σ r)) (b := 32) a (fun i _ => by have := sj_ma_le (n := sj_n σ r) (f := sj_x σ r) (i := i); omega)
    refine hK _ _ _ ⟨rfl, a + 1, rfl, by omega, ?_⟩ ?_
    · simp (disch := omega) only [ne_eq, and_self, not_false_eq_true, not_true_eq_false, true_and, and_true, true_or, or_true, false_or, or_false, forall_eq, forall_const, true_implies, false_implies, if_true, if_false, sj_lits, sj_addI, sj_mulI, sj_clI, sj_inI, sj_ltI, sj_leI, sj_eqI, sj_lcI, ]
      show _ = nI (if _ then _ else _)
      split <;> rfl
    · rw [sj_clI (by omega), sj_clI (by omega)]; omega
def ab_distinct (σ : sj_S) (a1 a2 : Int32) : sj_O := match sj_kd a1 with
  | none => (1, 0, σ)
  | some k => match sj_ix 4 a2 with
    | none => (2, 0, σ)
    | some r => (0, (nI (sj_dis (sj_n σ (k * 4 + r)) (sj_x σ (k * 4 + r)))).toInt64, σ)
theorem sj_XE.x {La : Nat → Nat} {w w' : sj_W} (h : sj_fr (sj_XE La) w w') : sj_fr (so_XC La) w w' := h.mono fun a q => q.elim (fun e => ⟨4, Or.inl (by decide), e⟩) (fun ⟨i, hi, e⟩ => ⟨10 + i, Or.inl (by omega), e⟩)
theorem pc_distinct {La : Nat → Nat} {σ : sj_S} {w : sj_W} (hL : sj_La La) (hC : sj_Cm La σ w) (hw : sj_wf σ) {a1 a2 : Int32} {Q : Int32 → sj_W → Prop} {QX : String → sj_W → Prop} (h : so_pX La w (ab_distinct σ a1 a2) sj_en Int32.toInt64 Q QX) : vc_X6_distinct (La 0) a1 a2 w Q QX := by
  have a := hC.all
  have en := hC.en
  unfold ab_distinct at h
  unfold vc_X6_distinct
  simp (disch := omega) only [ne_eq, and_self, not_false_eq_true, not_true_eq_false, true_and, and_true, true_or, or_true, false_or, or_false, forall_eq, forall_const, true_implies, false_implies, if_true, if_false, sj_lits, sj_addI, sj_mulI, sj_clI, sj_inI, sj_ltI, sj_leI, sj_eqI, sj_lcI, a, hL.nz]
  refine pc_kindOf (fun k hk hk4 => ⟨a.1.1, pc_rowOf hL hC hk4 (fun r hr hr4 => ?_) (fun hr => ?_)⟩) (fun hk => ?_)
  · simp only [hk, hr] at h
    refine ⟨en.1.1, pc_take (u := false) hL hC hw (by omega) (fun w1 hf hC1 hE => ?_)⟩
    have b := hC1.all
    have en1 := hC1.en
    simp (disch := omega) only [ne_eq, and_self, not_false_eq_true, not_true_eq_false, true_and, and_true, true_or, or_true, false_or, or_false, forall_eq, forall_const, true_implies, false_implies, if_true, if_false, sj_lits, sj_addI, sj_mulI, sj_clI, sj_inI, sj_ltI, sj_leI, sj_eqI, sj_lcI, b, en1, hL.nz]
    exact pc_countWords hL hC1 hw (by omega) hE (so_k h (sj_XE.x hf) hC1 rfl)
  · simp only [hk, hr] at h
    exact so_e h (by decide) sj_fr.rf hC
  · simp only [hk] at h
    exact so_e h (by decide) sj_fr.rf hC
def ab_longest (σ : sj_S) (a1 a2 : Int32) : sj_O := match sj_kd a1 with
  | none => (1, 0, σ)
  | some k => match sj_ix 4 a2 with
    | none => (2, 0, σ)
    | some r => (0, (nI (sj_lon (sj_n σ (k * 4 + r)) (sj_x σ (k * 4 + r)))).toInt64, σ)
theorem pc_longest {La : Nat → Nat} {σ : sj_S} {w : sj_W} (hL : sj_La La) (hC : sj_Cm La σ w) (hw : sj_wf σ) {a1 a2 : Int32} {Q : Int32 → sj_W → Prop} {QX : String → sj_W → Prop} (h : so_pX La w (ab_longest σ a1 a2) sj_en Int32.toInt64 Q QX) : vc_X6_longest (La 0) a1 a2 w Q QX := by
  have a := hC.all
  have en := hC.en
  unfold ab_longest at h
  unfold vc_X6_longest
  simp (disch := omega) only [ne_eq, and_self, not_false_eq_true, not_true_eq_false, true_and, and_true, true_or, or_true, false_or, or_false, forall_eq, forall_const, true_implies, false_implies, if_true, if_false, sj_lits, sj_addI, sj_mulI, sj_clI, sj_inI, sj_ltI, sj_leI, sj_eqI, sj_lcI, a, hL.nz]
  refine pc_kindOf (fun k hk hk4 => ⟨a.1.1, pc_rowOf hL hC hk4 (fun r hr hr4 => ?_) (fun hr => ?_)⟩) (fun hk => ?_)
  · simp only [hk, hr] at h
    refine ⟨en.1.1, pc_take (u := false) hL hC hw (by omega) (fun w1 hf hC1 hE => ?_)⟩
    have b := hC1.all
    have en1 := hC1.en
    simp (disch := omega) only [ne_eq, and_self, not_false_eq_true, not_true_eq_false, true_and, and_true, true_or, or_true, false_or, or_false, forall_eq, forall_const, true_implies, false_implies, if_true, if_false, sj_lits, sj_addI, sj_mulI, sj_clI, sj_inI, sj_ltI, sj_leI, sj_eqI, sj_lcI, b, en1, hL.nz]
    exact pc_longestTwice hL hC1 hw (by omega) hE (so_k h (sj_XE.x hf) hC1 rfl)
  · simp only [hk, hr] at h
    exact so_e h (by decide) sj_fr.rf hC
  · simp only [hk] at h
    exact so_e h (by decide) sj_fr.rf hC
/-! factors -/
def sj_eltB (u : Bool) (n : Nat) (f : Nat → Int64) (i j : Nat) : Bool := decide (¬ nI 0 ≤ sj_wc u (n - i) (sj_sf f i) (n - j) (sj_sf f j))
theorem sj_eltB_iff {u : Bool} {n : Nat} {f : Nat → Int64} {i j : Nat} : sj_eltB u n f i j = true ↔ sj_elt u n f i j := ⟨fun h => sj_wcL.mp (of_decide_eq_true h), fun h => decide_eq_true (sj_wcL.mpr h)⟩
/-- a factor begins here: the ending is less than each longer one -/
def sj_pm (u : Bool) (n : Nat) (f : Nat → Int64) (i : Nat) : Bool := i == 0 || sj_eltB u n f i (sj_best (sj_eltB u n f) (i - 1))
def sj_fb (u : Bool) (n : Nat) (f : Nat → Int64) (j : Nat) : Nat := sj_find (fun x => sj_pm u n f x && decide (sj_cnt (sj_pm u n f) x = j)) n 0
/-- the factors are split -/
def sj_Sp (La : Nat → Nat) (σ : sj_S) (r : Nat) (u : Bool) (w : sj_W) : Prop := sj_I w 4 (La 4) = nI (sj_cnt (sj_pm u (sj_n σ r) (sj_x σ r)) (sj_n σ r)) ∧ ∀ x, x < sj_n σ r → sj_pm u (sj_n σ r) (sj_x σ r) x = true → sj_i w (La 8) (sj_cnt (sj_pm u (sj_n σ r) (sj_x σ r)) x) = nI x
def sj_X8 (La : Nat → Nat) : Nat → Prop := fun a => a = La 4 ∨ a = La 8
theorem sj_En.w4 {La : Nat → Nat} {σ : sj_S} {r : Nat} {u : Bool} {w : sj_W} {v : Int32} (h : sj_En La σ r u w) : sj_En La σ r u (sj_sI w 4 (La 4) v) :=
  ⟨⟨h.1.1, (show (if (6 : Nat) = 4 ∧ La 4 = La 4 then v else sj_I w 6 (La 4)) = _ from (if_neg (fun z => absurd z.1 (by decide))).trans h.1.2.1), (show (if (7 : Nat) = 4 ∧ La 4 = La 4 then v else sj_I w 7 (La 4)) = _ from (if_neg (fun z => absurd z.1 (by decide))).trans h.1.2.2)⟩, h.2⟩
theorem sj_En.w8 {La : Nat → Nat} {σ : sj_S} {r j : Nat} {u : Bool} {w : sj_W} {v : Int32} (hL : sj_La La) (h : sj_En La σ r u w) : sj_En La σ r u (sj_si w (La 8) j v) := ⟨h.1, fun a b ha hb => (show (if La (10 + a) = La 8 ∧ b = j then v else sj_i w (La (10 + a)) b) = _ from (if_neg (fun z => by have := hL.1 _ _ z.1; omega)).trans (h.2 a b ha hb))⟩
theorem sj_cnt_s (p : Nat → Bool) (n : Nat) : sj_cnt p (n + 1) = sj_cnt p n + (if p n then 1 else 0) := rfl
theorem sj_cnt_lt {p : Nat → Bool} {n : Nat} (hp : p n = true) : ∀ m, n < m → sj_cnt p n < sj_cnt p m
  | 0, h => by omega
  | m + 1, h => by
    rw [sj_cnt_s]
    by_cases c : n = m
    · subst c
      rw [if_pos hp]
      omega
    · have := sj_cnt_lt hp m (by omega)
      omega
theorem pc_split {La : Nat → Nat} {σ : sj_S} {w : sj_W} (hL : sj_La La) (hC : sj_Cm La σ w) (hw : sj_wf σ) {r : Nat} {u : Bool} (hr : r < 16) (hE : sj_En La σ r u w) {Q : sj_W → Prop} (h : ∀ w', sj_fr (sj_X8 La) w w' → sj_Cm La σ w' → sj_En La σ r u w' → sj_Sp La σ r u w' → Q w') : vc_X0_split (La 4) w Q := by
  have c := (hw.1 r hr).1
  have ok : ∀ w', sj_fr (sj_X8 La) w w' → sj_Cm La σ w' := fun w' hf => hC.fr hf (fun i _ e => e.elim (fun e => Or.inl (hL.1 _ _ e)) (fun e => Or.inr (Or.inr (Or.inl (hL.1 _ _ e)))))
  refine ⟨hC.en.1.1, fun w1 e1 => ?_⟩
  have f1 : sj_fr (sj_X8 La) w w1 := by rw [e1]; exact sj_fr.rf.I (Or.inl (Or.inl rfl))
  generalize hp : sj_pm u (sj_n σ r) (sj_x σ r) = p
  refine sj_lp2_run (fun v1 v2 w' => ∃ m, v2 = nI m ∧ m ≤ sj_n σ r ∧ v1 = nI (sj_best (sj_eltB u (sj_n σ r) (sj_x σ r)) (m - 1)) ∧ sj_fr (sj_X8 La) w w' ∧ sj_En La σ r u w' ∧ sj_I w' 4 (La 4) = nI (sj_cnt p m) ∧ ∀ x, x < m → p x = true → sj_i w' (La 8) (sj_cnt p x) = nI x) (fun _ v _ => 40 - v.toNatClampNeg) ?_ 64 _ _ _ ⟨0, rfl, Nat.zero_le _, rfl, f1, by rw [e1]; exact hE.w4, ?_, fun x hx => by omega⟩ (by omega)
  · rintro v1 v2 w2 K ⟨m, rfl, hm, rfl, hf2, hE2, h4, hx⟩ hK
    have hC2 := ok w2 hf2
    have en := hC2.en
    have e6 := hE2.1.2.1
    have hcm := sj_cnt_le p m
    have hb := sj_best_le (sj_eltB u (sj_n σ r) (sj_x σ r)) (m - 1)
    unfold vb_X0_split_9
    simp (disch := omega) only [ne_eq, and_self, not_false_eq_true, not_true_eq_false, true_and, and_true, true_or, or_true, false_or, or_false, forall_eq, forall_const, true_implies, false_implies, if_true, if_false, sj_lits, sj_addI, sj_mulI, sj_clI, sj_inI, sj_ltI, sj_leI, sj_eqI, sj_lcI, en, e6, h4, hL.nz]
    refine ⟨fun q => ?_, fun q => ?_⟩
    · have e : m = sj_n σ r := by omega
      subst e
      exact h w2 hf2 hC2 hE2 ⟨by rw [hp]; exact h4, by rw [hp]; exact hx⟩
    · have put : p m = true → sj_best (sj_eltB u (sj_n σ r) (sj_x σ r)) m = m → K (nI m) (nI (m + 1)) (sj_sI (sj_si w2 (La 8) (sj_cnt p m) (nI m)) 4 (La 4) (nI (sj_cnt p m + 1))) := by
        intro hpm hbm
        refine hK _ _ _ ⟨m + 1, rfl, by omega, by rw [Nat.add_sub_cancel, hbm], (hf2.i (Or.inl (Or.inr rfl))).I (Or.inl (Or.inl rfl)), (hE2.w8 hL).w4, ?_, fun x hx1 hx2 => ?_⟩ ?_
        · have e2 : sj_cnt p (m + 1) = sj_cnt p m + (if p m then 1 else 0) := rfl
          rw [e2, hpm]
          simp (disch := omega) only [ne_eq, and_self, not_false_eq_true, not_true_eq_false, true_and, and_true, true_or, or_true, false_or, or_false, forall_eq, forall_const, true_implies, false_implies, if_true, if_false, sj_lits, sj_addI, sj_mulI, sj_clI, sj_inI, sj_ltI, sj_leI, sj_eqI, sj_lcI, sj_rd]
        · simp (disch := omega) only [ne_eq, and_self, not_false_eq_true, not_true_eq_false, true_and, and_true, true_or, or_true, false_or, or_false, forall_eq, forall_const, true_implies, false_implies, if_true, if_false, sj_lits, sj_addI, sj_mulI, sj_clI, sj_inI, sj_ltI, sj_leI, sj_eqI, sj_lcI, sj_rd]
          by_cases cx : x = m
          · rw [cx, if_pos rfl]
          · have := sj_cnt_lt hx2 m (by omega)
            rw [if_neg (by omega)]
            exact hx x (by omega) hx2
        · rw [sj_clI (by omega), sj_clI (by omega)]; omega
      refine ⟨fun z => ?_, fun z => ?_⟩
      · subst z
        have hp0 : p 0 = true := by rw [← hp]; rfl
        simp (disch := omega) only [ne_eq, and_self, not_false_eq_true, not_true_eq_false, true_and, and_true, true_or, or_true, false_or, or_false, forall_eq, forall_const, true_implies, false_implies, if_true, if_false, sj_lits, sj_addI, sj_mulI, sj_clI, sj_inI, sj_ltI, sj_leI, sj_eqI, sj_lcI, en, sj_rd, h4, hL.nz]
        exact ⟨by omega, put hp0 rfl⟩
      · obtain ⟨m, rfl⟩ : ∃ m', m = m' + 1 := ⟨m - 1, by omega⟩
        rw [Nat.add_sub_cancel] at hb ⊢
        refine pc_compareParts hL hC2 hw hr hE2 (by omega) (Nat.le_refl _) (by omega) (Nat.le_refl _) ⟨fun y => ?_, fun y => ?_⟩
        · have eb : sj_eltB u (sj_n σ r) (sj_x σ r) (m + 1) (sj_best (sj_eltB u (sj_n σ r) (sj_x σ r)) m) = false := decide_eq_false fun t => t y
          have hpm : p (m + 1) = false := by
            rw [← hp]
            unfold sj_pm
            rw [Nat.add_sub_cancel, eb]
            rfl
          refine hK _ _ _ ⟨m + 2, rfl, by omega, ?_, hf2, hE2, ?_, fun x hx1 hx2 => ?_⟩ ?_
          · show nI _ = nI (sj_best _ (m + 1))
            rw [sj_best_s, eb, if_neg (by decide)]
          · have e2 : sj_cnt p (m + 2) = sj_cnt p (m + 1) + (if p (m + 1) then 1 else 0) := rfl
            rw [e2, hpm]
            exact h4
          · by_cases cx : x = m + 1
            · rw [cx, hpm] at hx2
              cases hx2
            · exact hx x (by omega) hx2
          · rw [sj_clI (by omega), sj_clI (by omega)]; omega
        · have eb : sj_eltB u (sj_n σ r) (sj_x σ r) (m + 1) (sj_best (sj_eltB u (sj_n σ r) (sj_x σ r)) m) = true := decide_eq_true y
          have hpm : p (m + 1) = true := by
            rw [← hp]
            unfold sj_pm
            rw [Nat.add_sub_cancel, eb, Bool.or_true]
          simp (disch := omega) only [ne_eq, and_self, not_false_eq_true, not_true_eq_false, true_and, and_true, true_or, or_true, false_or, or_false, forall_eq, forall_const, true_implies, false_implies, if_true, if_false, sj_lits, sj_addI, sj_mulI, sj_clI, sj_inI, sj_ltI, sj_leI, sj_eqI, sj_lcI, en, sj_rd, h4, hL.nz]
          exact ⟨by omega, put hpm (by rw [sj_best_s, eb, if_pos rfl])⟩
  · rw [e1]
    simp (disch := omega) only [ne_eq, and_self, not_false_eq_true, not_true_eq_false, true_and, and_true, true_or, or_true, false_or, or_false, forall_eq, forall_const, true_implies, false_implies, if_true, if_false, sj_lits, sj_addI, sj_mulI, sj_clI, sj_inI, sj_ltI, sj_leI, sj_eqI, sj_lcI, sj_rd]
    rfl

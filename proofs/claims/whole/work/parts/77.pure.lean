/-! the reference but its list: sort -/
def sj_Mq (La : Nat → Nat) (σ : sj_S) (w : sj_W) : Prop :=
    (sj_T w (La 200) = 6 ∧ sj_A w 40 (La 200) = La 201 ∧ sj_A w 41 (La 200) = La 202 ∧ sj_A w 42 (La 200) = La 203 ∧ sj_A w 43 (La 200) = La 204 ∧ sj_A w 44 (La 200) = La 205 ∧ sj_A w 45 (La 200) = La 206) ∧
    (sj_T w (La 201) = 8 ∧ sj_N w (La 201) = 512) ∧ (sj_T w (La 202) = 7 ∧ sj_N w (La 202) = 16) ∧ (sj_T w (La 203) = 7 ∧ sj_N w (La 203) = 12) ∧ (sj_T w (La 204) = 7 ∧ sj_N w (La 204) = 12) ∧ (sj_T w (La 205) = 7 ∧ sj_N w (La 205) = 12) ∧ (sj_T w (La 206) = 7 ∧ sj_N w (La 206) = 12) ∧
    (∀ k, k < 16 → sj_i w (La 202) k = nI (sj_n σ k)) ∧ (∀ k j, k < 16 → j < sj_n σ k → sj_l w (La 201) (32 * k + j) = sj_x σ k j) ∧
    (∀ k, k < 12 → sj_i w (La 203) k = nI (sj_pr σ k)) ∧ (∀ k, k < 12 → sj_i w (La 204) k = nI (sj_pf σ k)) ∧ (∀ k, k < 12 → sj_i w (La 205) k = nI (sj_pt σ k))
theorem sj_Mq.all {La : Nat → Nat} {σ : sj_S} {w : sj_W} (h : sj_Mq La σ w) :
    (sj_T w (La 200) = 6 ∧ sj_A w 40 (La 200) = La 201 ∧ sj_A w 41 (La 200) = La 202 ∧ sj_A w 42 (La 200) = La 203 ∧ sj_A w 43 (La 200) = La 204 ∧ sj_A w 44 (La 200) = La 205 ∧ sj_A w 45 (La 200) = La 206) ∧
    (sj_T w (La 201) = 8 ∧ sj_N w (La 201) = 512) ∧ (sj_T w (La 202) = 7 ∧ sj_N w (La 202) = 16) ∧ (sj_T w (La 203) = 7 ∧ sj_N w (La 203) = 12) ∧ (sj_T w (La 204) = 7 ∧ sj_N w (La 204) = 12) ∧ (sj_T w (La 205) = 7 ∧ sj_N w (La 205) = 12) ∧ (sj_T w (La 206) = 7 ∧ sj_N w (La 206) = 12) ∧
    (∀ k, k < 16 → sj_i w (La 202) k = nI (sj_n σ k)) ∧ (∀ k j, k < 16 → j < sj_n σ k → sj_l w (La 201) (32 * k + j) = sj_x σ k j) ∧
    (∀ k, k < 12 → sj_i w (La 203) k = nI (sj_pr σ k)) ∧ (∀ k, k < 12 → sj_i w (La 204) k = nI (sj_pf σ k)) ∧ (∀ k, k < 12 → sj_i w (La 205) k = nI (sj_pt σ k)) := h
theorem sj_Mo.mq {La : Nat → Nat} {σ : sj_S} {w : sj_W} (h : sj_Mo La σ w) : sj_Mq La σ w := by
  obtain ⟨a, b, c, d, e, f, g, h1, i1, j1, k1⟩ := h
  exact ⟨a, b, c, d, e, f, g, fun k hk => (h1 k hk).1, fun k j hk hj => (h1 k hk).2 j hj, fun k hk => (i1 k hk).1, fun k hk => (i1 k hk).2.1, fun k hk => (i1 k hk).2.2⟩
def sj_X6 (La : Nat → Nat) : Nat → Prop := fun a => a = La 200 ∨ a = La 206
theorem sj_X6.x {La : Nat → Nat} {w w' : sj_W} (h : sj_fr (sj_X6 La) w w') : sj_fr (so_XM La) w w' := h.mono fun a q => q.elim (fun e => ⟨200, by decide, e⟩) (fun e => ⟨206, by decide, e⟩)
theorem sj_Mq.fr {La : Nat → Nat} {σ : sj_S} {w w' : sj_W} (hL : sj_La La) (h : sj_Mq La σ w) (g : sj_fr (sj_X6 La) w w') : sj_Mq La σ w' := by
  obtain ⟨⟨a1, a2, a3, a4, a5, a6, a7⟩, ⟨b1, b2⟩, ⟨c1, c2⟩, ⟨d1, d2⟩, ⟨e1, e2⟩, ⟨f1, f2⟩, ⟨g1, g2⟩, h1, h2, h3, h4, h5⟩ := h
  have nx : ∀ i, i ≠ 200 → i ≠ 206 → ¬ sj_X6 La (La i) := fun i y z q => q.elim (fun e => y (hL.1 _ _ e)) (fun e => z (hL.1 _ _ e))
  have t0 := g (La 200) (by omega)
  have t1 := g (La 201) (by omega); have q1 := t1.2.2.2.2 (nx 201 (by omega) (by omega))
  have t2 := g (La 202) (by omega); have q2 := t2.2.2.2.2 (nx 202 (by omega) (by omega))
  have t3 := g (La 203) (by omega); have q3 := t3.2.2.2.2 (nx 203 (by omega) (by omega))
  have t4 := g (La 204) (by omega); have q4 := t4.2.2.2.2 (nx 204 (by omega) (by omega))
  have t5 := g (La 205) (by omega); have q5 := t5.2.2.2.2 (nx 205 (by omega) (by omega))
  have t6 := g (La 206) (by omega)
  exact ⟨⟨t0.1.trans a1, (t0.2.2.1 _ (by decide)).trans a2, (t0.2.2.1 _ (by decide)).trans a3, (t0.2.2.1 _ (by decide)).trans a4, (t0.2.2.1 _ (by decide)).trans a5, (t0.2.2.1 _ (by decide)).trans a6, (t0.2.2.1 _ (by decide)).trans a7⟩, ⟨t1.1.trans b1, t1.2.1.trans b2⟩, ⟨t2.1.trans c1, t2.2.1.trans c2⟩, ⟨t3.1.trans d1, t3.2.1.trans d2⟩, ⟨t4.1.trans e1, t4.2.1.trans e2⟩, ⟨t5.1.trans f1, t5.2.1.trans f2⟩, ⟨t6.1.trans g1, t6.2.1.trans g2⟩,
    fun k hk => (q2.2.2.1 k).trans (h1 k hk), fun k j hk hj => (q1.2.2.2.1 _).trans (h2 k j hk hj), fun k hk => (q3.2.2.1 k).trans (h3 k hk), fun k hk => (q4.2.2.1 k).trans (h4 k hk), fun k hk => (q5.2.2.1 k).trans (h5 k hk)⟩
theorem sj_Mq.mo {La : Nat → Nat} {σ : sj_S} {w : sj_W} {n : Nat} {l : Nat → Nat} (h : sj_Mq La σ w) (h46 : sj_I w 46 (La 200) = nI n) (hl : ∀ j, j < n → sj_i w (La 206) j = nI (l j)) : sj_Mo La (sj_setL σ n l) w := by
  obtain ⟨a, b, c, d, e, f, g, h1, h2, h3, h4, h5⟩ := h
  exact ⟨a, b, c, d, e, f, g, fun k hk => ⟨h1 k hk, fun j hj => h2 k j hk hj⟩, fun k hk => ⟨h3 k hk, h4 k hk, h5 k hk⟩, h46, hl⟩
theorem pq_size {La : Nat → Nat} {σ : sj_S} {w : sj_W} (hL : sj_La La) (hM : sj_Mq La σ w) {a : Int32} {k r : Nat} (hk : sj_kd a = some k) (hr : r < 4) {Q : Int32 → sj_W → Prop} (h : Q (nI (sj_n σ (k * 4 + r))) w) : vc_X7_size (La 200) a (nI r) w Q := by
  have m := hM.all
  have hk4 := sj_kd_lt hk
  refine ⟨m.1.1, by rw [m.1.2.2.1]; exact hL.2 _, pm_kind hk ?_⟩
  have e : (4 * nI k + nI r) = nI (k * 4 + r) := by rw [sj_lits 4, sj_mulI, sj_addI, Nat.mul_comm]
  rw [e]
  simp (disch := omega) only [ne_eq, and_self, not_false_eq_true, not_true_eq_false, true_and, and_true, true_or, or_true, false_or, or_false, forall_eq, forall_const, true_implies, false_implies, if_true, if_false, sj_lits, sj_addI, sj_mulI, sj_clI, sj_inI, sj_ltI, sj_leI, sj_eqI, sj_lcI, m, hL.nz]
  exact ⟨by omega, h⟩
theorem pq_alike {La : Nat → Nat} {σ : sj_S} {w : sj_W} (hL : sj_La La) (hM : sj_Mq La σ w) (hw : sj_wf σ) {a : Int32} {k r f n r2 g m : Nat} (hk : sj_kd a = some k) (hr : r < 4) (hr2 : r2 < 4) (hf : f + n ≤ sj_n σ (k * 4 + r)) (hg : g + m ≤ sj_n σ (k * 4 + r2)) {Q : Int32 → sj_W → Prop}
    (h : Q (nI (sj_lcp n (fun i => sj_x σ (k * 4 + r) (f + i)) m (fun i => sj_x σ (k * 4 + r2) (g + i)))) w) : vc_X7_alike (La 200) a (nI r) (nI f) (nI n) (nI r2) (nI g) (nI m) w Q := by
  have mm := hM.all
  have hk4 := sj_kd_lt hk
  have c1 := (hw.1 (k * 4 + r) (by omega)).1
  have c2 := (hw.1 (k * 4 + r2) (by omega)).1
  refine sj_lp1_run (fun v w' => w' = w ∧ ∃ i, v = nI i ∧ i ≤ n ∧ i ≤ m ∧ ∀ j, j < i → sj_x σ (k * 4 + r) (f + j) = sj_x σ (k * 4 + r2) (g + j)) (fun v _ => 40 - v.toNatClampNeg) ?_ 64 _ _ ⟨rfl, 0, rfl, Nat.zero_le _, Nat.zero_le _, fun j hj => absurd hj (Nat.not_lt_zero _)⟩ (by omega)
  rintro v w' K ⟨rfl, i, rfl, hi1, hi2, hag⟩ hK
  unfold vb_X7_alike_3
  simp (disch := omega) only [sj_leI, sj_addI]
  refine ⟨fun q => ?_, fun q => ⟨fun q2 => ?_, fun q2 => ⟨mm.1.1, by rw [mm.1.2.1]; exact hL.2 _, mm.1.1, pm_at hk ?_⟩⟩⟩
  · rw [sj_lcp_eq (p := i) ⟨by omega, by omega, hag, fun _ _ => by omega⟩] at h
    exact h
  · rw [sj_lcp_eq (p := i) ⟨by omega, by omega, hag, fun _ _ => by omega⟩] at h
    exact h
  · simp (disch := omega) only [ne_eq, and_self, not_false_eq_true, not_true_eq_false, true_and, and_true, true_or, or_true, false_or, or_false, forall_eq, forall_const, true_implies, false_implies, if_true, if_false, sj_lits, sj_addI, sj_mulI, sj_clI, sj_inI, sj_ltI, sj_leI, sj_eqI, sj_lcI, mm, hL.nz]
    refine ⟨by omega, pm_at hk ?_⟩
    simp (disch := omega) only [ne_eq, and_self, not_false_eq_true, not_true_eq_false, true_and, and_true, true_or, or_true, false_or, or_false, forall_eq, forall_const, true_implies, false_implies, if_true, if_false, sj_lits, sj_addI, sj_mulI, sj_clI, sj_inI, sj_ltI, sj_leI, sj_eqI, sj_lcI, mm, hL.nz]
    refine ⟨by omega, fun z => ?_, fun z => hK _ _ ⟨rfl, i + 1, rfl, by omega, by omega, fun j hj => ?_⟩ ?_⟩
    · rw [sj_lcp_eq (p := i) ⟨by omega, by omega, hag, fun _ _ => z⟩] at h
      exact h
    · rcases Nat.lt_succ_iff_lt_or_eq.mp hj with y | rfl
      · exact hag j y
      · exact z
    · rw [sj_clI (by omega), sj_clI (by omega)]; omega
theorem pq_compared {La : Nat → Nat} {σ : sj_S} {w : sj_W} (hL : sj_La La) (hM : sj_Mq La σ w) (hw : sj_wf σ) {a o : Int32} {u : Bool} {k r f n r2 g m : Nat} (hk : sj_kd a = some k) (ho : sj_od o = some u) (hr : r < 4) (hr2 : r2 < 4) (hf : f + n ≤ sj_n σ (k * 4 + r)) (hg : g + m ≤ sj_n σ (k * 4 + r2)) {Q : Int32 → sj_W → Prop}
    (h : Q (sj_wc u n (fun i => sj_x σ (k * 4 + r) (f + i)) m (fun i => sj_x σ (k * 4 + r2) (g + i))) w) : vc_X7_compared (La 200) a o (nI r) (nI f) (nI n) (nI r2) (nI g) (nI m) w Q := by
  have mm := hM.all
  have hk4 := sj_kd_lt hk
  have c1 := (hw.1 (k * 4 + r) (by omega)).1
  have c2 := (hw.1 (k * 4 + r2) (by omega)).1
  have hl := sj_lcp_is n (fun i => sj_x σ (k * 4 + r) (f + i)) m (fun i => sj_x σ (k * 4 + r2) (g + i))
  unfold sj_wc at h
  refine ⟨mm.1.1, pq_alike hL hM hw hk hr hr2 hf hg ?_⟩
  generalize sj_lcp n (fun i => sj_x σ (k * 4 + r) (f + i)) m (fun i => sj_x σ (k * 4 + r2) (g + i)) = p at h hl
  obtain ⟨h1, h2, h3, h4⟩ := hl
  have fin : ¬ (p < n ∧ p < m) → ((nI m ≤ nI n → ((nI n ≤ nI m → Q 0 w) ∧ (¬ nI n ≤ nI m → Q 1 w))) ∧ (¬ nI m ≤ nI n → Q (-1) w)) := by
    intro hp
    rw [if_neg hp] at h
    simp (disch := omega) only [sj_leI]
    refine ⟨fun q => ⟨fun q2 => ?_, fun q2 => ?_⟩, fun q => ?_⟩
    · rw [if_pos (by omega)] at h; exact h
    · rw [if_neg (by omega), if_neg (by omega)] at h; exact h
    · rw [if_neg (by omega), if_pos (by omega)] at h; exact h
  simp (disch := omega) only [sj_eqI]
  refine ⟨fun q => fin (by omega), fun q => ⟨fun q2 => ?_, fun q2 => fin (by omega)⟩⟩
  rw [if_pos ⟨by omega, by omega⟩] at h
  simp only [sj_addI]
  refine ⟨mm.1.1, by rw [mm.1.2.1]; exact hL.2 _, mm.1.1, pm_at hk ?_⟩
  simp (disch := omega) only [ne_eq, and_self, not_false_eq_true, not_true_eq_false, true_and, and_true, true_or, or_true, false_or, or_false, forall_eq, forall_const, true_implies, false_implies, if_true, if_false, sj_lits, sj_addI, sj_mulI, sj_clI, sj_inI, sj_ltI, sj_leI, sj_eqI, sj_lcI, mm, hL.nz]
  refine ⟨by omega, pm_at hk ?_⟩
  simp (disch := omega) only [ne_eq, and_self, not_false_eq_true, not_true_eq_false, true_and, and_true, true_or, or_true, false_or, or_false, forall_eq, forall_const, true_implies, false_implies, if_true, if_false, sj_lits, sj_addI, sj_mulI, sj_clI, sj_inI, sj_ltI, sj_leI, sj_eqI, sj_lcI, mm, hL.nz]
  have hne := h4 (by omega) (by omega)
  unfold sj_nc at h
  rw [if_neg hne] at h
  refine ⟨by omega, pm_isLess ho (fun z => ⟨fun y => absurd y (by decide), fun _ => ?_⟩) (fun z => ⟨fun _ => ?_, fun y => absurd rfl y⟩)⟩
  · rw [if_pos z] at h; exact h
  · rw [if_neg z] at h; exact h
theorem pq_isFit {La : Nat → Nat} {σ : sj_S} {w : sj_W} (hL : sj_La La) (hM : sj_Mq La σ w) (hw : sj_wf σ) {a : Int32} {k j : Nat} (hk : sj_kd a = some k) (hj : j < 12) {Q : Int32 → sj_W → Prop} (h : sj_fit σ k j → Q 1 w) (h0 : ¬ sj_fit σ k j → Q 0 w) : vc_X7_isFit (La 200) a (nI j) w Q := by
  have m := hM.all
  have hk4 := sj_kd_lt hk
  have b := hw.2.1 j hj
  have c := (hw.1 (k * 4 + sj_pr σ j) (by omega)).1
  unfold sj_fit at h h0
  unfold vc_X7_isFit
  simp (disch := omega) only [ne_eq, and_self, not_false_eq_true, not_true_eq_false, true_and, and_true, true_or, or_true, false_or, or_false, forall_eq, forall_const, true_implies, false_implies, if_true, if_false, sj_lits, sj_addI, sj_mulI, sj_clI, sj_inI, sj_ltI, sj_leI, sj_eqI, sj_lcI, m, hL.nz, hj]
  refine pq_size hL hM hk b.1 ?_
  simp (disch := omega) only [ne_eq, and_self, not_false_eq_true, not_true_eq_false, true_and, and_true, true_or, or_true, false_or, or_false, forall_eq, forall_const, true_implies, false_implies, if_true, if_false, sj_lits, sj_addI, sj_mulI, sj_clI, sj_inI, sj_ltI, sj_leI, sj_eqI, sj_lcI, ]
  exact ⟨fun q => h0 (by omega), fun q => h (by omega)⟩
theorem pq_many {La : Nat → Nat} {σ : sj_S} {w : sj_W} (hL : sj_La La) (hM : sj_Mq La σ w) (hw : sj_wf σ) {j : Nat} (hj : j < 12) {Q : Int32 → sj_W → Prop} (h : Q (nI (sj_wn σ j)) w) : vc_X7_many (La 200) (nI j) w Q := by
  have m := hM.all
  have b := hw.2.1 j hj
  unfold vc_X7_many
  simp (disch := omega) only [ne_eq, and_self, not_false_eq_true, not_true_eq_false, true_and, and_true, true_or, or_true, false_or, or_false, forall_eq, forall_const, true_implies, false_implies, if_true, if_false, sj_lits, sj_addI, sj_mulI, sj_clI, sj_inI, sj_ltI, sj_leI, sj_eqI, sj_lcI, m, hL.nz, hj]
  rw [sj_subI b.2.1]
  exact h
theorem pq_spans {La : Nat → Nat} {σ : sj_S} {w : sj_W} (hL : sj_La La) (hM : sj_Mq La σ w) (hw : sj_wf σ) {a o : Int32} {u : Bool} {k i j : Nat} (hk : sj_kd a = some k) (ho : sj_od o = some u) (hi : i < 12) (hj : j < 12) (fi : sj_fit σ k i) (fj : sj_fit σ k j) {Q : Int32 → sj_W → Prop} (h : Q (sj_sw σ k u i j) w) : vc_X7_spans (La 200) a o (nI i) (nI j) w Q := by
  have m := hM.all
  have b1 := hw.2.1 i hi
  have b2 := hw.2.1 j hj
  unfold sj_fit at fi fj
  unfold vc_X7_spans
  simp (disch := omega) only [ne_eq, and_self, not_false_eq_true, not_true_eq_false, true_and, and_true, true_or, or_true, false_or, or_false, forall_eq, forall_const, true_implies, false_implies, if_true, if_false, sj_lits, sj_addI, sj_mulI, sj_clI, sj_inI, sj_ltI, sj_leI, sj_eqI, sj_lcI, m, hL.nz, hi, hj]
  refine pq_many hL hM hw hi ?_
  simp (disch := omega) only [ne_eq, and_self, not_false_eq_true, not_true_eq_false, true_and, and_true, true_or, or_true, false_or, or_false, forall_eq, forall_const, true_implies, false_implies, if_true, if_false, sj_lits, sj_addI, sj_mulI, sj_clI, sj_inI, sj_ltI, sj_leI, sj_eqI, sj_lcI, m, hL.nz, hi, hj]
  refine pq_many hL hM hw hj ⟨m.1.1, pq_compared hL hM hw hk ho b1.1 b2.1 (by unfold sj_wn; omega) (by unfold sj_wn; omega) h⟩
theorem sj_sI_o {w : sj_W} {f g a b : Nat} {v : Int32} (h : f ≠ g) : sj_I (sj_sI w g a v) f b = sj_I w f b := if_neg (fun z => h z.1)
theorem sj_plc_self {σ : sj_S} {k : Nat} {u : Bool} {m : Nat} : sj_plc σ k u m m = false := by
  refine Bool.eq_false_iff.mpr fun z => ?_
  exact sj_slt_irr (sj_plc_iff.mp z).2
theorem pm_sort {La : Nat → Nat} {σ : sj_S} {w : sj_W} (hL : sj_La La) (hM : sj_Mo La σ w) (hw : sj_wf σ) {a1 a2 : Int32} {Q : Int32 → sj_W → Prop} (h : so_pM La w (ab_sort σ a1 a2) Int32.toInt64 Q) : vc_X7_sort (La 200) a1 a2 w Q := by
  unfold ab_sort at h
  refine pm_isKind (fun k hk hk4 => ⟨fun z => absurd z (by decide), fun _ => pm_isOrder (fun u hu => ⟨fun z => absurd z (by decide), fun _ => ?_⟩) (fun hu => ⟨fun _ => ?_, fun z => absurd rfl z⟩)⟩) (fun hk => ⟨fun _ => ?_, fun z => absurd rfl z⟩)
  · simp only [hk, hu] at h
    obtain ⟨lx, hs⟩ := sj_spans_sorted σ k u
    have rk : ∀ j, j < sj_cnt (sj_fitB σ k) 12 → sj_cnt (sj_plc σ k u (lx j)) 12 = j := fun j hj => sj_sort_rank hs (fun i _ => sj_slt_irr) (fun i j _ _ => sj_slt_as) hj (fun i _ => sj_plc_iff)
    have inj : ∀ i j, i < 12 → j < 12 → sj_fit σ k i → sj_fit σ k j → sj_cnt (sj_plc σ k u i) 12 = sj_cnt (sj_plc σ k u j) 12 → i = j := by
      intro i j hi hj fi fj e
      obtain ⟨a, ha, ea⟩ := hs.2.2 i hi fi
      obtain ⟨b, hb, eb⟩ := hs.2.2 j hj fj
      subst ea eb
      rw [rk a ha, rk b hb] at e
      rw [e]
    have sxe := (sj_sx_eq hs).2
    refine pm_ok hL hM (fun w1 hf hM1 h47 => ⟨hM1.1.1, fun w2 e2 => ?_⟩)
    have hq1 := hM1.mq
    have hf2 : sj_fr (sj_X6 La) w1 w2 := by rw [e2]; exact sj_fr.rf.I (Or.inl (Or.inl rfl))
    have h46 : sj_I w2 46 (La 200) = nI 0 := by rw [e2]; exact if_pos ⟨rfl, rfl⟩
    have h47' : sj_I w2 47 (La 200) = nI 0 := by rw [e2]; exact (sj_sI_o (by decide)).trans h47
    clear e2
    refine sj_lp1_run (fun v w' => ∃ m, v = nI m ∧ m ≤ 12 ∧ sj_fr (sj_X6 La) w1 w' ∧ sj_I w' 46 (La 200) = nI (sj_cnt (sj_fitB σ k) m) ∧ sj_I w' 47 (La 200) = nI 0 ∧ ∀ j, j < m → sj_fit σ k j → sj_i w' (La 206) (sj_cnt (sj_plc σ k u j) 12) = nI j) (fun v _ => 13 - v.toNatClampNeg) ?_ 64 _ _ ⟨0, rfl, by omega, hf2, h46, h47', fun j hj => absurd hj (Nat.not_lt_zero _)⟩ (by omega)
    rintro v w' K ⟨m, rfl, hm, hfr, g46, g47, hli⟩ hK
    have hq := hq1.fr hL hfr
    have mm := hq.all
    have hcf := sj_cnt_le (sj_fitB σ k) m
    unfold vb_X7_sort_35
    rw [sj_lits 12, sj_leI (by omega) (by omega)]
    refine ⟨fun q => ⟨mm.1.1, ?_⟩, fun q => ⟨mm.1.1, pq_isFit hL hq hw hk (by omega) (fun fm => ⟨fun _ => ?_, fun z => absurd z (by decide)⟩) (fun fm => ⟨fun z => absurd rfl z, fun _ => ?_⟩)⟩⟩
    · have e : m = 12 := by omega
      subst e
      rw [g46]
      refine so_g h (hf.trans (sj_X6.x hfr)) (hq.mo g46 (fun j hj => ?_)) g47 rfl
      rw [sxe j hj]
      have := hli (lx j) (hs.1 j hj).1 (hs.1 j hj).2
      rw [rk j hj] at this
      exact this
    · refine sj_lp2_run (fun v4 v5 w'' => w'' = w' ∧ ∃ i, v5 = nI i ∧ i ≤ 12 ∧ v4 = nI (sj_cnt (sj_plc σ k u m) i)) (fun _ v _ => 13 - v.toNatClampNeg) ?_ 64 _ _ _ ⟨rfl, 0, rfl, by omega, rfl⟩ (by omega)
      rintro v4 v5 w'' K2 ⟨rfl, i, rfl, hi, rfl⟩ hK2
      have hcl := sj_cnt_le (sj_plc σ k u m) i
      have step : ∀ b, sj_plc σ k u m i = b → i < 12 → K2 (nI (sj_cnt (sj_plc σ k u m) i + (if b then 1 else 0))) (nI (i + 1)) w'' := by
        intro b h3 h4
        refine hK2 _ _ _ ⟨rfl, i + 1, rfl, by omega, by rw [← h3]; rfl⟩ ?_
        rw [sj_clI (by omega), sj_clI (by omega)]
        omega
      unfold vb_X7_sort_59
      rw [sj_lits 12, sj_leI (by omega) (by omega)]
      refine ⟨fun q2 => ?_, fun q2 => ⟨mm.1.1, pq_isFit hL hq hw hk (by omega) (fun fi => ?_) (fun fi => ?_)⟩⟩
      · have e : i = 12 := by omega
        subst e
        have hlt : sj_cnt (sj_plc σ k u m) 12 < 12 := by
          have hm12 : m < 12 := by omega
          have h1 := sj_cnt_split (fun i => sj_plc σ k u m i || decide (i = m)) m 12 hm12 (by rw [decide_eq_true rfl, Bool.or_true])
          have h2 := sj_cnt_le (fun i => sj_plc σ k u m i || decide (i = m)) 12
          have h3 : sj_cnt (fun i => (sj_plc σ k u m i || decide (i = m)) && decide (i ≠ m)) 12 = sj_cnt (sj_plc σ k u m) 12 := sj_cnt_congr 12 (fun i _ => by
            by_cases e : i = m
            · subst e
              have e0 : decide (i ≠ i) = false := decide_eq_false (fun z : i ≠ i => z rfl)
              rw [e0, sj_plc_self, Bool.and_false]
            · rw [decide_eq_false e, decide_eq_true e, Bool.or_false, Bool.and_true])
          omega
        generalize hpl : sj_cnt (sj_plc σ k u m) 12 = pl at hlt
        refine ⟨mm.1.1, by rw [mm.1.2.2.2.2.2.2]; exact hL.2 _, by rw [mm.1.2.2.2.2.2.2]; exact mm.2.2.2.2.2.2.1.1, by rw [mm.1.2.2.2.2.2.2, mm.2.2.2.2.2.2.1.2, sj_inI (by omega)]; exact hlt, fun w5 e5 => ?_⟩
        rw [mm.1.2.2.2.2.2.2, sj_clI (by omega)] at e5
        have f5 : sj_fr (sj_X6 La) w1 w5 := by rw [e5]; exact hfr.i (Or.inl (Or.inr rfl))
        have hq5 := hq1.fr hL f5
        refine ⟨hq5.1.1, hq5.1.1, fun w6 e6 => ?_⟩
        have e546 : sj_I w5 46 (La 200) = nI (sj_cnt (sj_fitB σ k) m) := by rw [e5]; exact g46
        have e547 : sj_I w5 47 (La 200) = nI 0 := by rw [e5]; exact g47
        have e5i : ∀ j, sj_i w5 (La 206) j = if j = pl then nI m else sj_i w'' (La 206) j := by
          intro j
          rw [e5]
          show (if La 206 = La 206 ∧ j = pl then nI m else sj_i w'' (La 206) j) = _
          by_cases e : j = pl
          · rw [if_pos ⟨rfl, e⟩, if_pos e]
          · rw [if_neg (fun z => e z.2), if_neg e]
        rw [e546, sj_s1] at e6
        have e6i : sj_i w6 = sj_i w5 := by rw [e6]; rfl
        refine hK _ _ ⟨m + 1, by first | rfl | exact sj_s1 _, by omega, by rw [e6]; exact f5.I (Or.inl (Or.inl rfl)), ?_, ?_, fun j hj fj => ?_⟩ ?_
        · rw [e6]
          show (if 46 = 46 ∧ La 200 = La 200 then nI (sj_cnt (sj_fitB σ k) m + 1) else _) = nI (sj_cnt (sj_fitB σ k) m + (if sj_fitB σ k m then 1 else 0))
          have : sj_fitB σ k m = true := decide_eq_true fm
          rw [if_pos ⟨rfl, rfl⟩, this]
          rfl
        · rw [e6]
          exact (sj_sI_o (by decide)).trans e547
        · rw [e6i, e5i]
          by_cases e : j = m
          · subst e
            rw [if_pos hpl]
          · rw [if_neg (fun z => e (inj j m (by omega) (by omega) fj fm (z.trans hpl.symm)))]
            exact hli j (by omega) fj
        · first | rw [sj_clI (by omega), sj_clI (by omega)] | rw [sj_s1, sj_clI (by omega), sj_clI (by omega)]
          omega
      · have hi12 : i < 12 := by omega
        have hm12 : m < 12 := by omega
        refine ⟨fun z => absurd z (by decide), fun _ => ⟨mm.1.1, pq_spans hL hq hw hk hu hi12 hm12 fi fm ?_⟩⟩
        rw [sj_lits 0, sj_leI (by omega) (by omega), sj_addI, sj_s1, sj_s1]
        refine ⟨fun z => step true (decide_eq_true ⟨fi, Or.inl (Int32.not_le.mpr z)⟩) hi12, fun z => ⟨fun z2 => step false (decide_eq_false fun y => y.2.elim (fun t => t (Int32.not_lt.mp z)) (fun t => z2 t.1)) hi12, fun z2 => ⟨fun z3 => step false (decide_eq_false fun y => y.2.elim (fun t => t (Int32.not_lt.mp z)) (fun t => absurd t.2 (by omega))) hi12, fun z3 => step true (decide_eq_true ⟨fi, Or.inr ⟨z2, by omega⟩⟩) hi12⟩⟩⟩
      · have hi12 : i < 12 := by omega
        refine ⟨fun _ => ⟨fun z => absurd z (by decide), fun _ => ⟨fun _ => ?_, fun z => absurd z (by decide)⟩⟩, fun z => absurd rfl z⟩
        rw [sj_lits 0, sj_addI, sj_s1]
        exact step false (decide_eq_false fun y => fi y.1) hi12
    · refine hK _ _ ⟨m + 1, sj_s1 _, by omega, hfr, ?_, g47, fun j hj fj => ?_⟩ ?_
      · have : sj_fitB σ k m = false := decide_eq_false fm
        rw [g46, sj_cnt_s, this]
        rfl
      · by_cases e : j = m
        · subst e; exact absurd fj fm
        · exact hli j (by omega) fj
      · rw [sj_s1, sj_clI (by omega), sj_clI (by omega)]; omega
  · simp only [hk, hu] at h
    exact pm_no hL hM 1 (by decide) (by decide) h
  · simp only [hk] at h
    exact pm_no hL hM 1 (by decide) (by decide) h
theorem pm_share {La : Nat → Nat} {σ : sj_S} {w : sj_W} (hL : sj_La La) (hM : sj_Mo La σ w) (hw : sj_wf σ) {a1 : Int32} {Q : UInt32 → sj_W → Prop} (h : so_pM La w (ab_share σ a1) sj_cf Q) : vc_X7_share (La 200) a1 w Q := by
  unfold ab_share at h
  cases hk : sj_kd a1 with
  | none =>
    simp only [hk] at h
    have I : ∀ {Q2 : Int32 → sj_W → Prop}, Q2 0 w → vc_X7_isKind a1 w Q2 := fun hq => pm_isKind (fun _ e _ => by rw [hk] at e; cases e) (fun _ => hq)
    refine ⟨fun z => absurd z (by decide), fun _ => I ⟨fun _ => I ⟨fun z => absurd rfl z, fun _ => ?_⟩, fun z => absurd rfl z⟩⟩
    exact pm_no hL hM 1 (by decide) (by decide) h
  | some k =>
    simp only [hk] at h
    have hk4 := sj_kd_lt hk
    have I : ∀ {Q2 : Int32 → sj_W → Prop}, Q2 1 w → vc_X7_isKind a1 w Q2 := fun hq => pm_isKind (fun _ _ _ => hq) (fun e => by rw [hk] at e; cases e)
    have hsp := fun m => sj_ss_le σ k m
    refine sj_lp3_run (fun v2 v3 v4 w' => w' = w ∧ ∃ i, v4 = nI i ∧ i ≤ 12 ∧ v2 = nI (sj_cnt (sj_fitB σ k) i) ∧ v3 = nI (sj_ss σ k i)) (fun _ _ v _ => 13 - v.toNatClampNeg) ?_ 64 _ _ _ _ ⟨rfl, 0, rfl, by omega, rfl, rfl⟩ (by omega)
    rintro v2 v3 v4 w' K ⟨rfl, i, rfl, hi, rfl, rfl⟩ hK
    have hcl := sj_cnt_le (sj_fitB σ k) i
    have hps := sj_ps_le σ k i hi
    have hss := hsp i
    unfold vb_X7_share_7
    rw [sj_lits 12, sj_leI (by omega) (by omega)]
    refine ⟨fun q => I ?_, fun q => I ⟨fun z => absurd z (by decide), fun _ => ⟨hM.1.1, pm_isFit hL hM hw hk (by omega) (fun fi => ⟨fun _ => ?_, fun z => absurd z (by decide)⟩) (fun fi => ⟨fun z => absurd rfl z, fun _ => ?_⟩)⟩⟩⟩
    · have e : i = 12 := by omega
      subst e
      have hc2 := sj_ps_c σ k 12
      generalize sj_cnt (sj_fitB σ k) 12 = c at hc2 hcl ⊢
      rw [sj_lits 2, sj_leI (by omega) (by omega)]
      refine ⟨fun _ => ⟨fun q2 => pm_ok hL hM (fun w1 hf hM1 h47 => ?_), fun q2 => ?_⟩, fun z => absurd z (by decide)⟩
      · have h2 : 2 * 1 ≤ c * (c - 1) := Nat.mul_le_mul q2 (by omega)
        have hp0 : sj_ps σ k 12 ≠ 0 := by omega
        rw [if_neg hp0] at h
        have e2 : (nI c * (nI c - 1)) / nI 2 = nI (sj_ps σ k 12) := by
          rw [sj_lits 1, sj_subI (by omega), sj_mulI, ← hc2, pk_div (by omega) (by omega) (by omega)]
          congr 1
          omega
        rw [e2]
        exact ⟨(sj_shq_ok hp0 hps hss).1, so_g h hf hM1 h47 rfl⟩
      · have hp0 : sj_ps σ k 12 = 0 := by
          have h3 : c = 0 ∨ c = 1 := by omega
          rcases h3 with rfl | rfl
          · omega
          · omega
        rw [if_pos hp0] at h
        exact pm_no hL hM 2 (by decide) (by decide) h
    · have hi12 : i < 12 := by omega
      have fB : sj_fitB σ k i = true := decide_eq_true fi
      refine sj_lp2_run (fun v3 v5 w'' => w'' = w' ∧ ∃ j, v5 = nI j ∧ j ≤ i ∧ v3 = nI (sj_ss σ k i + sj_cnt (sj_smB σ k i) j)) (fun _ v _ => 13 - v.toNatClampNeg) ?_ 64 _ _ _ ⟨rfl, 0, rfl, by omega, rfl⟩ (by omega)
      rintro v3 v5 w'' K2 ⟨rfl, j, rfl, hj, rfl⟩ hK2
      have hcj := sj_cnt_le (sj_smB σ k i) j
      have step : ∀ b, sj_smB σ k i j = b → j < i → K2 (nI (sj_ss σ k i + sj_cnt (sj_smB σ k i) j + (if b then 1 else 0))) (nI (j + 1)) w'' := by
        intro b h3 h4
        refine hK2 _ _ _ ⟨rfl, j + 1, rfl, by omega, by rw [sj_cnt_s, h3, Nat.add_assoc]⟩ ?_
        rw [sj_clI (by omega), sj_clI (by omega)]
        omega
      unfold vb_X7_share_40
      rw [sj_leI (by omega) (by omega)]
      refine ⟨fun q2 => ?_, fun q2 => ⟨hM.1.1, pm_isFit hL hM hw hk (by omega) (fun fj => ⟨fun z => absurd z (by decide), fun _ => ⟨hM.1.1, pm_spans (u := false) hL hM hw hk rfl (by omega) hi12 fj fi ⟨fun z => ?_, fun z => ?_⟩⟩⟩) (fun fj => ⟨fun _ => ?_, fun z => absurd rfl z⟩)⟩⟩
      · have e : j = i := by omega
        subst e
        rw [sj_s1, sj_s1]
        refine hK _ _ _ _ ⟨rfl, j + 1, rfl, by omega, ?_, ?_⟩ ?_
        · rw [sj_cnt_s, fB]
          rfl
        · show _ = nI (sj_ss σ k j + (if sj_fitB σ k j = true then sj_cnt (sj_smB σ k j) j else 0))
          rw [if_pos fB]
        · rw [sj_clI (by omega), sj_clI (by omega)]; omega
      · rw [sj_lits 0, sj_addI, sj_s1]
        exact step false (decide_eq_false fun y => z y.2) (by omega)
      · rw [sj_s1, sj_s1]
        exact step true (decide_eq_true ⟨fj, z⟩) (by omega)
      · rw [sj_lits 0, sj_addI, sj_s1]
        exact step false (decide_eq_false fun y => fj y.1) (by omega)
    · have fB : sj_fitB σ k i = false := decide_eq_false fi
      rw [sj_s1]
      refine hK _ _ _ _ ⟨rfl, i + 1, rfl, by omega, ?_, ?_⟩ ?_
      · rw [sj_cnt_s, fB]
        rfl
      · show _ = nI (sj_ss σ k i + (if sj_fitB σ k i = true then sj_cnt (sj_smB σ k i) i else 0))
        rw [if_neg (by rw [fB]; decide)]
        rfl
      · rw [sj_clI (by omega), sj_clI (by omega)]; omega

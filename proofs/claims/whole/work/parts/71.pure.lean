/-! the reference: more helpers -/
theorem pm_noRow {a x : Int32} {s : Nat} {w : sj_W} {Q : Int32 → sj_W → Prop} (h0 : ∀ k r, sj_kd a = some k → k < 4 → sj_ix 4 x = some r → x = nI r → r < 4 → Q 0 w) (h1 : sj_kd a = none → Q 1 w) (h2 : ∀ k, sj_kd a = some k → sj_ix 4 x = none → Q 2 w) : vc_X7_noRow s a x w Q :=
  pm_isKind (fun k hk hk4 => ⟨fun _ => pm_isRow (fun j h3 h4 h5 => ⟨fun z => absurd z (by decide), fun _ => h0 k j hk hk4 h3 h4 h5⟩) (fun e => ⟨fun _ => h2 k hk e, fun z => absurd rfl z⟩), fun z => absurd z (by decide)⟩) (fun hk => ⟨fun z => absurd rfl z, fun _ => h1 hk⟩)
theorem pm_isOrder {a : Int32} {w : sj_W} {Q : Int32 → sj_W → Prop} (h : ∀ u, sj_od a = some u → Q 1 w) (h0 : sj_od a = none → Q 0 w) : vc_X7_isOrder a w Q := by
  unfold sj_od at h h0
  refine ⟨fun e => ?_, fun e => ⟨fun e2 => ?_, fun e2 => ?_⟩⟩
  · exact h false (by rw [if_pos e])
  · exact h0 (by rw [if_neg e, if_neg e2])
  · exact h true (by rw [if_neg e, if_pos e2])
theorem pm_noOrder {a o x : Int32} {s : Nat} {w : sj_W} {Q : Int32 → sj_W → Prop} (h0 : ∀ k u r, sj_kd a = some k → k < 4 → sj_od o = some u → sj_ix 4 x = some r → x = nI r → r < 4 → Q 0 w) (h1 : sj_kd a = none → Q 1 w) (h1' : ∀ k, sj_kd a = some k → sj_od o = none → Q 1 w) (h2 : ∀ k u, sj_kd a = some k → sj_od o = some u → sj_ix 4 x = none → Q 2 w) : vc_X7_noOrder s a o x w Q :=
  pm_isKind (fun k hk hk4 => ⟨fun z => absurd z (by decide), fun _ => pm_isOrder (fun u hu => ⟨fun _ => pm_isRow (fun j h3 h4 h5 => ⟨fun z => absurd z (by decide), fun _ => h0 k u j hk hk4 hu h3 h4 h5⟩) (fun e => ⟨fun _ => h2 k u hk hu e, fun z => absurd rfl z⟩), fun z => absurd z (by decide)⟩) (fun hu => ⟨fun z => absurd rfl z, fun _ => h1' k hk hu⟩)⟩) (fun hk => ⟨fun _ => h1 hk, fun z => absurd rfl z⟩)
theorem pm_isAsk {a : Int32} {w : sj_W} {Q : Int32 → sj_W → Prop} (h : sj_isq a → Q 1 w) (h0 : ¬ sj_isq a → Q 0 w) : vc_X7_isAsk a w Q :=
  ⟨fun e => h (Or.inl e), fun e1 => ⟨fun e => h (Or.inr (Or.inl e)), fun e2 => ⟨fun e => h (Or.inr (Or.inr (Or.inl e))), fun e3 => ⟨fun e4 => h0 (fun z => z.elim e1 fun z => z.elim e2 fun z => z.elim e3 e4), fun e => h (Or.inr (Or.inr (Or.inr e)))⟩⟩⟩⟩
theorem pm_isFit {La : Nat → Nat} {σ : sj_S} {w : sj_W} (hL : sj_La La) (hM : sj_Mo La σ w) (hw : sj_wf σ) {a : Int32} {k j : Nat} (hk : sj_kd a = some k) (hj : j < 12) {Q : Int32 → sj_W → Prop} (h : sj_fit σ k j → Q 1 w) (h0 : ¬ sj_fit σ k j → Q 0 w) : vc_X7_isFit (La 200) a (nI j) w Q := by
  have m := hM.all
  have hk4 := sj_kd_lt hk
  have b := hw.2.1 j hj
  have c := (hw.1 (k * 4 + sj_pr σ j) (by omega)).1
  unfold sj_fit at h h0
  unfold vc_X7_isFit
  simp (disch := omega) only [ne_eq, and_self, not_false_eq_true, not_true_eq_false, true_and, and_true, true_or, or_true, false_or, or_false, forall_eq, forall_const, true_implies, false_implies, if_true, if_false, sj_lits, sj_addI, sj_mulI, sj_clI, sj_inI, sj_ltI, sj_leI, sj_eqI, sj_lcI, m, hL.nz, hj]
  refine pm_size hL hM hk b.1 ?_
  simp (disch := omega) only [ne_eq, and_self, not_false_eq_true, not_true_eq_false, true_and, and_true, true_or, or_true, false_or, or_false, forall_eq, forall_const, true_implies, false_implies, if_true, if_false, sj_lits, sj_addI, sj_mulI, sj_clI, sj_inI, sj_ltI, sj_leI, sj_eqI, sj_lcI, ]
  exact ⟨fun q => h0 (by omega), fun q => h (by omega)⟩
theorem pm_many {La : Nat → Nat} {σ : sj_S} {w : sj_W} (hL : sj_La La) (hM : sj_Mo La σ w) (hw : sj_wf σ) {j : Nat} (hj : j < 12) {Q : Int32 → sj_W → Prop} (h : Q (nI (sj_wn σ j)) w) : vc_X7_many (La 200) (nI j) w Q := by
  have m := hM.all
  have b := hw.2.1 j hj
  unfold vc_X7_many
  simp (disch := omega) only [ne_eq, and_self, not_false_eq_true, not_true_eq_false, true_and, and_true, true_or, or_true, false_or, or_false, forall_eq, forall_const, true_implies, false_implies, if_true, if_false, sj_lits, sj_addI, sj_mulI, sj_clI, sj_inI, sj_ltI, sj_leI, sj_eqI, sj_lcI, m, hL.nz, hj]
  rw [sj_subI b.2.1]
  exact h
theorem pm_noWords {La : Nat → Nat} {σ : sj_S} {w : sj_W} (hL : sj_La La) (hM : sj_Mo La σ w) (hw : sj_wf σ) {a x y : Int32} {k : Nat} (hk : sj_kd a = some k) {Q : Int32 → sj_W → Prop} (h0 : ∀ i j, sj_ix 12 x = some i → x = nI i → i < 12 → sj_ix 12 y = some j → y = nI j → j < 12 → sj_fit σ k i → sj_fit σ k j → Q 0 w) (h2 : sj_ix 12 x = none → Q 2 w) (h2' : ∀ i, sj_ix 12 x = some i → sj_ix 12 y = none → Q 2 w)
    (h3 : ∀ i j, sj_ix 12 x = some i → sj_ix 12 y = some j → ¬ (sj_fit σ k i ∧ sj_fit σ k j) → Q 3 w) : vc_X7_noWords (La 200) 1 a x y w Q := by
  refine ⟨fun _ => pm_isSpan (fun i hi ei hi12 => ⟨fun z => absurd z (by decide), fun _ => pm_isSpan (fun j hj ej hj12 => ⟨fun _ => ⟨hM.1.1, ?_⟩, fun z => absurd z (by decide)⟩) (fun hj => ⟨fun z => absurd rfl z, fun _ => h2' i hi hj⟩)⟩) (fun hi => ⟨fun _ => h2 hi, fun z => absurd rfl z⟩), fun z => absurd z (by decide)⟩
  subst ei ej
  exact pm_isFit hL hM hw hk hi12 (fun f1 => ⟨fun z => absurd z (by decide), fun _ => ⟨hM.1.1, pm_isFit hL hM hw hk hj12 (fun f2 => ⟨fun z => absurd z (by decide), fun _ => h0 i j hi rfl hi12 hj rfl hj12 f1 f2⟩) (fun f2 => ⟨fun _ => h3 i j hi hj (fun z => f2 z.2), fun z => absurd rfl z⟩)⟩⟩) (fun f1 => ⟨fun _ => h3 i j hi hj (fun z => f1 z.1), fun z => absurd rfl z⟩)
theorem pm_spans {La : Nat → Nat} {σ : sj_S} {w : sj_W} (hL : sj_La La) (hM : sj_Mo La σ w) (hw : sj_wf σ) {a o : Int32} {u : Bool} {k i j : Nat} (hk : sj_kd a = some k) (ho : sj_od o = some u) (hi : i < 12) (hj : j < 12) (fi : sj_fit σ k i) (fj : sj_fit σ k j) {Q : Int32 → sj_W → Prop} (h : Q (sj_sw σ k u i j) w) : vc_X7_spans (La 200) a o (nI i) (nI j) w Q := by
  have m := hM.all
  have b1 := hw.2.1 i hi
  have b2 := hw.2.1 j hj
  unfold sj_fit at fi fj
  unfold vc_X7_spans
  simp (disch := omega) only [ne_eq, and_self, not_false_eq_true, not_true_eq_false, true_and, and_true, true_or, or_true, false_or, or_false, forall_eq, forall_const, true_implies, false_implies, if_true, if_false, sj_lits, sj_addI, sj_mulI, sj_clI, sj_inI, sj_ltI, sj_leI, sj_eqI, sj_lcI, m, hL.nz, hi, hj]
  refine pm_many hL hM hw hi ?_
  simp (disch := omega) only [ne_eq, and_self, not_false_eq_true, not_true_eq_false, true_and, and_true, true_or, or_true, false_or, or_false, forall_eq, forall_const, true_implies, false_implies, if_true, if_false, sj_lits, sj_addI, sj_mulI, sj_clI, sj_inI, sj_ltI, sj_leI, sj_eqI, sj_lcI, m, hL.nz, hi, hj]
  refine pm_many hL hM hw hj ⟨m.1.1, pm_compared hL hM hw hk ho b1.1 b2.1 (by unfold sj_wn; omega) (by unfold sj_wn; omega) h⟩
theorem pm_endings {La : Nat → Nat} {σ : sj_S} {w : sj_W} (hL : sj_La La) (hM : sj_Mo La σ w) (hw : sj_wf σ) {a o : Int32} {u : Bool} {k r n i j : Nat} (hk : sj_kd a = some k) (ho : sj_od o = some u) (hr : r < 4) (hn : n ≤ sj_n σ (k * 4 + r)) (hi : i ≤ n) (hj : j ≤ n) {Q : Int32 → sj_W → Prop} (h : Q (sj_wc u (n - i) (sj_sf (sj_x σ (k * 4 + r)) i) (n - j) (sj_sf (sj_x σ (k * 4 + r)) j)) w) : vc_X7_endings (La 200) a o (nI r) (nI n) (nI i) (nI j) w Q := by
  unfold vc_X7_endings
  rw [sj_subI hi, sj_subI hj]
  exact ⟨hM.1.1, pm_compared hL hM hw hk ho hr hr (by omega) (by omega) h⟩
theorem pm_is {La : Nat → Nat} {σ : sj_S} {w : sj_W} (hL : sj_La La) (hM : sj_Mo La σ w) (hw : sj_wf σ) {a : Int32} {k r p : Nat} (hk : sj_kd a = some k) (hr : r < 4) (hp : p ≤ 32) {Q : Int32 → sj_W → Prop} (h : sj_per (sj_n σ (k * 4 + r)) (sj_x σ (k * 4 + r)) p = true → Q 1 w) (h0 : sj_per (sj_n σ (k * 4 + r)) (sj_x σ (k * 4 + r)) p = false → Q 0 w) : vc_X7_is (La 200) a (nI r) (nI p) w Q := by
  have mm := hM.all
  have hk4 := sj_kd_lt hk
  have c := (hw.1 (k * 4 + r) (by omega)).1
  refine ⟨mm.1.1, pm_size hL hM hk hr ?_⟩
  refine sj_lp1_run (fun v w' => w' = w ∧ ∃ i, v = nI i ∧ p ≤ i ∧ i ≤ 32 ∧ ∀ j, p ≤ j → j < i → j < sj_n σ (k * 4 + r) → sj_x σ (k * 4 + r) j = sj_x σ (k * 4 + r) (j - p)) (fun v _ => 40 - v.toNatClampNeg) ?_ 64 _ _ ⟨rfl, p, rfl, Nat.le_refl _, hp, fun j h1 h2 => by omega⟩ (by omega)
  rintro v w' K ⟨rfl, i, rfl, h1, h2, h3⟩ hK
  unfold vb_X7_is_11
  rw [sj_subI h1]
  simp (disch := omega) only [sj_leI]
  refine ⟨fun q => h (sj_per_iff.mpr fun j y1 y2 => h3 j y1 (by omega) y2), fun q => ⟨mm.1.1, by rw [mm.1.2.1]; exact hL.2 _, mm.1.1, pm_at hk ?_⟩⟩
  simp (disch := omega) only [ne_eq, and_self, not_false_eq_true, not_true_eq_false, true_and, and_true, true_or, or_true, false_or, or_false, forall_eq, forall_const, true_implies, false_implies, if_true, if_false, sj_lits, sj_addI, sj_mulI, sj_clI, sj_inI, sj_ltI, sj_leI, sj_eqI, sj_lcI, mm, hL.nz]
  refine ⟨by omega, pm_at hk ?_⟩
  simp (disch := omega) only [ne_eq, and_self, not_false_eq_true, not_true_eq_false, true_and, and_true, true_or, or_true, false_or, or_false, forall_eq, forall_const, true_implies, false_implies, if_true, if_false, sj_lits, sj_addI, sj_mulI, sj_clI, sj_inI, sj_ltI, sj_leI, sj_eqI, sj_lcI, mm, hL.nz]
  refine ⟨by omega, fun z => hK _ _ ⟨rfl, i + 1, rfl, by omega, by omega, fun j y1 y2 y3 => ?_⟩ ?_, fun z => h0 ?_⟩
  · by_cases e : j = i
    · subst e; exact z
    · exact h3 j y1 (by omega) y3
  · rw [sj_clI (by omega), sj_clI (by omega)]; omega
  · exact Bool.eq_false_iff.mpr fun y => z (sj_per_iff.mp y i h1 (by omega))
theorem pm_answer {La : Nat → Nat} {σ : sj_S} {w : sj_W} (hL : sj_La La) (hM : sj_Mo La σ w) (hw : sj_wf σ) {a c : Int32} {k r f n r2 g m : Nat} (hk : sj_kd a = some k) (hq : sj_isq c) (hr : r < 4) (hr2 : r2 < 4) (hf : f + n ≤ sj_n σ (k * 4 + r)) (hg : g + m ≤ sj_n σ (k * 4 + r2)) {Q : Int32 → sj_W → Prop}
    (h : Q (sj_ans c n (fun i => sj_x σ (k * 4 + r) (f + i)) m (fun i => sj_x σ (k * 4 + r2) (g + i))) w) : vc_X7_answer (La 200) a c (nI r) (nI f) (nI n) (nI r2) (nI g) (nI m) w Q := by
  have hk4 := sj_kd_lt hk
  have c1 := (hw.1 (k * 4 + r) (by omega)).1
  have c2 := (hw.1 (k * 4 + r2) (by omega)).1
  have hl := sj_lcp_is n (fun i => sj_x σ (k * 4 + r) (f + i)) m (fun i => sj_x σ (k * 4 + r2) (g + i))
  have hl1 := hl.1
  unfold sj_ans at h
  refine ⟨fun e => ⟨fun z => absurd e z, fun _ => ⟨hM.1.1, ?_⟩⟩, fun e => ⟨fun e2 => ⟨hM.1.1, pm_alike hL hM hw hk hr hr2 hf hg ?_⟩, fun e2 => ⟨fun _ => ⟨hM.1.1, ?_⟩, fun z => absurd z e⟩⟩⟩
  · rw [if_pos e] at h
    exact pm_compared (u := false) hL hM hw hk rfl hr hr2 hf hg h
  · rw [if_neg e, if_neg e2] at h
    unfold sj_jn1
    generalize sj_lcp n (fun i => sj_x σ (k * 4 + r) (f + i)) m (fun i => sj_x σ (k * 4 + r2) (g + i)) = p at h hl1
    simp (disch := omega) only [sj_eqI]
    have ne : ¬ (n = m ∧ p = n) → ((¬ c = 101 → Q (nI p) w) ∧ (c = 101 → Q 0 w)) := by
      intro y
      rw [if_neg y, if_neg y] at h
      refine ⟨fun z => ?_, fun z => ?_⟩
      · rw [if_neg z] at h; exact h
      · rw [if_pos z] at h; exact h
    refine ⟨fun q => ?_, fun q => ⟨fun q2 => ?_, fun q2 => ?_⟩⟩
    · exact ⟨fun z => ⟨fun _ => (ne (fun y => q y.1)).1 z, fun y => absurd trivial y⟩, fun z => ⟨fun _ => (ne (fun y => q y.1)).2 z, fun y => absurd trivial y⟩⟩
    · exact ⟨fun z => ⟨fun _ => (ne (fun y => q2 y.2)).1 z, fun y => absurd trivial y⟩, fun z => ⟨fun _ => (ne (fun y => q2 y.2)).2 z, fun y => absurd trivial y⟩⟩
    · have y : n = m ∧ p = n := ⟨q, q2⟩
      rw [if_pos y, if_pos y] at h
      refine ⟨fun z => ⟨fun y => absurd y (by decide), fun _ => ?_⟩, fun z => ⟨fun y => absurd y (by decide), fun _ => ?_⟩⟩
      · rw [if_neg z] at h; exact h
      · rw [if_pos z] at h; exact h
  · rw [if_neg e, if_pos e2] at h
    exact pm_compared (u := true) hL hM hw hk rfl hr hr2 hf hg h
/-! its shape, and a changed row -/
def sj_Ms (La : Nat → Nat) (w : sj_W) : Prop := (sj_T w (La 200) = 6 ∧ sj_A w 40 (La 200) = La 201 ∧ sj_A w 41 (La 200) = La 202 ∧ sj_A w 42 (La 200) = La 203 ∧ sj_A w 43 (La 200) = La 204 ∧ sj_A w 44 (La 200) = La 205 ∧ sj_A w 45 (La 200) = La 206) ∧
  (sj_T w (La 201) = 8 ∧ sj_N w (La 201) = 512) ∧ (sj_T w (La 202) = 7 ∧ sj_N w (La 202) = 16) ∧ (sj_T w (La 203) = 7 ∧ sj_N w (La 203) = 12) ∧ (sj_T w (La 204) = 7 ∧ sj_N w (La 204) = 12) ∧ (sj_T w (La 205) = 7 ∧ sj_N w (La 205) = 12) ∧ (sj_T w (La 206) = 7 ∧ sj_N w (La 206) = 12)
theorem sj_Mo.ms {La : Nat → Nat} {σ : sj_S} {w : sj_W} (h : sj_Mo La σ w) : sj_Ms La w := ⟨h.1, h.2.1, h.2.2.1, h.2.2.2.1, h.2.2.2.2.1, h.2.2.2.2.2.1, h.2.2.2.2.2.2.1⟩
theorem sj_Ms.fr {La : Nat → Nat} {X : Nat → Prop} {w w' : sj_W} (h : sj_Ms La w) (g : sj_fr X w w') : sj_Ms La w' := by
  obtain ⟨⟨a1, a2, a3, a4, a5, a6, a7⟩, ⟨b1, b2⟩, ⟨c1, c2⟩, ⟨d1, d2⟩, ⟨e1, e2⟩, ⟨f1, f2⟩, ⟨g1, g2⟩⟩ := h
  have t0 := g (La 200) (by omega)
  have t1 := g (La 201) (by omega)
  have t2 := g (La 202) (by omega)
  have t3 := g (La 203) (by omega)
  have t4 := g (La 204) (by omega)
  have t5 := g (La 205) (by omega)
  have t6 := g (La 206) (by omega)
  exact ⟨⟨t0.1.trans a1, (t0.2.2.1 _ (by decide)).trans a2, (t0.2.2.1 _ (by decide)).trans a3, (t0.2.2.1 _ (by decide)).trans a4, (t0.2.2.1 _ (by decide)).trans a5, (t0.2.2.1 _ (by decide)).trans a6, (t0.2.2.1 _ (by decide)).trans a7⟩, ⟨t1.1.trans b1, t1.2.1.trans b2⟩, ⟨t2.1.trans c1, t2.2.1.trans c2⟩, ⟨t3.1.trans d1, t3.2.1.trans d2⟩, ⟨t4.1.trans e1, t4.2.1.trans e2⟩, ⟨t5.1.trans f1, t5.2.1.trans f2⟩, ⟨t6.1.trans g1, t6.2.1.trans g2⟩⟩
theorem pm_sizeR {La : Nat → Nat} {w : sj_W} (hL : sj_La La) (m : sj_Ms La w) {a : Int32} {k r n : Nat} (hk : sj_kd a = some k) (hr : r < 4) (hn : sj_i w (La 202) (k * 4 + r) = nI n) {Q : Int32 → sj_W → Prop} (h : Q (nI n) w) : vc_X7_size (La 200) a (nI r) w Q := by
  have hk4 := sj_kd_lt hk
  unfold sj_Ms at m
  refine ⟨m.1.1, by rw [m.1.2.2.1]; exact hL.2 _, pm_kind hk ?_⟩
  have e : (4 * nI k + nI r) = nI (k * 4 + r) := by rw [sj_lits 4, sj_mulI, sj_addI, Nat.mul_comm]
  rw [e]
  simp (disch := omega) only [ne_eq, and_self, not_false_eq_true, not_true_eq_false, true_and, and_true, true_or, or_true, false_or, or_false, forall_eq, forall_const, true_implies, false_implies, if_true, if_false, sj_lits, sj_addI, sj_mulI, sj_clI, sj_inI, sj_ltI, sj_leI, sj_eqI, sj_lcI, m, hL.nz, hn]
  exact ⟨by omega, h⟩
theorem pm_resizeR {La : Nat → Nat} {w : sj_W} (hL : sj_La La) (m : sj_Ms La w) {a : Int32} {k r n : Nat} (hk : sj_kd a = some k) (hr : r < 4) {Q : sj_W → Prop} (h : Q (sj_si w (La 202) (k * 4 + r) (nI n))) : vc_X7_resize (La 200) a (nI r) (nI n) w Q := by
  have hk4 := sj_kd_lt hk
  unfold sj_Ms at m
  refine ⟨m.1.1, by rw [m.1.2.2.1]; exact hL.2 _, pm_kind hk ?_⟩
  have e : (4 * nI k + nI r) = nI (k * 4 + r) := by rw [sj_lits 4, sj_mulI, sj_addI, Nat.mul_comm]
  rw [e]
  simp (disch := omega) only [ne_eq, and_self, not_false_eq_true, not_true_eq_false, true_and, and_true, true_or, or_true, false_or, or_false, forall_eq, forall_const, true_implies, false_implies, if_true, if_false, sj_lits, sj_addI, sj_mulI, sj_clI, sj_inI, sj_ltI, sj_leI, sj_eqI, sj_lcI, m, hL.nz]
  exact ⟨by omega, h⟩
def sj_XR (La : Nat → Nat) : Nat → Prop := fun a => a = La 201 ∨ a = La 202
theorem sj_XR.x {La : Nat → Nat} {w w' : sj_W} (h : sj_fr (sj_XR La) w w') : sj_fr (so_XM La) w w' := h.mono fun a q => q.elim (fun e => ⟨201, by decide, e⟩) (fun e => ⟨202, by decide, e⟩)
theorem sj_XR.i47 {La : Nat → Nat} {w w' : sj_W} (hL : sj_La La) (m : sj_Ms La w) (h : sj_fr (sj_XR La) w w') (f : Nat) : sj_I w' f (La 200) = sj_I w f (La 200) := ((h (La 200) (by rw [m.1.1]; decide)).2.2.2.2 (fun z => z.elim (fun e => by have := hL.1 _ _ e; omega) (fun e => by have := hL.1 _ _ e; omega))).1 f
theorem sj_Mo.row {La : Nat → Nat} {σ : sj_S} {w w' : sj_W} (hL : sj_La La) (hM : sj_Mo La σ w) (hw : sj_wf σ) {k n : Nat} {f : Nat → Int64} (hf : sj_fr (sj_XR La) w w') (hn : sj_i w' (La 202) k = nI n) (hno : ∀ i, i < 16 → i ≠ k → sj_i w' (La 202) i = sj_i w (La 202) i) (hx : ∀ j, j < n → sj_l w' (La 201) (32 * k + j) = f j) (hxo : ∀ i j, i < 16 → i ≠ k → j < 32 → sj_l w' (La 201) (32 * i + j) = sj_l w (La 201) (32 * i + j)) : sj_Mo La (sj_setR σ k n f) w' := by
  have hs := hM.ms.fr hf
  have m := hM.all
  have q3 := (hf (La 203) (by rw [m.2.2.2.1.1]; decide)).2.2.2.2 (by unfold sj_XR; simp only [hL.eq]; omega)
  have q4 := (hf (La 204) (by rw [m.2.2.2.2.1.1]; decide)).2.2.2.2 (by unfold sj_XR; simp only [hL.eq]; omega)
  have q5 := (hf (La 205) (by rw [m.2.2.2.2.2.1.1]; decide)).2.2.2.2 (by unfold sj_XR; simp only [hL.eq]; omega)
  have q6 := (hf (La 206) (by rw [m.2.2.2.2.2.2.1.1]; decide)).2.2.2.2 (by unfold sj_XR; simp only [hL.eq]; omega)
  obtain ⟨a1, b1, c1, d1, e1, f1, g1⟩ := hs
  obtain ⟨_, _, _, _, _, _, _, h1, i1, j1, k1⟩ := hM
  refine ⟨a1, b1, c1, d1, e1, f1, g1, fun i hi => ?_, fun i hi => ⟨(q3.2.2.1 i).trans (i1 i hi).1, (q4.2.2.1 i).trans (i1 i hi).2.1, (q5.2.2.1 i).trans (i1 i hi).2.2⟩, (sj_XR.i47 hL ⟨m.1, m.2.1, m.2.2.1, m.2.2.2.1, m.2.2.2.2.1, m.2.2.2.2.2.1, m.2.2.2.2.2.2.1⟩ hf 46).trans j1, fun j hj => (q6.2.2.1 j).trans (k1 j hj)⟩
  by_cases c : i = k
  · subst c
    have e1 : sj_n (sj_setR σ i n f) i = n := if_pos rfl
    have e2 : sj_x (sj_setR σ i n f) i = f := if_pos rfl
    rw [e1, e2]
    exact ⟨hn, hx⟩
  · have e1 : sj_n (sj_setR σ k n f) i = sj_n σ i := if_neg c
    have e2 : sj_x (sj_setR σ k n f) i = sj_x σ i := if_neg c
    rw [e1, e2]
    have c32 := (hw.1 i hi).1
    exact ⟨(hno i hi c).trans (h1 i hi).1, fun j hj => (hxo i j hi c (by omega)).trans ((h1 i hi).2 j hj)⟩

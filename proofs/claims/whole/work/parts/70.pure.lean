/-! THE REFERENCE: its cells read, its helpers -/
def so_pM {A : Type} (La : Nat → Nat) (w : sj_W) (o : sj_O) (cv : A → Int64) (Q : A → sj_W → Prop) : Prop := ∀ r w', sj_fr (so_XM La) w w' → sj_Mo La o.2.2 w' → sj_I w' 47 (La 200) = nI o.1 → (o.1 = 0 → cv r = o.2.1) → Q r w'
theorem so_g {A : Type} {La : Nat → Nat} {w w' : sj_W} {r : A} {v : Int64} {σ : sj_S} {cv : A → Int64} {Q : A → sj_W → Prop} (h : so_pM La w (0, v, σ) cv Q) (hf : sj_fr (so_XM La) w w') (hM : sj_Mo La σ w') (h47 : sj_I w' 47 (La 200) = nI 0) (hv : cv r = v) : Q r w' := h r w' hf hM h47 (fun _ => hv)
theorem so_XM.i {La : Nat → Nat} {i : Nat} (h : 200 ≤ i) (h2 : i < 210) : so_XM La (La i) := ⟨i, ⟨h, h2⟩, rfl⟩
theorem sj_Mo.all {La : Nat → Nat} {σ : sj_S} {w : sj_W} (h : sj_Mo La σ w) :
    (sj_T w (La 200) = 6 ∧ sj_A w 40 (La 200) = La 201 ∧ sj_A w 41 (La 200) = La 202 ∧ sj_A w 42 (La 200) = La 203 ∧ sj_A w 43 (La 200) = La 204 ∧ sj_A w 44 (La 200) = La 205 ∧ sj_A w 45 (La 200) = La 206) ∧
    (sj_T w (La 201) = 8 ∧ sj_N w (La 201) = 512) ∧ (sj_T w (La 202) = 7 ∧ sj_N w (La 202) = 16) ∧ (sj_T w (La 203) = 7 ∧ sj_N w (La 203) = 12) ∧ (sj_T w (La 204) = 7 ∧ sj_N w (La 204) = 12) ∧ (sj_T w (La 205) = 7 ∧ sj_N w (La 205) = 12) ∧ (sj_T w (La 206) = 7 ∧ sj_N w (La 206) = 12) ∧
    (∀ k, k < 16 → sj_i w (La 202) k = nI (sj_n σ k)) ∧ (∀ k j, k < 16 → j < sj_n σ k → sj_l w (La 201) (32 * k + j) = sj_x σ k j) ∧
    (∀ k, k < 12 → sj_i w (La 203) k = nI (sj_pr σ k)) ∧ (∀ k, k < 12 → sj_i w (La 204) k = nI (sj_pf σ k)) ∧ (∀ k, k < 12 → sj_i w (La 205) k = nI (sj_pt σ k)) ∧
    sj_I w 46 (La 200) = nI (sj_ln σ) ∧ ∀ j, j < sj_ln σ → sj_i w (La 206) j = nI (sj_lx σ j) := by
  obtain ⟨a, b, c, d, e, f, g, h1, i1, j1, k1⟩ := h
  exact ⟨a, b, c, d, e, f, g, fun k hk => (h1 k hk).1, fun k j hk hj => (h1 k hk).2 j hj, fun k hk => (i1 k hk).1, fun k hk => (i1 k hk).2.1, fun k hk => (i1 k hk).2.2, j1, k1⟩
theorem sj_Mo.w47 {La : Nat → Nat} {σ : sj_S} {w : sj_W} (hL : sj_La La) (hM : sj_Mo La σ w) (v : Int32) : sj_Mo La σ (sj_sI w 47 (La 200) v) :=
  hM.fr (X := fun a => a = La 200) (sj_fr.rf.I (Or.inl rfl)) (fun i h1 h2 e => by have := hL.1 _ _ e; omega) (show (if (46 : Nat) = 47 ∧ La 200 = La 200 then v else sj_I w 46 (La 200)) = _ from if_neg (fun z => absurd z.1 (by decide)))
theorem sj_fr.m47 {La : Nat → Nat} {w : sj_W} (v : Int32) : sj_fr (so_XM La) w (sj_sI w 47 (La 200) v) := sj_fr.rf.I (Or.inl (so_XM.i (by decide) (by decide)))
theorem sj_r47 (w : sj_W) (a : Nat) (v : Int32) : sj_I (sj_sI w 47 a v) 47 a = v := if_pos ⟨rfl, rfl⟩
theorem pm_ok {La : Nat → Nat} {σ : sj_S} {w : sj_W} (hL : sj_La La) (hM : sj_Mo La σ w) {X Y : sj_W → Prop} (h : ∀ w', sj_fr (so_XM La) w w' → sj_Mo La σ w' → sj_I w' 47 (La 200) = nI 0 → X w') : sj_T w (La 200) = 6 ∧ vc_X7_fails (La 200) 0 w (fun r w' => (r = 0 → X w') ∧ (¬ r = 0 → Y w')) := by
  refine ⟨hM.1.1, hM.1.1, fun w1 e => ⟨fun _ => ⟨fun _ => ?_, fun z => absurd rfl z⟩, fun z => absurd (by decide) z⟩⟩
  subst e
  exact h _ (sj_fr.m47 _) (hM.w47 hL _) (sj_r47 _ _ _)
theorem pm_ok' {La : Nat → Nat} {σ : sj_S} {w : sj_W} (hL : sj_La La) (hM : sj_Mo La σ w) {X Y : sj_W → Prop} (h : ∀ w', sj_fr (so_XM La) w w' → sj_Mo La σ w' → sj_I w' 47 (La 200) = nI 0 → X w') : sj_T w (La 200) = 6 ∧ vc_X7_fails (La 200) 0 w (fun r w' => (¬ r = 0 → Y w') ∧ (r = 0 → X w')) := by
  refine ⟨hM.1.1, hM.1.1, fun w1 e => ⟨fun _ => ⟨fun z => absurd rfl z, fun _ => ?_⟩, fun z => absurd (by decide) z⟩⟩
  subst e
  exact h _ (sj_fr.m47 _) (hM.w47 hL _) (sj_r47 _ _ _)
theorem pm_no {A : Type} {La : Nat → Nat} {σ : sj_S} {w : sj_W} {cv : A → Int64} {Q : A → sj_W → Prop} {v : Int64} (hL : sj_La La) (hM : sj_Mo La σ w) (c : Nat) (hc0 : 0 < c) (hc : c ≤ 3) (h : so_pM La w (c, v, σ) cv Q) {r0 : A} {X : sj_W → Prop} : sj_T w (La 200) = 6 ∧ vc_X7_fails (La 200) (nI c) w (fun r w' => (r = 0 → X w') ∧ (¬ r = 0 → Q r0 w')) := by
  refine ⟨hM.1.1, hM.1.1, fun w1 e => ⟨fun z => ?_, fun _ => ⟨fun z => absurd z (by decide), fun _ => ?_⟩⟩⟩
  · rw [sj_lits 0, sj_leI (by omega) (by omega)] at z
    omega
  · subst e
    exact h r0 _ (sj_fr.m47 _) (hM.w47 hL _) (sj_r47 _ _ _) (fun z => absurd z (by show ¬ c = 0; omega))
theorem pm_no' {A : Type} {La : Nat → Nat} {σ : sj_S} {w : sj_W} {cv : A → Int64} {Q : A → sj_W → Prop} {v : Int64} (hL : sj_La La) (hM : sj_Mo La σ w) (c : Nat) (hc0 : 0 < c) (hc : c ≤ 3) (h : so_pM La w (c, v, σ) cv Q) {r0 : A} {X : sj_W → Prop} : sj_T w (La 200) = 6 ∧ vc_X7_fails (La 200) (nI c) w (fun r w' => (¬ r = 0 → Q r0 w') ∧ (r = 0 → X w')) := by
  refine ⟨hM.1.1, hM.1.1, fun w1 e => ⟨fun z => ?_, fun _ => ⟨fun _ => ?_, fun z => absurd z (by decide)⟩⟩⟩
  · rw [sj_lits 0, sj_leI (by omega) (by omega)] at z
    omega
  · subst e
    exact h r0 _ (sj_fr.m47 _) (hM.w47 hL _) (sj_r47 _ _ _) (fun z => absurd z (by show ¬ c = 0; omega))
theorem pm_kindOf {a : Int32} {w : sj_W} {Q : Int32 → sj_W → Prop} (h : ∀ k, sj_kd a = some k → k < 4 → Q (nI k) w) (h0 : sj_kd a = none → Q (-1) w) : vc_X7_kindOf a w Q := by
  unfold sj_kd at h h0
  refine ⟨fun e => ⟨fun e2 => ⟨fun e3 => ⟨fun e4 => ?_, fun e4 => ?_⟩, fun e3 => ?_⟩, fun e2 => ?_⟩, fun e => ?_⟩
  · exact h0 (by rw [if_neg e, if_neg e2, if_neg e3, if_neg e4])
  · exact h 3 (by rw [if_neg e, if_neg e2, if_neg e3, if_pos e4]) (by decide)
  · exact h 2 (by rw [if_neg e, if_neg e2, if_pos e3]) (by decide)
  · exact h 1 (by rw [if_neg e, if_pos e2]) (by decide)
  · exact h 0 (by rw [if_pos e]) (by decide)
theorem pm_kind {a : Int32} {k : Nat} (hk : sj_kd a = some k) {w : sj_W} {Q : Int32 → sj_W → Prop} (h : Q (nI k) w) : vc_X7_kindOf a w Q := pm_kindOf (fun k' h1 _ => by rw [hk] at h1; cases h1; exact h) (fun h1 => by rw [hk] at h1; cases h1)
theorem sj_nn0 {k : Nat} (hk : k < 2147483648) : ¬ (nI k < 0) := by
  rw [sj_lits 0, sj_ltI hk (by omega)]
  omega
theorem pm_isKind {a : Int32} {w : sj_W} {Q : Int32 → sj_W → Prop} (h : ∀ k, sj_kd a = some k → k < 4 → Q 1 w) (h0 : sj_kd a = none → Q 0 w) : vc_X7_isKind a w Q :=
  pm_kindOf (fun k hk hk4 => ⟨fun z => absurd z (sj_nn0 (by omega)), fun _ => h k hk hk4⟩) (fun hk => ⟨fun _ => h0 hk, fun z => absurd (by decide) z⟩)
theorem pm_in {a b c : Int64} {w : sj_W} {Q : Int32 → sj_W → Prop} (h : b.toInt ≤ a.toInt → a.toInt ≤ c.toInt → Q 1 w) (h0 : ¬ (b.toInt ≤ a.toInt ∧ a.toInt ≤ c.toInt) → Q 0 w) : vc_X7_in a b c w Q := by
  unfold vc_X7_in
  rw [lg_cmp_lt, lg_cmp_gt, Int64.lt_iff_toInt_lt, Int64.lt_iff_toInt_lt]
  exact ⟨fun q => h0 (by omega), fun q => ⟨fun r => h0 (by omega), fun r => h (by omega) (by omega)⟩⟩
theorem pm_ix {n : Nat} {x : Int32} {b c : Int64} (hb : b.toInt = 0) (hc : c.toInt = (n : Int) - 1) (hn : n < 2147483648) {w : sj_W} {Q : Int32 → sj_W → Prop} (h : ∀ j, sj_ix n x = some j → x = nI j → j < n → Q 1 w) (h0 : sj_ix n x = none → Q 0 w) : vc_X7_in x.toInt64 b c w Q := by
  refine pm_in (fun h1 h2 => ?_) (fun h1 => ?_)
  all_goals rw [Int32.toInt_toInt64, hb, hc] at *
  · cases e : sj_ix n x with
    | none => have := sj_ix_none e; omega
    | some j => exact h j e (sj_ix_some e).1 (sj_ix_some e).2
  · cases e : sj_ix n x with
    | none => exact h0 e
    | some j =>
      obtain ⟨e1, e2⟩ := sj_ix_some e
      have e3 : x.toInt = (j : Int) := by rw [e1, nI_toInt (by omega)]
      omega
theorem pm_isRow {x : Int32} {w : sj_W} {Q : Int32 → sj_W → Prop} (h : ∀ j, sj_ix 4 x = some j → x = nI j → j < 4 → Q 1 w) (h0 : sj_ix 4 x = none → Q 0 w) : vc_X7_isRow x w Q :=
  pm_ix (n := 4) (by decide) (by decide) (by decide) (fun j h1 h2 h3 => ⟨Or.inr rfl, h j h1 h2 h3⟩) (fun e => ⟨Or.inl rfl, h0 e⟩)
theorem pm_isSpan {x : Int32} {w : sj_W} {Q : Int32 → sj_W → Prop} (h : ∀ j, sj_ix 12 x = some j → x = nI j → j < 12 → Q 1 w) (h0 : sj_ix 12 x = none → Q 0 w) : vc_X7_isSpan x w Q :=
  pm_ix (n := 12) (by decide) (by decide) (by decide) (fun j h1 h2 h3 => ⟨Or.inr rfl, h j h1 h2 h3⟩) (fun e => ⟨Or.inl rfl, h0 e⟩)
theorem sj_m1t {n : Nat} (hn : n < 2147483648) : ((nI n - 1).toInt64).toInt = (n : Int) - 1 := by
  rw [Int32.toInt_toInt64]
  cases n with
  | zero => decide
  | succ n =>
    rw [sj_lits 1, sj_m1, nI_toInt (by omega)]
    omega
/-- a place of n ones -/
theorem pm_place {n : Nat} {x : Int32} (hn : n < 2147483648) {w : sj_W} {Q : Int32 → sj_W → Prop} (h : ∀ j, sj_ix n x = some j → x = nI j → j < n → Q 1 w) (h0 : sj_ix n x = none → Q 0 w) : vc_X7_in x.toInt64 0 ((nI n - 1).toInt64) w Q := pm_ix (by decide) (sj_m1t hn) hn h h0
theorem pm_isOf {k : Nat} (hk : k < 4) {x : Int64} {w : sj_W} {Q : Int32 → sj_W → Prop} (h : sj_inK k x → Q 1 w) (h0 : ¬ sj_inK k x → Q 0 w) : vc_X7_isOf (nI k) x w Q := by
  have h1 := Int64.toInt_lt x
  have h2 := Int64.le_toInt x
  have c1 : (-128 : Int64).toInt = -128 := by decide
  have c2 : (127 : Int64).toInt = 127 := by decide
  have c3 : (-32768 : Int64).toInt = -32768 := by decide
  have c4 : (32767 : Int64).toInt = 32767 := by decide
  have c5 : (-2147483648 : Int64).toInt = -2147483648 := by decide
  have c6 : (2147483647 : Int64).toInt = 2147483647 := by decide
  have e : k = 0 ∨ k = 1 ∨ k = 2 ∨ k = 3 := by omega
  unfold sj_inK at h h0
  rcases e with rfl | rfl | rfl | rfl
  · have e3 : sj_half 0 = 128 := rfl
    rw [e3] at h h0
    refine ⟨fun z => absurd z (by decide), fun _ => ⟨fun _ => ⟨fun _ => pm_in (fun y1 y2 => ⟨fun z => absurd z (by decide), fun _ => h (by omega)⟩) (fun y => ⟨fun _ => h0 (by omega), fun z => absurd rfl z⟩), fun z => absurd z (by decide)⟩, fun z => absurd z (by decide)⟩⟩
  · have e3 : sj_half 1 = 32768 := rfl
    rw [e3] at h h0
    refine ⟨fun z => absurd z (by decide), fun _ => ⟨fun _ => ⟨fun z => absurd rfl z, fun _ => pm_in (fun y1 y2 => ⟨fun _ => h (by omega), fun z => absurd z (by decide)⟩) (fun y => ⟨fun z => absurd rfl z, fun _ => pm_in (fun y1 y2 => ⟨fun z => absurd z (by decide), fun _ => h (by omega)⟩) (fun y => ⟨fun _ => h0 (by omega), fun z => absurd rfl z⟩)⟩)⟩, fun z => absurd z (by decide)⟩⟩
  · have e3 : sj_half 2 = 2147483648 := rfl
    rw [e3] at h h0
    refine ⟨fun z => absurd z (by decide), fun _ => ⟨fun z => absurd rfl z, fun _ => pm_in (fun y1 y2 => ⟨fun _ => h (by omega), fun z => absurd z (by decide)⟩) (fun y => ⟨fun z => absurd rfl z, fun _ => ⟨fun _ => pm_in (fun y1 y2 => ⟨fun z => absurd z (by decide), fun _ => h (by omega)⟩) (fun y => ⟨fun _ => h0 (by omega), fun z => absurd rfl z⟩), fun z => absurd z (by decide)⟩⟩)⟩⟩
  · have e3 : sj_half 3 = 9223372036854775808 := rfl
    rw [e3] at h h0
    exact ⟨fun _ => h (by omega), fun z => absurd rfl z⟩
theorem pm_at {a : Int32} {k r j s : Nat} (hk : sj_kd a = some k) {w : sj_W} {Q : Int32 → sj_W → Prop} (h : Q (nI (32 * (k * 4 + r) + j)) w) : vc_X7_at s a (nI r) (nI j) w Q := by
  refine pm_kind hk ?_
  have e : (32 * ((4 * nI k) + nI r)) + nI j = nI (32 * (k * 4 + r) + j) := by rw [sj_lits 32, sj_lits 4, sj_mulI, sj_addI, sj_mulI, sj_addI, Nat.mul_comm 4 k]
  rw [e]
  exact h
theorem pm_size {La : Nat → Nat} {σ : sj_S} {w : sj_W} (hL : sj_La La) (hM : sj_Mo La σ w) {a : Int32} {k r : Nat} (hk : sj_kd a = some k) (hr : r < 4) {Q : Int32 → sj_W → Prop} (h : Q (nI (sj_n σ (k * 4 + r))) w) : vc_X7_size (La 200) a (nI r) w Q := by
  have m := hM.all
  have hk4 := sj_kd_lt hk
  refine ⟨m.1.1, by rw [m.1.2.2.1]; exact hL.2 _, pm_kind hk ?_⟩
  have e : (4 * nI k + nI r) = nI (k * 4 + r) := by rw [sj_lits 4, sj_mulI, sj_addI, Nat.mul_comm]
  rw [e]
  simp (disch := omega) only [ne_eq, and_self, not_false_eq_true, not_true_eq_false, true_and, and_true, true_or, or_true, false_or, or_false, forall_eq, forall_const, true_implies, false_implies, if_true, if_false, sj_lits, sj_addI, sj_mulI, sj_clI, sj_inI, sj_ltI, sj_leI, sj_eqI, sj_lcI, m, hL.nz]
  exact ⟨by omega, h⟩
theorem pm_resize {La : Nat → Nat} {σ : sj_S} {w : sj_W} (hL : sj_La La) (hM : sj_Mo La σ w) {a : Int32} {k r n : Nat} (hk : sj_kd a = some k) (hr : r < 4) {Q : sj_W → Prop} (h : Q (sj_si w (La 202) (k * 4 + r) (nI n))) : vc_X7_resize (La 200) a (nI r) (nI n) w Q := by
  have m := hM.all
  have hk4 := sj_kd_lt hk
  refine ⟨m.1.1, by rw [m.1.2.2.1]; exact hL.2 _, pm_kind hk ?_⟩
  have e : (4 * nI k + nI r) = nI (k * 4 + r) := by rw [sj_lits 4, sj_mulI, sj_addI, Nat.mul_comm]
  rw [e]
  simp (disch := omega) only [ne_eq, and_self, not_false_eq_true, not_true_eq_false, true_and, and_true, true_or, or_true, false_or, or_false, forall_eq, forall_const, true_implies, false_implies, if_true, if_false, sj_lits, sj_addI, sj_mulI, sj_clI, sj_inI, sj_ltI, sj_leI, sj_eqI, sj_lcI, m, hL.nz]
  exact ⟨by omega, h⟩
theorem pm_alike {La : Nat → Nat} {σ : sj_S} {w : sj_W} (hL : sj_La La) (hM : sj_Mo La σ w) (hw : sj_wf σ) {a : Int32} {k r f n r2 g m : Nat} (hk : sj_kd a = some k) (hr : r < 4) (hr2 : r2 < 4) (hf : f + n ≤ sj_n σ (k * 4 + r)) (hg : g + m ≤ sj_n σ (k * 4 + r2)) {Q : Int32 → sj_W → Prop}
    (h : Q (nI (sj_lcp n (fun i => sj_x σ (k * 4 + r) (f + i)) m (fun i => sj_x σ (k * 4 + r2) (g + i)))) w) : vc_X7_alike (La 200) a (nI r) (nI f) (nI n) (nI r2) (nI g) (nI m) w Q := by
  have mm := hM.all
  have hk4 := sj_kd_lt hk
  have c1 := (hw.1 (k * 4 + r) (by omega)).1
  have c2 := (hw.1 (k * 4 + r2) (by omega)).1
  refine sj_lp1_run (fun v w' => w' = w ∧ ∃ i, v = nI i ∧ i ≤ n ∧ i ≤ m ∧ ∀ j, j < i → sj_x σ (k * 4 + r) (f + j) = sj_x σ (k * 4 + r2) (g + j)) (fun v _ => 40 - v.toNatClampNeg) ?_ 64 _ _ ⟨rfl, 0, rfl, Nat.zero_le _, Nat.zero_le _, fun j hj => absurd hj (Nat.not_lt_zero _)⟩ (by omega)
  rintro v w' K ⟨rfl, i, rfl, hi1, hi2, hag⟩ hK
  unfold vb_X7_alike_3
  simp (disch := omega) only [sj_leI, sj_addI]
  refine ⟨fun q => ?_, fun q => ⟨fun q2 => ?_, fun q2 => ⟨mm.1.1, by rw [mm.1.2.1]; exact hL.2 _, mm.1.1, pm_at hk ?_⟩⟩⟩
  · rw [sj_lcp_eq (p := i) ⟨by omega, by omega, hag, fun _ _ => by omega⟩] at h
    exact h
  · rw [sj_lcp_eq (p := i) ⟨by omega, by omega, hag, fun _ _ => by omega⟩] at h
    exact h
  · simp (disch := omega) only [ne_eq, and_self, not_false_eq_true, not_true_eq_false, true_and, and_true, true_or, or_true, false_or, or_false, forall_eq, forall_const, true_implies, false_implies, if_true, if_false, sj_lits, sj_addI, sj_mulI, sj_clI, sj_inI, sj_ltI, sj_leI, sj_eqI, sj_lcI, mm, hL.nz]
    refine ⟨by omega, pm_at hk ?_⟩
    simp (disch := omega) only [ne_eq, and_self, not_false_eq_true, not_true_eq_false, true_and, and_true, true_or, or_true, false_or, or_false, forall_eq, forall_const, true_implies, false_implies, if_true, if_false, sj_lits, sj_addI, sj_mulI, sj_clI, sj_inI, sj_ltI, sj_leI, sj_eqI, sj_lcI, mm, hL.nz]
    refine ⟨by omega, fun z => ?_, fun z => hK _ _ ⟨rfl, i + 1, rfl, by omega, by omega, fun j hj => ?_⟩ ?_⟩
    · rw [sj_lcp_eq (p := i) ⟨by omega, by omega, hag, fun _ _ => z⟩] at h
      exact h
    · rcases Nat.lt_succ_iff_lt_or_eq.mp hj with y | rfl
      · exact hag j y
      · exact z
    · rw [sj_clI (by omega), sj_clI (by omega)]; omega
theorem sj_od_f {a : Int32} (h : sj_od a = some false) : a = 115 := by
  unfold sj_od at h
  split at h
  · assumption
  · split at h <;> cases h
theorem sj_od_t {a : Int32} (h : sj_od a = some true) : a = 117 := by
  unfold sj_od at h
  split at h
  · cases h
  · split at h
    · assumption
    · cases h
theorem sj_keyT (x : Int64) : sj_key true x = if x.toInt < 0 then x.toInt + 18446744073709551616 else x.toInt := by
  have h2 : sj_key true x = (x.toBitVec.toNat : Int) := rfl
  have h3 : x.toInt = x.toBitVec.toInt := rfl
  have h6 := x.toBitVec.isLt
  rw [h2, h3, BitVec.toInt_eq_toNat_cond]
  split <;> split <;> omega
theorem pm_isLess {x y : Int64} {a : Int32} {u : Bool} (hu : sj_od a = some u) {w : sj_W} {Q : Int32 → sj_W → Prop} (h : sj_key u x < sj_key u y → Q 1 w) (h0 : ¬ sj_key u x < sj_key u y → Q 0 w) : vc_X7_isLess x y a w Q := by
  unfold vc_X7_isLess sj_jn1 sj_jn2
  simp only [lg_cmp_ge, Int64.le_iff_toInt_le]
  have z0 : (0 : Int64).toInt = 0 := rfl
  rw [z0]
  cases u with
  | false =>
    have e := sj_od_f hu
    subst e
    have k1 : sj_key false x = x.toInt := rfl
    have k2 : sj_key false y = y.toInt := rfl
    rw [k1, k2] at h h0
    exact ⟨fun _ => ⟨fun q => h0 (by omega), fun q => h (by omega)⟩, fun z => absurd z (by decide)⟩
  | true =>
    have e := sj_od_t hu
    subst e
    rw [sj_keyT, sj_keyT] at h h0
    refine ⟨fun z => absurd rfl z, fun _ => ⟨fun q => ⟨fun r => ⟨fun _ => ⟨fun s => ?_, fun s => ?_⟩, fun s => absurd trivial s⟩, fun r => ⟨fun s => absurd s (by decide), fun _ => ⟨fun s => ?_, fun s => ?_⟩⟩⟩, fun q => ⟨fun r => ⟨fun s => absurd s (by decide), fun _ => ⟨fun s => ?_, fun s => ?_⟩⟩, fun r => ⟨fun _ => ⟨fun s => ?_, fun s => ?_⟩, fun s => absurd trivial s⟩⟩⟩⟩
    · rw [if_neg (by omega), if_neg (by omega)] at h0; exact h0 (by omega)
    · rw [if_neg (by omega), if_neg (by omega)] at h; exact h (by omega)
    · omega
    · have := Int64.toInt_lt x; have := Int64.le_toInt y; rw [if_neg (by omega), if_pos (by omega)] at h; exact h (by omega)
    · have := Int64.toInt_lt y; have := Int64.le_toInt x; rw [if_pos (by omega), if_neg (by omega)] at h0; exact h0 (by omega)
    · omega
    · rw [if_pos (by omega), if_pos (by omega)] at h0; exact h0 (by omega)
    · rw [if_pos (by omega), if_pos (by omega)] at h; exact h (by omega)
theorem pm_compared {La : Nat → Nat} {σ : sj_S} {w : sj_W} (hL : sj_La La) (hM : sj_Mo La σ w) (hw : sj_wf σ) {a o : Int32} {u : Bool} {k r f n r2 g m : Nat} (hk : sj_kd a = some k) (ho : sj_od o = some u) (hr : r < 4) (hr2 : r2 < 4) (hf : f + n ≤ sj_n σ (k * 4 + r)) (hg : g + m ≤ sj_n σ (k * 4 + r2)) {Q : Int32 → sj_W → Prop}
    (h : Q (sj_wc u n (fun i => sj_x σ (k * 4 + r) (f + i)) m (fun i => sj_x σ (k * 4 + r2) (g + i))) w) : vc_X7_compared (La 200) a o (nI r) (nI f) (nI n) (nI r2) (nI g) (nI m) w Q := by
  have mm := hM.all
  have hk4 := sj_kd_lt hk
  have c1 := (hw.1 (k * 4 + r) (by omega)).1
  have c2 := (hw.1 (k * 4 + r2) (by omega)).1
  have hl := sj_lcp_is n (fun i => sj_x σ (k * 4 + r) (f + i)) m (fun i => sj_x σ (k * 4 + r2) (g + i))
  unfold sj_wc at h
  refine ⟨mm.1.1, pm_alike hL hM hw hk hr hr2 hf hg ?_⟩
  generalize sj_lcp n (fun i => sj_x σ (k * 4 + r) (f + i)) m (fun i => sj_x σ (k * 4 + r2) (g + i)) = p at h hl
  obtain ⟨h1, h2, h3, h4⟩ := hl
  have fin : ¬ (p < n ∧ p < m) → ((nI m ≤ nI n → ((nI n ≤ nI m → Q 0 w) ∧ (¬ nI n ≤ nI m → Q 1 w))) ∧ (¬ nI m ≤ nI n → Q (-1) w)) := by
    intro hp
    rw [if_neg hp] at h
    simp (disch := omega) only [sj_leI]
    refine ⟨fun q => ⟨fun q2 => ?_, fun q2 => ?_⟩, fun q => ?_⟩
    · rw [if_pos (by omega)] at h; exact h
    · rw [if_neg (by omega), if_neg (by omega)] at h; exact h
    · rw [if_neg (by omega), if_pos (by omega)] at h; exact h
  simp (disch := omega) only [sj_eqI]
  refine ⟨fun q => fin (by omega), fun q => ⟨fun q2 => ?_, fun q2 => fin (by omega)⟩⟩
  rw [if_pos ⟨by omega, by omega⟩] at h
  simp only [sj_addI]
  refine ⟨mm.1.1, by rw [mm.1.2.1]; exact hL.2 _, mm.1.1, pm_at hk ?_⟩
  simp (disch := omega) only [ne_eq, and_self, not_false_eq_true, not_true_eq_false, true_and, and_true, true_or, or_true, false_or, or_false, forall_eq, forall_const, true_implies, false_implies, if_true, if_false, sj_lits, sj_addI, sj_mulI, sj_clI, sj_inI, sj_ltI, sj_leI, sj_eqI, sj_lcI, mm, hL.nz]
  refine ⟨by omega, pm_at hk ?_⟩
  simp (disch := omega) only [ne_eq, and_self, not_false_eq_true, not_true_eq_false, true_and, and_true, true_or, or_true, false_or, or_false, forall_eq, forall_const, true_implies, false_implies, if_true, if_false, sj_lits, sj_addI, sj_mulI, sj_clI, sj_inI, sj_ltI, sj_leI, sj_eqI, sj_lcI, mm, hL.nz]
  have hne := h4 (by omega) (by omega)
  unfold sj_nc at h
  rw [if_neg hne] at h
  refine ⟨by omega, pm_isLess ho (fun z => ⟨fun y => absurd y (by decide), fun _ => ?_⟩) (fun z => ⟨fun _ => ?_, fun y => absurd rfl y⟩)⟩
  · rw [if_pos z] at h; exact h
  · rw [if_neg z] at h; exact h

/-! numbers as the goals have them -/
theorem sj_lits (n : Nat) : (OfNat.ofNat n : Int32) = nI n := rfl
theorem sj_addI (a b : Nat) : nI a + nI b = nI (a + b) := nI_add a b
theorem sj_mulI (a b : Nat) : nI a * nI b = nI (a * b) := (Int32.ofNat_mul a b).symm
theorem sj_subI {a b : Nat} (h : b ≤ a) : nI a - nI b = nI (a - b) := by
  have e : nI a = nI (a - b) + nI b := by rw [nI_add, Nat.sub_add_cancel h]
  rw [e, Int32.add_sub_cancel]
theorem sj_ltI {a b : Nat} (ha : a < 2147483648) (hb : b < 2147483648) : (nI a < nI b) = (a < b) := propext (nI_ltI ha hb)
theorem sj_leI {a b : Nat} (ha : a < 2147483648) (hb : b < 2147483648) : (nI a ≤ nI b) = (a ≤ b) := propext (nI_leI ha hb)
theorem sj_eqI {a b : Nat} (ha : a < 2147483648) (hb : b < 2147483648) : (nI a = nI b) = (a = b) := propext (nI_eq ha hb)
theorem sj_inI {n N : Nat} (h : n < 2147483648) : vp_in (nI n) N = (n < N) := by
  rw [vp_in_iff, nI_toInt h]
  exact propext ⟨fun q => by omega, fun q => by omega⟩
theorem sj_clI {n : Nat} (h : n < 2147483648) : (nI n).toNatClampNeg = n := nI_clamp h
theorem sj_nn (x : Int32) : (¬ x < nI 0) = (0 ≤ x.toInt) := by
  rw [Int32.lt_iff_toInt_lt]
  exact propext ⟨fun q => by have e : (nI 0).toInt = 0 := rfl; omega, fun q => by have e : (nI 0).toInt = 0 := rfl; omega⟩
/-- an argument against a number -/
theorem sj_ltX (x : Int32) {n : Nat} (h : n < 2147483648) : (x < nI n) = (x.toInt < n) := by rw [Int32.lt_iff_toInt_lt, nI_toInt h]
theorem sj_gtX (x : Int32) {n : Nat} (h : n < 2147483648) : (nI n < x) = ((n : Int) < x.toInt) := by rw [Int32.lt_iff_toInt_lt, nI_toInt h]
theorem sj_leX (x : Int32) {n : Nat} (h : n < 2147483648) : (x ≤ nI n) = (x.toInt ≤ n) := by rw [Int32.le_iff_toInt_le, nI_toInt h]
theorem sj_geX (x : Int32) {n : Nat} (h : n < 2147483648) : (nI n ≤ x) = ((n : Int) ≤ x.toInt) := by rw [Int32.le_iff_toInt_le, nI_toInt h]
theorem sj_lcI (x y : Int64) : (lg_cmp x y = nI 0) = (x = y) := propext (lg_cmp_eq x y)
theorem sj_ix_none' {n : Nat} {x : Int32} (h : sj_ix n x = none) : ¬ (0 ≤ x.toInt ∧ x.toInt < n) := fun q => by have := sj_ix_none h; omega
/-! addresses -/
theorem sj_La.eq {La : Nat → Nat} (h : sj_La La) (i j : Nat) : (La i = La j) = (i = j) := propext ⟨fun q => h.1 i j q, fun q => by rw [q]⟩
theorem sj_La.nz {La : Nat → Nat} (h : sj_La La) (i : Nat) : (La i = 0) = False := propext ⟨fun q => h.2 i q, False.elim⟩
/-- all that a component's cells hold, to be read in goals -/
theorem sj_Cm.all {La : Nat → Nat} {σ : sj_S} {w : sj_W} (h : sj_Cm La σ w) :
    ((sj_T w (La 0) = 5) ∧ (sj_A w 32 (La 0) = La 1) ∧ (sj_A w 33 (La 0) = La 2) ∧ (sj_A w 34 (La 0) = La 3) ∧ (sj_A w 35 (La 0) = La 4)) ∧
    (sj_T w (La 1) = 10 ∧ sj_N w (La 1) = 16 ∧ ∀ k, k < 16 → sj_r w (La 1) k = La (100 + k)) ∧
    (sj_T w (La 2) = 11 ∧ sj_N w (La 2) = 12 ∧ ∀ k, k < 12 → sj_r w (La 2) k = La (140 + k)) ∧
    (sj_T w (La 3) = 7 ∧ sj_N w (La 3) = 12) ∧
    (∀ k, k < 16 → sj_T w (La (100 + k)) = 2) ∧ (∀ k, k < 16 → sj_A w 8 (La (100 + k)) = La (120 + k)) ∧
    (∀ k, k < 16 → sj_T w (La (120 + k)) = 8) ∧ (∀ k, k < 16 → sj_N w (La (120 + k)) = 32) ∧
    (∀ k, k < 12 → sj_T w (La (140 + k)) = 3) ∧
    (∀ k, k < 16 → sj_I w 9 (La (100 + k)) = nI (sj_n σ k)) ∧ (∀ k j, k < 16 → j < sj_n σ k → sj_l w (La (120 + k)) j = sj_x σ k j) ∧
    (∀ k, k < 12 → sj_I w 16 (La (140 + k)) = nI (sj_pr σ k)) ∧ (∀ k, k < 12 → sj_I w 17 (La (140 + k)) = nI (sj_pf σ k)) ∧ (∀ k, k < 12 → sj_I w 18 (La (140 + k)) = nI (sj_pt σ k)) ∧
    sj_I w 36 (La 0) = nI (sj_ln σ) ∧ ∀ j, j < sj_ln σ → sj_i w (La 3) j = nI (sj_lx σ j) := by
  obtain ⟨⟨a1, a2, a3, a4, a5, a6, a7, a8⟩, b1, b2, b3, b4⟩ := h
  exact ⟨a1, a2, a3, a4, fun k hk => (a5 k hk).1, fun k hk => (a5 k hk).2, fun k hk => (a6 k hk).1, fun k hk => (a6 k hk).2, a7, fun k hk => (b1 k hk).1, fun k j hk hj => (b1 k hk).2 j hj, fun k hk => (b2 k hk).1, fun k hk => (b2 k hk).2.1, fun k hk => (b2 k hk).2.2, b3, b4⟩
/-! the component's helpers -/
theorem pc_kindOf {a : Int32} {w : sj_W} {Q : Int32 → sj_W → Prop} {QX : String → sj_W → Prop} (h : ∀ k, sj_kd a = some k → k < 4 → Q (nI k) w) (h0 : sj_kd a = none → QX "java/lang/IllegalArgumentException" w) : vc_X6_kindOf a w Q QX := by
  unfold sj_kd at h h0
  refine ⟨fun e => ?_, fun e => ?_, fun e => ?_, fun e => ?_, fun e => ?_⟩
  · exact h 0 (by rw [if_pos e]) (by decide)
  · subst e; exact h 2 rfl (by decide)
  · subst e; exact h 3 rfl (by decide)
  · subst e; exact h 1 rfl (by decide)
  · exact h0 (by rw [if_neg e.1, if_neg e.2.2.2, if_neg e.2.1, if_neg e.2.2.1])
theorem sj_least_in {k : Nat} (hk : k < 4) (x : Int64) : (¬ lg_cmp x (sj_least k) < 0 ∧ ¬ 0 < lg_cmp x (sj_least k ^^^ -1)) ↔ sj_inK k x := by
  rw [lg_cmp_lt, lg_cmp_gt, Int64.lt_iff_toInt_lt, Int64.lt_iff_toInt_lt]
  have h1 := Int64.toInt_lt x
  have h2 := Int64.le_toInt x
  have e : k = 0 ∨ k = 1 ∨ k = 2 ∨ k = 3 := by omega
  unfold sj_inK
  rcases e with rfl | rfl | rfl | rfl
  · have e1 : (sj_least 0).toInt = -128 := by decide
    have e2 : (sj_least 0 ^^^ -1).toInt = 127 := by decide
    have e3 : sj_half 0 = 128 := rfl
    omega
  · have e1 : (sj_least 1).toInt = -32768 := by decide
    have e2 : (sj_least 1 ^^^ -1).toInt = 32767 := by decide
    have e3 : sj_half 1 = 32768 := rfl
    omega
  · have e1 : (sj_least 2).toInt = -2147483648 := by decide
    have e2 : (sj_least 2 ^^^ -1).toInt = 2147483647 := by decide
    have e3 : sj_half 2 = 2147483648 := rfl
    omega
  · have e1 : (sj_least 3).toInt = -9223372036854775808 := by decide
    have e2 : (sj_least 3 ^^^ -1).toInt = 9223372036854775807 := by decide
    have e3 : sj_half 3 = 9223372036854775808 := rfl
    omega
theorem pc_isNumberOf {k : Nat} (hk : k < 4) {x : Int64} {w : sj_W} {Q : Int32 → sj_W → Prop} (h : sj_inK k x → Q 1 w) (h0 : ¬ sj_inK k x → Q 0 w) : vc_X6_isNumberOf (nI k) x w Q := by
  unfold vc_X6_isNumberOf
  have e := sj_least_in hk x
  rw [sj_inI (by omega), sj_clI (by omega)]
  refine ⟨hk, fun q => h0 fun z => (e.mpr z).1 q, fun q => ⟨hk, fun r => h0 fun z => (e.mpr z).2 r, fun r => h (e.mp ⟨q, r⟩)⟩⟩
theorem pc_wantNumber {k : Nat} (hk : k < 4) {x : Int64} {w : sj_W} {Q : sj_W → Prop} {QX : String → sj_W → Prop} (h : sj_inK k x → Q w) (h0 : ¬ sj_inK k x → QX "java/lang/IllegalArgumentException" w) : vc_X6_wantNumber (nI k) x w Q QX :=
  pc_isNumberOf hk (fun q => ⟨fun _ => h q, fun e => absurd e (by decide)⟩) (fun q => ⟨fun e => absurd rfl e, fun _ => h0 q⟩)
theorem pc_wantPlace {n : Nat} (hn : n < 2147483648) {x : Int32} {w : sj_W} {Q : sj_W → Prop} {QX : String → sj_W → Prop} (h : ∀ j, sj_ix n x = some j → x = nI j → j < n → Q w) (h0 : sj_ix n x = none → QX "java/lang/IndexOutOfBoundsException" w) : vc_X6_wantPlace x (nI n) w Q QX := by
  cases e : sj_ix n x with
  | none =>
    have e1 := sj_ix_neg hn e
    exact ⟨fun _ => h0 e, fun q => ⟨fun r => (e1.elim (fun z => absurd z q) fun z => absurd r (Int32.not_lt.mpr z.2)), fun _ => h0 e⟩⟩
  | some j =>
    have e1 := sj_ix_pos hn e
    obtain ⟨e2, e3⟩ := sj_ix_some e
    exact ⟨fun q => absurd q e1.1, fun q => ⟨fun _ => h j e e2 e3, fun r => absurd e1.2.2 r⟩⟩
theorem pc_wantRow {x : Int32} {w : sj_W} {Q : sj_W → Prop} {QX : String → sj_W → Prop} (h : ∀ j, sj_ix 4 x = some j → x = nI j → j < 4 → Q w) (h0 : sj_ix 4 x = none → QX "java/lang/IndexOutOfBoundsException" w) : vc_X6_wantRow x w Q QX := pc_wantPlace (n := 4) (by decide) h h0
theorem pc_rowOf {La : Nat → Nat} {σ : sj_S} {w : sj_W} (hL : sj_La La) (hC : sj_Cm La σ w) {k : Nat} (hk : k < 4) {x : Int32} {Q : Nat → sj_W → Prop} {QX : String → sj_W → Prop} (h : ∀ j, sj_ix 4 x = some j → j < 4 → Q (La (100 + (k * 4 + j))) w) (h0 : sj_ix 4 x = none → QX "java/lang/IndexOutOfBoundsException" w) : vc_X6_rowOf (La 0) (nI k) x w Q QX := by
  refine pc_wantRow (fun j hj e hlt => ?_) h0
  have a := hC.all
  subst e
  have e : (nI k * 4 + nI j) = nI (k * 4 + j) := by rw [sj_lits 4, sj_mulI, sj_addI]
  rw [e, sj_inI (by omega), sj_clI (by omega)]
  simp (disch := omega) only [ne_eq, and_self, not_false_eq_true, not_true_eq_false, true_and, and_true, true_or, or_true, false_or, or_false, forall_eq, forall_const, true_implies, false_implies, if_true, if_false, sj_lits, sj_addI, sj_mulI, sj_clI, sj_inI, sj_ltI, sj_leI, sj_eqI, sj_lcI, a, hL.nz]
  exact ⟨by omega, h j hj hlt⟩

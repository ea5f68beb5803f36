/-! the component's spans and words -/
theorem pc_spanOf {La : Nat → Nat} {σ : sj_S} {w : sj_W} (hL : sj_La La) (hC : sj_Cm La σ w) {x : Int32} {Q : Nat → sj_W → Prop} {QX : String → sj_W → Prop} (h : ∀ j, sj_ix 12 x = some j → j < 12 → Q (La (140 + j)) w) (h0 : sj_ix 12 x = none → QX "java/lang/IndexOutOfBoundsException" w) : vc_X6_spanOf (La 0) x w Q QX := by
  refine pc_wantPlace (n := 12) (by decide) (Q := fun w => _) (fun j hj e hlt => ?_) h0
  have a := hC.all
  subst e
  simp (disch := omega) only [ne_eq, and_self, not_false_eq_true, not_true_eq_false, true_and, and_true, true_or, or_true, false_or, or_false, forall_eq, forall_const, true_implies, false_implies, if_true, if_false, sj_lits, sj_addI, sj_mulI, sj_clI, sj_inI, sj_ltI, sj_leI, sj_eqI, sj_lcI, a, hL.nz]
  exact ⟨by omega, h j hj hlt⟩
abbrev sj_fit (σ : sj_S) (k j : Nat) : Prop := sj_pt σ j ≤ sj_n σ (k * 4 + sj_pr σ j)
theorem pc_isFitting {La : Nat → Nat} {σ : sj_S} {w : sj_W} (hL : sj_La La) (hC : sj_Cm La σ w) (hw : sj_wf σ) {k j : Nat} (hk : k < 4) (hj : j < 12) {Q : Int32 → sj_W → Prop} (h : sj_fit σ k j → Q 1 w) (h0 : ¬ sj_fit σ k j → Q 0 w) : vc_X6_isFitting (La 0) (nI k) (La (140 + j)) w Q := by
  have a := hC.all
  have b := hw.2.1 j hj
  have c := (hw.1 (k * 4 + sj_pr σ j) (by omega)).1
  unfold vc_X6_isFitting
  simp (disch := omega) only [ne_eq, and_self, not_false_eq_true, not_true_eq_false, true_and, and_true, true_or, or_true, false_or, or_false, forall_eq, forall_const, true_implies, false_implies, if_true, if_false, sj_lits, sj_addI, sj_mulI, sj_clI, sj_inI, sj_ltI, sj_leI, sj_eqI, sj_lcI, a, hL.nz]
  unfold sj_fit at h h0
  exact ⟨by omega, fun q => h0 (by omega), fun q => h (by omega)⟩
/-- a span's word by a kind: its size and its numbers -/
def sj_wn (σ : sj_S) (j : Nat) : Nat := sj_pt σ j - sj_pf σ j
def sj_wx (σ : sj_S) (k j : Nat) : Nat → Int64 := fun i => sj_x σ (k * 4 + sj_pr σ j) (sj_pf σ j + i)
/-- a new word -/
theorem pc_word {w w2 : sj_W} {q r : Nat} {x : Nat → Int64} {f t : Nat} (hq : sj_T w q = 0) (e2 : w2 = sj_nw w q 4 0) (hr : r ≠ 0) (hT : sj_T w r = 8) (hN : sj_N w r ≤ 32) (hft : f ≤ t) (ht : t ≤ sj_N w r) (hx : ∀ j, j < t - f → sj_l w r (f + j) = x j) {Q : sj_W → Prop} (h : ∀ w', sj_fr sj_no w w' → sj_Wo w' q (t - f) x → Q w') : vc_X4_init q r (nI f) (nI t) w2 Q := by
  have hrq : r ≠ q := fun e => by rw [e, hq] at hT; cases hT
  unfold vc_X4_init
  subst e2
  simp only [forall_eq, sj_rd, if_true, true_and]
  refine ⟨hr, h _ ?_ ?_⟩
  · exact (((sj_fr.rf.nw hq).A (Or.inr hq)).I (Or.inr hq)).I (Or.inr hq)
  · refine ⟨by simp only [sj_rd, if_true], r, f, ?_, hr, ?_, ?_, ?_, ?_, ?_, fun j hj => ?_⟩
    · simp [sj_rd]
    · simp [sj_rd, hrq, hT]
    · simp [sj_rd]
    · simp [sj_rd]
      congr 1
      omega
    · simp [sj_rd, hrq]
      omega
    · simp [sj_rd, hrq]
      omega
    · simp [sj_rd, hrq]
      exact hx j hj
theorem pc_wordOf {La : Nat → Nat} {σ : sj_S} {w : sj_W} (hL : sj_La La) (hC : sj_Cm La σ w) (hw : sj_wf σ) {k j : Nat} (hk : k < 4) (hj : j < 12) (hf : sj_fit σ k j) {Q : Nat → sj_W → Prop} (h : ∀ q w', sj_fr sj_no w w' → sj_Wo w' q (sj_wn σ j) (sj_wx σ k j) → Q q w') : vc_X6_wordOf (La 0) (nI k) (La (140 + j)) w Q := by
  intro q hq0 hq w2 e2
  have b := hw.2.1 j hj
  have c := (hw.1 (k * 4 + sj_pr σ j) (by omega)).1
  have a0 := hC.all
  have a := (hC.no (w' := w2) (by rw [e2]; exact sj_fr.rf.nw hq)).all
  unfold sj_fit at hf
  simp (disch := omega) only [ne_eq, and_self, not_false_eq_true, not_true_eq_false, true_and, and_true, true_or, or_true, false_or, or_false, forall_eq, forall_const, true_implies, false_implies, if_true, if_false, sj_lits, sj_addI, sj_mulI, sj_clI, sj_inI, sj_ltI, sj_leI, sj_eqI, sj_lcI, a, hL.nz]
  refine ⟨by omega, pc_word hq e2 (fun z => hL.2 _ z) (a0.2.2.2.2.2.2.1 _ (by omega)) (by simp (disch := omega) only [ne_eq, and_self, not_false_eq_true, not_true_eq_false, true_and, and_true, true_or, or_true, false_or, or_false, forall_eq, forall_const, true_implies, false_implies, if_true, if_false, sj_lits, sj_addI, sj_mulI, sj_clI, sj_inI, sj_ltI, sj_leI, sj_eqI, sj_lcI, a0]; omega) b.2.1 (by simp (disch := omega) only [ne_eq, and_self, not_false_eq_true, not_true_eq_false, true_and, and_true, true_or, or_true, false_or, or_false, forall_eq, forall_const, true_implies, false_implies, if_true, if_false, sj_lits, sj_addI, sj_mulI, sj_clI, sj_inI, sj_ltI, sj_leI, sj_eqI, sj_lcI, a0]; omega) (fun i hi => ?_) (fun w' h1 h2 => h q w' h1 h2)⟩
  exact a0.2.2.2.2.2.2.2.2.2.2.1 _ _ (by omega) (by omega)
theorem pc_fittingWord {La : Nat → Nat} {σ : sj_S} {w : sj_W} (hL : sj_La La) (hC : sj_Cm La σ w) (hw : sj_wf σ) {k j : Nat} (hk : k < 4) (hj : j < 12) {Q : Nat → sj_W → Prop} {QX : String → sj_W → Prop} (h : ∀ q w', sj_fit σ k j → sj_fr sj_no w w' → sj_Wo w' q (sj_wn σ j) (sj_wx σ k j) → Q q w') (h0 : ¬ sj_fit σ k j → QX "java/lang/IllegalStateException" w) : vc_X6_fittingWord (La 0) (nI k) (La (140 + j)) w Q QX := by
  refine ⟨hC.all.1.1, pc_isFitting hL hC hw hk hj (fun hf => ⟨fun _ => ⟨hC.all.1.1, pc_wordOf hL hC hw hk hj hf (fun q w' => h q w' hf)⟩, fun e => absurd e (by decide)⟩) (fun hf => ⟨fun e => absurd rfl e, fun _ => h0 hf⟩)⟩
theorem pc_size {w : sj_W} {q n : Nat} {x : Nat → Int64} (h : sj_Wo w q n x) {Q : Int32 → sj_W → Prop} (hQ : Q (nI n) w) : vc_X4_size q w Q := by
  obtain ⟨h0, a, f, h1, h2, h3, h4, h5, h6, h7, h8⟩ := h
  refine ⟨h0, h0, ?_⟩
  rw [h4, h5, sj_subI (by omega), Nat.add_sub_cancel_left]
  exact hQ
theorem pc_at {w : sj_W} {q n : Nat} {x : Nat → Int64} (h : sj_Wo w q n x) {i : Nat} (hi : i < n) {Q : Int64 → sj_W → Prop} (hQ : Q (x i) w) : vc_X4_at q (nI i) w Q := by
  obtain ⟨h0, a, f, h1, h2, h3, h4, h5, h6, h7, h8⟩ := h
  unfold vc_X4_at
  rw [← h8 i hi] at hQ
  simp (disch := omega) only [ne_eq, and_self, not_false_eq_true, not_true_eq_false, true_and, and_true, true_or, or_true, false_or, or_false, forall_eq, forall_const, true_implies, false_implies, if_true, if_false, sj_lits, sj_addI, sj_mulI, sj_clI, sj_inI, sj_ltI, sj_leI, sj_eqI, sj_lcI, h0, h1, h2, h3, h4]
  exact ⟨by omega, hQ⟩
theorem sj_Wo.le {w : sj_W} {q n : Nat} {x : Nat → Int64} (h : sj_Wo w q n x) : n ≤ 32 := by
  obtain ⟨h0, a, f, h1, h2, h3, h4, h5, h6, h7, h8⟩ := h
  omega
theorem sj_Wo.T {w : sj_W} {q n : Nat} {x : Nat → Int64} (h : sj_Wo w q n x) : sj_T w q = 4 := h.1
theorem pc_alike {w : sj_W} {a b n m : Nat} {f g : Nat → Int64} (ha : sj_Wo w a n f) (hb : sj_Wo w b m g) {Q : Int32 → sj_W → Prop} (hQ : Q (nI (sj_lcp n f m g)) w) : vc_X6_alike a b w Q := by
  have ha32 := ha.le
  have hb32 := hb.le
  refine ⟨ha.1, pc_size ha ⟨hb.1, pc_size hb ?_⟩⟩
  have e : (if nI m < nI n then nI m else nI n) = nI (min n m) := by
    by_cases c : m < n
    · rw [if_pos (by rw [sj_ltI (by omega) (by omega)]; exact c)]; congr 1; omega
    · rw [if_neg (by rw [sj_ltI (by omega) (by omega)]; exact c)]; congr 1; omega
  rw [e]
  refine sj_lp1_run (fun v w' => w' = w ∧ ∃ i, v = nI i ∧ i ≤ min n m ∧ ∀ j, j < i → f j = g j) (fun v _ => 40 - v.toNatClampNeg) ?_ 64 _ _ ⟨rfl, 0, rfl, Nat.zero_le _, fun j hj => absurd hj (Nat.not_lt_zero _)⟩ (by omega)
  rintro v w' K ⟨rfl, i, rfl, hi, hag⟩ hK
  unfold vb_X6_alike_14
  simp (disch := omega) only [ne_eq, and_self, not_false_eq_true, not_true_eq_false, true_and, and_true, true_or, or_true, false_or, or_false, forall_eq, forall_const, true_implies, false_implies, if_true, if_false, sj_lits, sj_addI, sj_mulI, sj_clI, sj_inI, sj_ltI, sj_leI, sj_eqI, sj_lcI, ]
  refine ⟨fun q => ?_, fun q => ⟨ha.1, pc_at ha (by omega) ⟨hb.1, pc_at hb (by omega) ?_⟩⟩⟩
  · have e2 : sj_lcp n f m g = i := sj_lcp_eq ⟨by omega, by omega, hag, fun _ _ => by omega⟩
    rw [e2] at hQ; exact hQ
  · refine ⟨fun r => ?_, fun r => ?_⟩
    · have e2 : sj_lcp n f m g = i := sj_lcp_eq ⟨by omega, by omega, hag, fun _ _ => r⟩
      rw [e2] at hQ; exact hQ
    · refine hK _ _ ⟨rfl, i + 1, rfl, by omega, fun j hj => ?_⟩ ?_
      · rcases Nat.lt_succ_iff_lt_or_eq.mp hj with z | rfl
        · exact hag j z
        · exact r
      · rw [sj_clI (by omega), sj_clI (by omega)]; omega
theorem sj_c01 (a : Nat) (b : Bool) : (nI (if b then 1 else 0) = nI 0) = (b = false) := by cases b <;> simp <;> decide
theorem pc_isSame {w : sj_W} {a b n m : Nat} {f g : Nat → Int64} (ha : sj_Wo w a n f) (hb : sj_Wo w b m g) {Q : Int32 → sj_W → Prop} (h1 : n = m ∧ sj_lcp n f m g = n → Q (nI 1) w) (h0 : ¬ (n = m ∧ sj_lcp n f m g = n) → Q (nI 0) w) : vc_X6_isSame a b w Q := by
  have ha32 := ha.le
  have hb32 := hb.le
  have hl := sj_lcp_is n f m g
  have hl1 := hl.1
  unfold vc_X6_isSame
  refine ⟨ha.1, pc_size ha ⟨hb.1, pc_size hb ⟨fun q => ?_, fun q => pc_alike ha hb ⟨ha.1, pc_size ha ⟨fun r => ?_, fun r => ?_⟩⟩⟩⟩⟩
  all_goals simp (disch := omega) only [sj_eqI] at q
  · exact h0 (fun z => q z.1)
  · simp (disch := omega) only [sj_eqI] at r
    exact h0 (fun z => r z.2)
  · simp (disch := omega) only [sj_eqI] at r
    exact h1 ⟨q, r⟩
/-- a flag -/
def sj_b (b : Bool) : Int32 := if b then nI 1 else nI 0
theorem sj_b1 : sj_b true = nI 1 := rfl
theorem sj_b0 : sj_b false = nI 0 := rfl
theorem pc_compareNumbers {x y : Int64} {u : Bool} {w : sj_W} {Q : Int32 → sj_W → Prop} (h : Q (sj_nc u x y) w) : vc_X6_compareNumbers x y (sj_b u) w Q := by
  unfold vc_X6_compareNumbers sj_jn1
  have key : ∀ a b : Int64, (a = b ↔ x = y) → (a.toInt < b.toInt ↔ sj_key u x < sj_key u y) → ((¬ (lg_cmp a b) = 0 → ((0 ≤ (lg_cmp a b) → Q 1 w) ∧ (¬ 0 ≤ (lg_cmp a b) → Q (-1) w))) ∧ ((lg_cmp a b) = 0 → Q 0 w)) := by
    intro a b h1 h2
    rw [lg_cmp_eq, lg_cmp_ge, h1]
    unfold sj_nc at h
    refine ⟨fun q => ⟨fun r => ?_, fun r => ?_⟩, fun q => ?_⟩
    · rw [if_neg q, if_neg (fun z => by have := Int64.le_iff_toInt_le.mp r; have := h2.mpr z; omega)] at h; exact h
    · rw [if_neg q, if_pos (h2.mp (Int.not_le.mp (fun z => r (Int64.le_iff_toInt_le.mpr z))))] at h; exact h
    · rw [if_pos q] at h; exact h
  cases u with
  | false =>
    refine ⟨fun _ => ⟨fun _ => key x y Iff.rfl Iff.rfl, fun q => absurd rfl q⟩, fun q => absurd rfl q⟩
  | true =>
    refine ⟨fun q => absurd q (by decide), fun _ => ⟨fun q => absurd q (by decide), fun _ => key _ _ ⟨fun z => ?_, fun z => by rw [z]⟩ ?_⟩⟩
    · refine sj_key_inj (u := true) ?_
      have e1 := sj_top x
      have e2 := sj_top y
      rw [z] at e1
      omega
    · rw [sj_top, sj_top]
      omega
theorem sj_lN_key {n : Nat} (h : n < 2147483648) : sj_key false (nI n).toInt64 = (n : Int) := by
  unfold sj_key
  rw [if_neg (by decide), Int32.toInt_toInt64, nI_toInt h]
theorem sj_nc_n {n m : Nat} (hn : n < 2147483648) (hm : m < 2147483648) : sj_nc false (nI n).toInt64 (nI m).toInt64 = if n = m then nI 0 else if n < m then -nI 1 else nI 1 := by
  unfold sj_nc
  rw [sj_lN_key hn, sj_lN_key hm]
  by_cases c : n = m
  · subst c; simp
  · rw [if_neg c, if_neg (fun z => c (by have e1 := sj_lN_key hn; have e2 := sj_lN_key hm; rw [z] at e1; omega))]
    simp
theorem pc_compareWords {w : sj_W} {a b n m : Nat} {f g : Nat → Int64} {u : Bool} (ha : sj_Wo w a n f) (hb : sj_Wo w b m g) {Q : Int32 → sj_W → Prop} (h : Q (sj_wc u n f m g) w) : vc_X6_compareWords a b (sj_b u) w Q := by
  have ha32 := ha.le
  have hb32 := hb.le
  have hl := sj_lcp_is n f m g
  have hl1 := hl.1
  have hl2 := hl.2.1
  unfold sj_wc at h
  refine pc_alike ha hb ⟨ha.1, pc_size ha ⟨fun q => ⟨ha.1, pc_size ha ⟨hb.1, pc_size hb ?_⟩⟩, fun q => ⟨hb.1, pc_size hb ⟨fun r => ⟨ha.1, pc_size ha ⟨hb.1, pc_size hb ?_⟩⟩, fun r => ⟨ha.1, pc_at ha ?_ ⟨hb.1, pc_at hb ?_ (pc_compareNumbers ?_)⟩⟩⟩⟩⟩⟩
  all_goals simp (disch := omega) only [sj_leI] at q
  · rw [if_neg (by omega), ← sj_nc_n (by omega) (by omega)] at h
    exact pc_compareNumbers (u := false) h
  all_goals simp (disch := omega) only [sj_leI] at r
  · rw [if_neg (by omega), ← sj_nc_n (by omega) (by omega)] at h
    exact pc_compareNumbers (u := false) h
  · omega
  · omega
  · rw [if_pos (by omega)] at h
    exact h
theorem pc_mismatch {w : sj_W} {a b n m : Nat} {f g : Nat → Int64} (ha : sj_Wo w a n f) (hb : sj_Wo w b m g) {Q : Int32 → sj_W → Prop} (h : Q (if n = m ∧ sj_lcp n f m g = n then -nI 1 else nI (sj_lcp n f m g)) w) : vc_X6_mismatch a b w Q := by
  have ha32 := ha.le
  have hb32 := hb.le
  have hl := sj_lcp_is n f m g
  have hl1 := hl.1
  have hl2 := hl.2.1
  refine pc_alike ha hb ⟨ha.1, pc_size ha ⟨fun q => ?_, fun q => ⟨hb.1, pc_size hb ⟨fun r => ?_, fun r => ?_⟩⟩⟩⟩
  all_goals simp (disch := omega) only [sj_eqI] at q
  · rw [if_neg (fun z => q z.2)] at h
    exact h
  all_goals simp (disch := omega) only [sj_eqI] at r
  · rw [if_neg (by omega)] at h
    exact h
  · rw [if_pos (by omega)] at h
    exact h
/-- what asks() answers: c = 101 e, 99 c, 117 u, 109 m -/
def sj_ans (c : Int32) (n : Nat) (f : Nat → Int64) (m : Nat) (g : Nat → Int64) : Int32 := if c = 99 then sj_wc false n f m g else if c = 117 then sj_wc true n f m g else if c = 101 then (if n = m ∧ sj_lcp n f m g = n then nI 1 else nI 0) else (if n = m ∧ sj_lcp n f m g = n then -nI 1 else nI (sj_lcp n f m g))
theorem pc_answer {w : sj_W} {a b n m : Nat} {f g : Nat → Int64} {c : Int32} (ha : sj_Wo w a n f) (hb : sj_Wo w b m g) {Q : Int32 → sj_W → Prop} (h : Q (sj_ans c n f m g) w) : vc_X6_answer c a b w Q := by
  unfold sj_ans at h
  refine ⟨fun e => ?_, fun e => ?_, fun e => ?_, fun e => ?_⟩
  · subst e
    exact pc_compareWords (u := false) ha hb h
  · subst e
    rw [if_neg (by decide), if_neg (by decide), if_pos rfl] at h
    refine pc_isSame ha hb (fun q => ⟨fun z => absurd z (by decide), fun _ => ?_⟩) (fun q => ⟨fun _ => ?_, fun z => absurd rfl z⟩)
    · rw [if_pos q] at h; exact h
    · rw [if_neg q] at h; exact h
  · subst e
    rw [if_neg (by decide), if_pos rfl] at h
    exact pc_compareWords (u := true) ha hb h
  · rw [if_neg e.1, if_neg e.2.2, if_neg e.2.1] at h
    exact pc_mismatch ha hb h
abbrev sj_isq (a : Int32) : Prop := a = 101 ∨ a = 99 ∨ a = 117 ∨ a = 109
theorem pc_wantQuestion {a : Int32} {w : sj_W} {Q : sj_W → Prop} {QX : String → sj_W → Prop} (h : sj_isq a → Q w) (h0 : ¬ sj_isq a → QX "java/lang/IllegalArgumentException" w) : vc_X6_wantQuestion a w Q QX :=
  ⟨fun e => h (Or.inl e), fun e1 => ⟨fun e => h (Or.inr (Or.inl e)), fun e2 => ⟨fun e => h (Or.inr (Or.inr (Or.inl e))), fun e3 => ⟨fun e => h (Or.inr (Or.inr (Or.inr e))), fun e4 => h0 (fun z => z.elim e1 fun z => z.elim e2 fun z => z.elim e3 e4)⟩⟩⟩⟩
theorem pc_isUnsigned {a : Int32} {w : sj_W} {Q : Int32 → sj_W → Prop} {QX : String → sj_W → Prop} (h : ∀ u, sj_od a = some u → Q (sj_b u) w) (h0 : sj_od a = none → QX "java/lang/IllegalArgumentException" w) : vc_X6_isUnsigned a w Q QX := by
  unfold sj_od at h h0
  refine ⟨fun e => ⟨fun _ => h false (by rw [if_pos e]), fun e2 => by subst e; exact absurd e2 (by decide)⟩, fun e => ⟨fun e2 => ⟨fun z => absurd e2 z, fun _ => h true (by rw [if_neg e, if_pos e2])⟩, fun e2 => h0 (by rw [if_neg e, if_neg e2])⟩⟩

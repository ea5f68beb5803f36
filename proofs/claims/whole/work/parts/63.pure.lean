/-! share -/
def sj_smB (σ : sj_S) (k j i : Nat) : Bool := decide (sj_fit σ k i ∧ sj_sw σ k false i j = nI 0)
theorem sj_same_iff {n m : Nat} {f g : Nat → Int64} : (n = m ∧ sj_lcp n f m g = n) ↔ sj_weq n f m g := by
  constructor
  · rintro ⟨e, h⟩
    have hl := sj_lcp_is n f m g
    rw [h] at hl
    exact ⟨e, hl.2.2.1⟩
  · rintro ⟨rfl, h⟩
    exact ⟨rfl, sj_lcp_eq ⟨Nat.le_refl _, Nat.le_refl _, h, fun z _ => absurd z (Nat.lt_irrefl _)⟩⟩
theorem sj_cnt_mono {p q : Nat → Bool} (h : ∀ i, p i = true → q i = true) : ∀ n, sj_cnt p n ≤ sj_cnt q n
  | 0 => Nat.le_refl _
  | n + 1 => by
    have := sj_cnt_mono h n
    unfold sj_cnt
    by_cases c : p n = true
    · rw [if_pos c, if_pos (h n c)]; omega
    · rw [if_neg c]; omega
def sj_ps (σ : sj_S) (k : Nat) : Nat → Nat := sj_sum (fun i => if sj_fitB σ k i = true then sj_cnt (sj_fitB σ k) i else 0)
def sj_ss (σ : sj_S) (k : Nat) : Nat → Nat := sj_sum (fun i => if sj_fitB σ k i = true then sj_cnt (sj_smB σ k i) i else 0)
theorem sj_ps_c (σ : sj_S) (k : Nat) : ∀ m, 2 * sj_ps σ k m = sj_cnt (sj_fitB σ k) m * (sj_cnt (sj_fitB σ k) m - 1)
  | 0 => rfl
  | m + 1 => by
    have ih := sj_ps_c σ k m
    have e : sj_ps σ k (m + 1) = sj_ps σ k m + (if sj_fitB σ k m = true then sj_cnt (sj_fitB σ k) m else 0) := rfl
    have e2 : sj_cnt (sj_fitB σ k) (m + 1) = sj_cnt (sj_fitB σ k) m + (if sj_fitB σ k m = true then 1 else 0) := rfl
    rw [e, e2]
    by_cases c : sj_fitB σ k m = true
    · rw [if_pos c, if_pos c, Nat.add_sub_cancel, Nat.mul_add, ih]
      generalize sj_cnt (sj_fitB σ k) m = x
      cases x with
      | zero => rfl
      | succ x =>
        rw [Nat.add_sub_cancel, Nat.mul_comm (x + 1) x, ← Nat.add_mul]
    · rw [if_neg c, if_neg c, Nat.add_zero, Nat.add_zero]
      exact ih
theorem sj_ps_le (σ : sj_S) (k m : Nat) (hm : m ≤ 12) : sj_ps σ k m ≤ 66 := by
  have h := sj_ps_c σ k m
  have h2 := sj_cnt_le (sj_fitB σ k) m
  have h3 : sj_cnt (sj_fitB σ k) m * (sj_cnt (sj_fitB σ k) m - 1) ≤ 12 * 11 := Nat.mul_le_mul (by omega) (by omega)
  omega
theorem sj_ss_le (σ : sj_S) (k : Nat) : ∀ m, sj_ss σ k m ≤ sj_ps σ k m
  | 0 => Nat.le_refl _
  | m + 1 => by
    have ih := sj_ss_le σ k m
    have e : sj_ps σ k (m + 1) = sj_ps σ k m + (if sj_fitB σ k m = true then sj_cnt (sj_fitB σ k) m else 0) := rfl
    have e2 : sj_ss σ k (m + 1) = sj_ss σ k m + (if sj_fitB σ k m = true then sj_cnt (sj_smB σ k m) m else 0) := rfl
    rw [e, e2]
    have h : sj_cnt (sj_smB σ k m) m ≤ sj_cnt (sj_fitB σ k) m := sj_cnt_mono (fun i hi => decide_eq_true (of_decide_eq_true hi).1) m
    by_cases c : sj_fitB σ k m = true
    · rw [if_pos c, if_pos c]; omega
    · rw [if_neg c, if_neg c]; exact ih
def sj_shq (a b : Nat) : UInt32 := FP.fdiv (FP.i2f (nI a)) (FP.i2f (nI b))
def sj_cf (x : UInt32) : Int64 := x.toUInt64.toInt64
theorem sj_cf_inj {x y : UInt32} (h : sj_cf x = sj_cf y) : x = y := by
  have h1 : x.toUInt64.toNat = y.toUInt64.toNat := congrArg (fun z : Int64 => z.toUInt64.toNat) h
  rw [UInt32.toNat_toUInt64, UInt32.toNat_toUInt64] at h1
  exact UInt32.toNat_inj.mp h1
theorem sj_shq_ok0 : ∀ b, b < 66 → ∀ a, a ≤ b + 1 → sj_shq a (b + 1) &&& 0x7fffffff ≤ 0x7f800000 ∧ FP.f2d (sj_shq a (b + 1)) &&& 0x7fffffffffffffff ≤ 0x7ff0000000000000 := by decide +kernel
theorem sj_shq_ok {a b : Nat} (h0 : b ≠ 0) (hb : b ≤ 66) (ha : a ≤ b) : vf_n32 (sj_shq a b) ∧ vf_n64 (FP.f2d (sj_shq a b)) := by
  obtain ⟨c, rfl⟩ : ∃ c, b = c + 1 := ⟨b - 1, by omega⟩
  exact sj_shq_ok0 c (by omega) a ha
def ab_share (σ : sj_S) (a1 : Int32) : sj_O := match sj_kd a1 with
  | none => (1, 0, σ)
  | some k => if sj_ps σ k 12 = 0 then (2, 0, σ) else (0, sj_cf (sj_shq (sj_ss σ k 12) (sj_ps σ k 12)), σ)
theorem pc_fittingAhead {La : Nat → Nat} {σ : sj_S} {w : sj_W} (hL : sj_La La) (hC : sj_Cm La σ w) (hw : sj_wf σ) {k m : Nat} (hk : k < 4) (hm : m < 12) {Q : Int32 → sj_W → Prop} (h : Q (nI (sj_cnt (sj_fitB σ k) m)) w) : vc_X6_fittingAhead (La 0) (nI k) (nI m) w Q := by
  have a := hC.all
  refine sj_lp2_run (fun v3 v4 w' => w' = w ∧ ∃ i, v4 = nI i ∧ i ≤ m ∧ v3 = nI (sj_cnt (sj_fitB σ k) i)) (fun _ v _ => 13 - v.toNatClampNeg) ?_ 64 _ _ _ ⟨rfl, 0, rfl, by omega, rfl⟩ (by omega)
  rintro v3 v4 w' K ⟨rfl, i, rfl, hi, rfl⟩ hK
  unfold vb_X6_fittingAhead_5
  simp (disch := omega) only [ne_eq, and_self, not_false_eq_true, not_true_eq_false, true_and, and_true, true_or, or_true, false_or, or_false, forall_eq, forall_const, true_implies, false_implies, if_true, if_false, sj_lits, sj_addI, sj_mulI, sj_clI, sj_inI, sj_ltI, sj_leI, sj_eqI, sj_lcI, a, hL.nz]
  refine ⟨fun q => ?_, fun q => ?_⟩
  · have e : i = m := by omega
    subst e
    exact h
  · have hi12 : i < 12 := by omega
    have step : ∀ b, sj_fitB σ k i = b → K (nI (sj_cnt (sj_fitB σ k) i + (if b then 1 else 0))) (nI (i + 1)) w' := by
      intro b0 h3
      refine hK _ _ _ ⟨rfl, i + 1, rfl, by omega, by rw [← h3]; rfl⟩ ?_
      rw [sj_clI (by omega), sj_clI (by omega)]
      omega
    exact ⟨by omega, pc_isFitting hL hC hw hk hi12 (fun hf => ⟨fun e => absurd e (by decide), fun _ => step true (decide_eq_true hf)⟩) (fun hf => ⟨fun _ => step false (decide_eq_false hf), fun e => absurd rfl e⟩)⟩
theorem pc_sameAhead {La : Nat → Nat} {σ : sj_S} {w : sj_W} (hL : sj_La La) (hC : sj_Cm La σ w) (hw : sj_wf σ) {k m : Nat} (hk : k < 4) (hm : m < 12) (hfm : sj_fit σ k m) {Q : Int32 → sj_W → Prop} (h : ∀ w', sj_fr sj_no w w' → Q (nI (sj_cnt (sj_smB σ k m) m)) w') : vc_X6_sameAhead (La 0) (nI k) (nI m) w Q := by
  have a := hC.all
  unfold vc_X6_sameAhead
  simp (disch := omega) only [ne_eq, and_self, not_false_eq_true, not_true_eq_false, true_and, and_true, true_or, or_true, false_or, or_false, forall_eq, forall_const, true_implies, false_implies, if_true, if_false, sj_lits, sj_addI, sj_mulI, sj_clI, sj_inI, sj_ltI, sj_leI, sj_eqI, sj_lcI, a, hL.nz]
  refine ⟨by omega, pc_wordOf hL hC hw hk hm hfm (fun p w1 hw1 hp => ?_)⟩
  refine sj_lp2_run (fun v4 v5 w' => ∃ i, v5 = nI i ∧ i ≤ m ∧ v4 = nI (sj_cnt (sj_smB σ k m) i) ∧ sj_fr sj_no w w' ∧ sj_Wo w' p (sj_wn σ m) (sj_wx σ k m)) (fun _ v _ => 13 - v.toNatClampNeg) ?_ 14 _ _ _ ⟨0, rfl, by omega, rfl, hw1, hp⟩ (by omega)
  rintro v4 v5 w' K ⟨i, rfl, hi, rfl, hfr, hp'⟩ hK
  have hC' := hC.no hfr
  have b := hC'.all
  unfold vb_X6_sameAhead_18
  simp (disch := omega) only [ne_eq, and_self, not_false_eq_true, not_true_eq_false, true_and, and_true, true_or, or_true, false_or, or_false, forall_eq, forall_const, true_implies, false_implies, if_true, if_false, sj_lits, sj_addI, sj_mulI, sj_clI, sj_inI, sj_ltI, sj_leI, sj_eqI, sj_lcI, b, hL.nz]
  refine ⟨fun q => ?_, fun q => ?_⟩
  · have e : i = m := by omega
    subst e
    exact h w' hfr
  · have hi12 : i < 12 := by omega
    have step : ∀ w2 b, sj_fr sj_no w w2 → sj_Wo w2 p (sj_wn σ m) (sj_wx σ k m) → sj_smB σ k m i = b → K (nI (sj_cnt (sj_smB σ k m) i + (if b then 1 else 0))) (nI (i + 1)) w2 := by
      intro w2 b0 h1 h2 h3
      refine hK _ _ _ ⟨i + 1, rfl, by omega, by rw [← h3]; rfl, h1, h2⟩ ?_
      rw [sj_clI (by omega), sj_clI (by omega)]
      omega
    refine ⟨by omega, pc_isFitting hL hC' hw hk hi12 (fun hf => ⟨fun e => absurd e (by decide), fun _ => ?_⟩) (fun hf => ⟨fun _ => step w' false hfr hp' (decide_eq_false fun y => hf y.1), fun e => absurd rfl e⟩)⟩
    simp (disch := omega) only [ne_eq, and_self, not_false_eq_true, not_true_eq_false, true_and, and_true, true_or, or_true, false_or, or_false, forall_eq, forall_const, true_implies, false_implies, if_true, if_false, sj_lits, sj_addI, sj_mulI, sj_clI, sj_inI, sj_ltI, sj_leI, sj_eqI, sj_lcI, b, hL.nz]
    refine ⟨by omega, pc_wordOf hL hC' hw hk hi12 hf (fun p2 w2 hw2 hp2 => pc_isSame hp2 (hp'.no hw2) (fun z => ?_) (fun z => ?_))⟩
    · exact ⟨fun y => absurd y (by decide), fun _ => step w2 true (hfr.trans hw2) (hp'.no hw2) (decide_eq_true ⟨hf, sj_wc0.mpr (sj_same_iff.mp z)⟩)⟩
    · exact ⟨fun _ => step w2 false (hfr.trans hw2) (hp'.no hw2) (decide_eq_false fun y => z (sj_same_iff.mpr (sj_wc0.mp y.2))), fun y => absurd rfl y⟩
theorem pc_share {La : Nat → Nat} {σ : sj_S} {w : sj_W} (hL : sj_La La) (hC : sj_Cm La σ w) (hw : sj_wf σ) {a1 : Int32} {Q : UInt32 → sj_W → Prop} {QX : String → sj_W → Prop} (h : so_pX La w (ab_share σ a1) sj_en3 sj_cf Q QX) : vc_X6_share (La 0) a1 w Q QX := by
  have a := hC.all
  unfold ab_share at h
  refine pc_kindOf (fun k hk hk4 => ?_) (fun hk => ?_)
  · simp only [hk] at h
    refine sj_lp3_run (fun v3 v4 v5 w' => ∃ i, v5 = nI i ∧ i ≤ 12 ∧ v3 = nI (sj_ps σ k i) ∧ v4 = nI (sj_ss σ k i) ∧ sj_fr sj_no w w') (fun _ _ v _ => 13 - v.toNatClampNeg) ?_ 14 _ _ _ _ ⟨0, rfl, by omega, rfl, rfl, sj_fr.rf⟩ (by omega)
    rintro v3 v4 v5 w' K ⟨i, rfl, hi, rfl, rfl, hfr⟩ hK
    have hC' := hC.no hfr
    have b := hC'.all
    have hp := sj_ps_le σ k i hi
    have hs := sj_ss_le σ k i
    unfold vb_X6_share_13
    simp (disch := omega) only [ne_eq, and_self, not_false_eq_true, not_true_eq_false, true_and, and_true, true_or, or_true, false_or, or_false, forall_eq, forall_const, true_implies, false_implies, if_true, if_false, sj_lits, sj_addI, sj_mulI, sj_clI, sj_inI, sj_ltI, sj_leI, sj_eqI, sj_lcI, b, hL.nz]
    refine ⟨fun q => ?_, fun q => ?_⟩
    · have e : i = 12 := by omega
      subst e
      refine ⟨fun z => ?_, fun z => ?_⟩
      · rw [if_neg z] at h
        exact ⟨(sj_shq_ok z hp hs).1, so_k h hfr.no hC' rfl⟩
      · rw [if_pos z] at h
        exact so_e h (by decide) hfr.no hC'
    · have hi12 : i < 12 := by omega
      have step : ∀ w2, sj_fr sj_no w w2 → K (nI (sj_ps σ k (i + 1))) (nI (sj_ss σ k (i + 1))) (nI (i + 1)) w2 := by
        intro w2 h1
        refine hK _ _ _ _ ⟨i + 1, rfl, by omega, rfl, rfl, h1⟩ ?_
        rw [sj_clI (by omega), sj_clI (by omega)]
        omega
      have ep : sj_ps σ k (i + 1) = sj_ps σ k i + (if sj_fitB σ k i = true then sj_cnt (sj_fitB σ k) i else 0) := rfl
      have es : sj_ss σ k (i + 1) = sj_ss σ k i + (if sj_fitB σ k i = true then sj_cnt (sj_smB σ k i) i else 0) := rfl
      rw [ep, es] at step
      simp (disch := omega) only [b.2.2.1]
      refine ⟨by omega, fun z => hL.2 _ z, pc_isFitting hL hC' hw hk4 hi12 (fun hf => ⟨fun e => absurd e (by decide), fun _ => ⟨b.1.1, pc_fittingAhead hL hC' hw hk4 hi12 ⟨b.1.1, pc_sameAhead hL hC' hw hk4 hi12 hf (fun w2 hf2 => ?_)⟩⟩⟩) (fun hf => ⟨fun _ => ?_, fun e => absurd rfl e⟩)⟩
      · have z : sj_fitB σ k i = true := decide_eq_true hf
        rw [if_pos z, if_pos z] at step
        rw [sj_addI, sj_addI]
        exact step w2 (hfr.trans hf2)
      · have z : ¬ sj_fitB σ k i = true := fun y => hf (of_decide_eq_true y)
        rw [if_neg z, if_neg z] at step
        exact step w' hfr
  · simp only [hk] at h
    exact so_e h (by decide) sj_fr.rf hC

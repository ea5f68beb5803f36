/-! occurs, mean, checksum, share -/
def sj_occ (f g : Nat → Int64) (m i : Nat) : Bool := (List.range m).all (fun j => decide (f (i + j) = g j))
theorem sj_occ_iff {f g : Nat → Int64} {m i : Nat} : sj_occ f g m i = true ↔ ∀ j, j < m → f (i + j) = g j := by
  unfold sj_occ
  rw [List.all_eq_true]
  exact ⟨fun h j h1 => of_decide_eq_true (h j (List.mem_range.mpr h1)), fun h j hj => decide_eq_true (h j (List.mem_range.mp hj))⟩
theorem sj_lcp_occ {n m i : Nat} {f g : Nat → Int64} (hm : m ≤ n) : sj_lcp n (fun j => f (i + j)) m g = m ↔ sj_occ f g m i = true := by
  have h := sj_lcp_is n (fun j => f (i + j)) m g
  rw [sj_occ_iff]
  constructor
  · intro e
    rw [e] at h
    exact h.2.2.1
  · intro e
    exact sj_lcp_eq ⟨hm, Nat.le_refl _, e, fun _ z => absurd z (Nat.lt_irrefl _)⟩
def ab_occurs (σ : sj_S) (a1 a2 a3 : Int32) : sj_O := match sj_kd a1 with
  | none => (1, 0, σ)
  | some k => match sj_ix 4 a2 with
    | none => (2, 0, σ)
    | some r => match sj_ix 12 a3 with
      | none => (2, 0, σ)
      | some j => if sj_fit σ k j then (0, (nI (sj_cnt (sj_occ (sj_x σ (k * 4 + r)) (sj_wx σ k j) (sj_wn σ j)) (sj_n σ (k * 4 + r) + 1 - sj_wn σ j))).toInt64, σ) else (3, 0, σ)
theorem pc_occurs {La : Nat → Nat} {σ : sj_S} {w : sj_W} (hL : sj_La La) (hC : sj_Cm La σ w) (hw : sj_wf σ) {a1 a2 a3 : Int32} {Q : Int32 → sj_W → Prop} {QX : String → sj_W → Prop} (h : so_pX La w (ab_occurs σ a1 a2 a3) sj_en Int32.toInt64 Q QX) : vc_X6_occurs (La 0) a1 a2 a3 w Q QX := by
  have a := hC.all
  unfold ab_occurs at h
  refine pc_kindOf (fun k hk hk4 => ⟨a.1.1, pc_rowOf hL hC hk4 (fun r hr hr4 => ⟨a.1.1, pc_spanOf hL hC (fun j hj hj12 => ⟨a.1.1, pc_fittingWord hL hC hw hk4 hj12 (fun p w1 hf1 hw1 hp => ?_) (fun hf1 => ?_)⟩) (fun hj => ?_)⟩) (fun hr => ?_)⟩) (fun hk => ?_)
  · simp only [hk, hr, hj, if_pos hf1] at h
    have c := (hw.1 (k * 4 + r) (by omega)).1
    have hr16 : k * 4 + r < 16 := by omega
    have hm32 := hp.le
    generalize k * 4 + r = y at h c hr16
    refine sj_lp2_run (fun v7 v8 w' => ∃ i, v8 = nI i ∧ i ≤ sj_n σ y + 1 - sj_wn σ j ∧ v7 = nI (sj_cnt (sj_occ (sj_x σ y) (sj_wx σ k j) (sj_wn σ j)) i) ∧ sj_fr sj_no w w' ∧ sj_Wo w' p (sj_wn σ j) (sj_wx σ k j)) (fun _ v _ => 34 - v.toNatClampNeg) ?_ 36 _ _ _ ⟨0, rfl, Nat.zero_le _, rfl, hw1, hp⟩ (by omega)
    rintro v7 v8 w' K ⟨i, rfl, hi, rfl, hfr, hp'⟩ hK
    have hC' := hC.no hfr
    have b := hC'.all
    have hcl := sj_cnt_le (sj_occ (sj_x σ y) (sj_wx σ k j) (sj_wn σ j)) i
    refine ⟨hp'.T, pc_size hp' ?_⟩
    simp (disch := omega) only [ne_eq, and_self, not_false_eq_true, not_true_eq_false, true_and, and_true, true_or, or_true, false_or, or_false, forall_eq, forall_const, true_implies, false_implies, if_true, if_false, sj_lits, sj_addI, sj_mulI, sj_clI, sj_inI, sj_ltI, sj_leI, sj_eqI, sj_lcI, b]
    refine ⟨fun q => ?_, fun q => ?_⟩
    · have e : sj_n σ y + 1 - sj_wn σ j = i := by omega
      rw [e] at h
      exact so_k h hfr.no hC' rfl
    · intro q2 hq20 hq2T
      have hrw := fun Q => pc_rowWord (Q := Q) hL hC' hw hr16 hq2T rfl (show i ≤ sj_n σ y by omega)
      refine (hrw _ fun w3 hf3 hp3 => ?_)
      refine pc_alike hp3 (hp'.no hf3) ⟨(hp'.no hf3).T, pc_size (hp'.no hf3) ?_⟩
      have hlc := (sj_lcp_is (sj_n σ y - i) (fun j => sj_x σ y (i + j)) (sj_wn σ j) (sj_wx σ k j)).2.1
      rw [sj_eqI (by omega) (by omega), sj_lcp_occ (by omega)]
      have step : ∀ b, sj_occ (sj_x σ y) (sj_wx σ k j) (sj_wn σ j) i = b → K (nI (sj_cnt (sj_occ (sj_x σ y) (sj_wx σ k j) (sj_wn σ j)) i + (if b then 1 else 0))) (nI (i + 1)) w3 := by
        intro b0 h3
        refine hK _ _ _ ⟨i + 1, rfl, by omega, by rw [← h3]; rfl, hfr.trans hf3, hp'.no hf3⟩ ?_
        rw [sj_clI (by omega), sj_clI (by omega)]
        omega
      exact ⟨fun z => step false (Bool.eq_false_iff.mpr z), fun z => step true z⟩
  · simp only [hk, hr, hj, if_neg hf1] at h
    exact so_e h (by decide) sj_fr.rf hC
  · simp only [hk, hr, hj] at h
    exact so_e h (by decide) sj_fr.rf hC
  · simp only [hk, hr] at h
    exact so_e h (by decide) sj_fr.rf hC
  · simp only [hk] at h
    exact so_e h (by decide) sj_fr.rf hC
/-! mean: doubles as their bits -/
def sj_cd (x : UInt64) : Int64 := x.toInt64
def sj_mq (n : Nat) : UInt64 := FP.ddiv (FP.i2d (nI n)) 4616189618054758400
theorem sj_mq_ok0 : ∀ n, n < 129 → sj_mq n &&& 0x7fffffffffffffff ≤ 0x7ff0000000000000 := by decide +kernel
theorem sj_mq_ok : ∀ n, n < 129 → vf_n64 (sj_mq n) := sj_mq_ok0
def ab_mean (σ : sj_S) (a1 : Int32) : sj_O := match sj_kd a1 with
  | none => (1, 0, σ)
  | some k => (0, sj_cd (sj_mq (sj_n σ (k * 4) + sj_n σ (k * 4 + 1) + sj_n σ (k * 4 + 2) + sj_n σ (k * 4 + 3))), σ)
def sj_sum (f : Nat → Nat) : Nat → Nat
  | 0 => 0
  | n + 1 => sj_sum f n + f n
theorem pc_mean {La : Nat → Nat} {σ : sj_S} {w : sj_W} (hL : sj_La La) (hC : sj_Cm La σ w) (hw : sj_wf σ) {a1 : Int32} {Q : UInt64 → sj_W → Prop} {QX : String → sj_W → Prop} (h : so_pX La w (ab_mean σ a1) sj_en sj_cd Q QX) : vc_X6_mean (La 0) a1 w Q QX := by
  have a := hC.all
  unfold ab_mean at h
  refine pc_kindOf (fun k hk hk4 => ?_) (fun hk => ?_)
  · simp only [hk] at h
    refine sj_lp2_run (fun v3 v4 w' => w' = w ∧ ∃ i, v4 = nI i ∧ i ≤ 4 ∧ v3 = nI (sj_sum (fun j => sj_n σ (k * 4 + j)) i) ∧ sj_sum (fun j => sj_n σ (k * 4 + j)) i ≤ 32 * i) (fun _ v _ => 5 - v.toNatClampNeg) ?_ 64 _ _ _ ⟨rfl, 0, rfl, by omega, rfl, Nat.zero_le _⟩ (by omega)
    rintro v3 v4 w' K ⟨rfl, i, rfl, hi, rfl, hs⟩ hK
    unfold vb_X6_mean_10
    simp (disch := omega) only [ne_eq, and_self, not_false_eq_true, not_true_eq_false, true_and, and_true, true_or, or_true, false_or, or_false, forall_eq, forall_const, true_implies, false_implies, if_true, if_false, sj_lits, sj_addI, sj_mulI, sj_clI, sj_inI, sj_ltI, sj_leI, sj_eqI, sj_lcI, a, hL.nz]
    refine ⟨fun q => ?_, fun q => ?_⟩
    · have e : i = 4 := by omega
      subst e
      refine ⟨sj_mq_ok _ (by omega), so_k h sj_fr.rf hC ?_⟩
      have e2 : sj_sum (fun j => sj_n σ (k * 4 + j)) 4 = sj_n σ (k * 4) + sj_n σ (k * 4 + 1) + sj_n σ (k * 4 + 2) + sj_n σ (k * 4 + 3) := by
        simp only [sj_sum, Nat.zero_add, Nat.add_zero]
      rw [e2]
      rfl
    · have c := (hw.1 (k * 4 + i) (by omega)).1
      simp (disch := omega) only [ne_eq, and_self, not_false_eq_true, not_true_eq_false, true_and, and_true, true_or, or_true, false_or, or_false, forall_eq, forall_const, true_implies, false_implies, if_true, if_false, sj_lits, sj_addI, sj_mulI, sj_clI, sj_inI, sj_ltI, sj_leI, sj_eqI, sj_lcI, a, hL.nz]
      refine ⟨by omega, hK _ _ _ ⟨rfl, i + 1, rfl, by omega, rfl, ?_⟩ ?_⟩
      · show sj_sum (fun j => sj_n σ (k * 4 + j)) i + sj_n σ (k * 4 + i) ≤ _
        omega
      · rw [sj_clI (by omega), sj_clI (by omega)]; omega
  · simp only [hk] at h
    exact so_e h (by decide) sj_fr.rf hC
/-! share -/

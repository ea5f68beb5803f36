/-! checksum -/
theorem sj_s1 (i : Nat) : nI i + 1 = nI (i + 1) := by rw [sj_lits 1, sj_addI]
def sj_fo (g : Nat → Int64 → Int64) : Nat → Int64 → Int64
  | 0, s => s
  | n + 1, s => g n (sj_fo g n s)
theorem sj_fo_s (g : Nat → Int64 → Int64) (n : Nat) (s : Int64) : sj_fo g (n + 1) s = g n (sj_fo g n s) := rfl
def sj_hx (σ : sj_S) (k j : Nat) (t : Int64) : Int64 := 31 * t + sj_x σ k j
def sj_hr (σ : sj_S) (k : Nat) (s : Int64) : Int64 := sj_fo (sj_hx σ k) (sj_n σ k) (31 * s + (nI (sj_n σ k)).toInt64)
def sj_hp (σ : sj_S) (k : Nat) (t : Int64) : Int64 := 31 * (31 * (31 * t + (nI (sj_pr σ k)).toInt64) + (nI (sj_pf σ k)).toInt64) + (nI (sj_pt σ k)).toInt64
def sj_hl (σ : sj_S) (j : Nat) (t : Int64) : Int64 := 31 * t + (nI (sj_lx σ j)).toInt64
def sj_sm (σ : sj_S) : Int64 := sj_fo (sj_hl σ) (sj_ln σ) (31 * sj_fo (sj_hp σ) 12 (sj_fo (sj_hr σ) 16 7) + (nI (sj_ln σ)).toInt64)
theorem pc_checksum {La : Nat → Nat} {σ : sj_S} {w : sj_W} (hL : sj_La La) (hC : sj_Cm La σ w) (hw : sj_wf σ) {Q : Int64 → sj_W → Prop} (h : Q (sj_sm σ) w) : vc_X6_checksum (La 0) w Q := by
  have a := hC.all
  have cl := hw.2.2.1
  unfold vc_X6_checksum
  simp (disch := omega) only [a, hL.nz, ne_eq, not_false_eq_true, true_and]
  refine ⟨⟨by decide, by decide⟩, ?_⟩
  refine sj_lp2_run (fun v1 v5 w' => w' = w ∧ ∃ k, v5 = nI k ∧ k ≤ 16 ∧ v1 = sj_fo (sj_hr σ) k 7) (fun _ v _ => 17 - v.toNatClampNeg) ?_ 64 _ _ _ ⟨rfl, 0, rfl, by omega, rfl⟩ (by omega)
  rintro v1 v5 w' K ⟨rfl, k, rfl, hk, rfl⟩ hK
  unfold vb_X6_checksum_16
  simp (disch := omega) only [a, sj_leI, sj_inI, sj_clI]
  refine ⟨fun q => ?_, fun q => ?_⟩
  · have e : k = 16 := by omega
    subst e
    simp (disch := omega) only [a, hL.nz, ne_eq, not_false_eq_true, true_and]
    refine ⟨⟨by decide, by decide⟩, ?_⟩
    refine sj_lp2_run (fun v1 v5 w'' => w'' = w' ∧ ∃ k, v5 = nI k ∧ k ≤ 12 ∧ v1 = sj_fo (sj_hp σ) k (sj_fo (sj_hr σ) 16 7)) (fun _ v _ => 17 - v.toNatClampNeg) ?_ 64 _ _ _ ⟨rfl, 0, rfl, by omega, rfl⟩ (by omega)
    rintro v1 v5 w'' K ⟨rfl, k, rfl, hk, rfl⟩ hK
    unfold vb_X6_checksum_94
    simp (disch := omega) only [a, sj_leI, sj_inI, sj_clI]
    refine ⟨fun q => ?_, fun q => ?_⟩
    · have e : k = 12 := by omega
      subst e
      refine ⟨trivial, ?_⟩
      refine sj_lp2_run (fun v1 v5 w' => w' = w'' ∧ ∃ k, v5 = nI k ∧ k ≤ sj_ln σ ∧ v1 = sj_fo (sj_hl σ) k (31 * sj_fo (sj_hp σ) 12 (sj_fo (sj_hr σ) 16 7) + (nI (sj_ln σ)).toInt64)) (fun _ v _ => 17 - v.toNatClampNeg) ?_ 64 _ _ _ ⟨rfl, 0, rfl, by omega, rfl⟩ (by omega)
      rintro v1 v5 w' K ⟨rfl, k, rfl, hk, rfl⟩ hK
      unfold vb_X6_checksum_166
      simp (disch := omega) only [a, hL.nz, ne_eq, not_false_eq_true, true_and, sj_leI, sj_inI, sj_clI]
      refine ⟨fun q => ?_, fun q => ?_⟩
      · have e : k = sj_ln σ := by omega
        subst e
        exact h
      · simp (disch := omega) only [a]
        refine ⟨by omega, hK _ _ _ ⟨rfl, k + 1, sj_s1 _, by omega, rfl⟩ ?_⟩
        rw [sj_s1, sj_clI (by omega), sj_clI (by omega)]; omega
    · simp (disch := omega) only [a, hL.nz, ne_eq, not_false_eq_true, true_and]
      refine ⟨Or.inr (Or.inl trivial), by omega, hK _ _ _ ⟨rfl, k + 1, sj_s1 _, by omega, rfl⟩ ?_⟩
      rw [sj_s1, sj_clI (by omega), sj_clI (by omega)]; omega
  · simp (disch := omega) only [a, hL.nz, ne_eq, not_false_eq_true, true_and]
    refine ⟨Or.inl trivial, by omega, ?_⟩
    have c := (hw.1 k (by omega)).1
    refine sj_lp2_run (fun v1 v7 w'' => w'' = w' ∧ ∃ j, v7 = nI j ∧ j ≤ sj_n σ k ∧ v1 = sj_fo (sj_hx σ k) j (31 * sj_fo (sj_hr σ) k 7 + (nI (sj_n σ k)).toInt64)) (fun _ v _ => 40 - v.toNatClampNeg) ?_ 64 _ _ _ ⟨rfl, 0, rfl, by omega, rfl⟩ (by omega)
    rintro v1 v7 w'' K2 ⟨rfl, j, rfl, hj, rfl⟩ hK2
    unfold vb_X6_checksum_45
    simp (disch := omega) only [a, hL.nz, ne_eq, not_false_eq_true, true_and, sj_leI, sj_inI, sj_clI]
    refine ⟨fun q => ?_, fun q => ?_⟩
    · have e : j = sj_n σ k := by omega
      subst e
      refine hK _ _ _ ⟨rfl, k + 1, sj_s1 _, by omega, rfl⟩ ?_
      rw [sj_s1, sj_clI (by omega), sj_clI (by omega)]; omega
    · simp (disch := omega) only [a]
      refine ⟨by omega, hK2 _ _ _ ⟨rfl, j + 1, sj_s1 _, by omega, rfl⟩ ?_⟩
      rw [sj_s1, sj_clI (by omega), sj_clI (by omega)]; omega

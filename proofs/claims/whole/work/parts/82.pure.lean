/-! THE LAW'S WRAPPERS -/
theorem sj_z0 : (0 : Int32).toNatClampNeg = 0 := by decide
theorem so_x3 {La : Nat → Nat} {w : sj_W} {o : sj_O} {Q : Int32 → sj_W → Prop} (h : so_pC La w o Q) (hb : o.1 ≤ 3) : ∀ w', o.1 ≠ 0 → sj_fr (so_XC La) w w' → sj_Cm La o.2.2 w' → ((sj_en o.1 = "java/lang/IllegalArgumentException" → Q 1 w') ∧ (sj_en o.1 = "java/lang/IndexOutOfBoundsException" → Q 2 w') ∧ (sj_en o.1 = "java/lang/IllegalStateException" → Q 3 w') ∧ (sj_en o.1 = "java/lang/IllegalArgumentException" ∨ sj_en o.1 = "java/lang/IndexOutOfBoundsException" ∨ sj_en o.1 = "java/lang/IllegalStateException")) := by
  intro w' h0 hf hC
  have hq := h w' hf hC (fun z => absurd z h0)
  have e : o.1 = 1 ∨ o.1 = 2 ∨ o.1 = 3 := by omega
  rcases e with e | e | e <;> rw [e] at hq ⊢
  · exact ⟨fun _ => hq, fun z => absurd z (by decide), fun z => absurd z (by decide), Or.inl rfl⟩
  · exact ⟨fun z => absurd z (by decide), fun _ => hq, fun z => absurd z (by decide), Or.inr (Or.inl rfl)⟩
  · exact ⟨fun z => absurd z (by decide), fun z => absurd z (by decide), fun _ => hq, Or.inr (Or.inr rfl)⟩
theorem so_x2 {La : Nat → Nat} {w : sj_W} {o : sj_O} {Q : Int32 → sj_W → Prop} (h : so_pC La w o Q) (hb : o.1 ≤ 2) : ∀ w', o.1 ≠ 0 → sj_fr (so_XC La) w w' → sj_Cm La o.2.2 w' → ((sj_en o.1 = "java/lang/IllegalArgumentException" → Q 1 w') ∧ (sj_en o.1 = "java/lang/IndexOutOfBoundsException" → Q 2 w') ∧ (sj_en o.1 = "java/lang/IllegalArgumentException" ∨ sj_en o.1 = "java/lang/IndexOutOfBoundsException")) := by
  intro w' h0 hf hC
  have hq := h w' hf hC (fun z => absurd z h0)
  have e : o.1 = 1 ∨ o.1 = 2 := by omega
  rcases e with e | e <;> rw [e] at hq ⊢
  · exact ⟨fun _ => hq, fun z => absurd z (by decide), Or.inl rfl⟩
  · exact ⟨fun z => absurd z (by decide), fun _ => hq, Or.inr rfl⟩
theorem so_x1 {La : Nat → Nat} {w : sj_W} {o : sj_O} {Q : Int32 → sj_W → Prop} (h : so_pC La w o Q) (hb : o.1 ≤ 1) : ∀ w', o.1 ≠ 0 → sj_fr (so_XC La) w w' → sj_Cm La o.2.2 w' → ((sj_en o.1 = "java/lang/IllegalArgumentException" → Q 1 w') ∧ (sj_en o.1 = "java/lang/IllegalArgumentException")) := by
  intro w' h0 hf hC
  have hq := h w' hf hC (fun z => absurd z h0)
  have e : o.1 = 1 := by omega
  rw [e] at hq ⊢
  exact ⟨fun _ => hq, rfl⟩
theorem so_y2 {La : Nat → Nat} {w : sj_W} {o : sj_O} {Q : Int32 → sj_W → Prop} (h : so_pC La w o Q) (hb : o.1 ≤ 2) : ∀ w', o.1 ≠ 0 → sj_fr (so_XC La) w w' → sj_Cm La o.2.2 w' → ((sj_en2 o.1 = "java/lang/IndexOutOfBoundsException" → Q 1 w') ∧ (sj_en2 o.1 = "java/lang/IllegalArgumentException" → Q 2 w') ∧ (sj_en2 o.1 = "java/lang/IndexOutOfBoundsException" ∨ sj_en2 o.1 = "java/lang/IllegalArgumentException")) := by
  intro w' h0 hf hC
  have hq := h w' hf hC (fun z => absurd z h0)
  have e : o.1 = 1 ∨ o.1 = 2 := by omega
  rcases e with e | e <;> rw [e] at hq ⊢
  · exact ⟨fun _ => hq, fun z => absurd z (by decide), Or.inl rfl⟩
  · exact ⟨fun z => absurd z (by decide), fun _ => hq, Or.inr rfl⟩
theorem so_y1 {La : Nat → Nat} {w : sj_W} {o : sj_O} {Q : Int32 → sj_W → Prop} (h : so_pC La w o Q) (hb : o.1 ≤ 1) : ∀ w', o.1 ≠ 0 → sj_fr (so_XC La) w w' → sj_Cm La o.2.2 w' → ((sj_en2 o.1 = "java/lang/IndexOutOfBoundsException" → Q 1 w') ∧ (sj_en2 o.1 = "java/lang/IndexOutOfBoundsException")) := by
  intro w' h0 hf hC
  have hq := h w' hf hC (fun z => absurd z h0)
  have e : o.1 = 1 := by omega
  rw [e] at hq ⊢
  exact ⟨fun _ => hq, rfl⟩
theorem so_XC.o {La : Nat → Nat} : so_XC La (La 210) := ⟨210, Or.inr (Or.inl rfl), rfl⟩
theorem so_XC.d {La : Nat → Nat} : so_XC La (La 211) := ⟨211, Or.inr (Or.inr rfl), rfl⟩
theorem sj_Cm.out {La : Nat → Nat} {σ : sj_S} {w w' : sj_W} (hL : sj_La La) (hC : sj_Cm La σ w) {X : Nat → Prop} (hf : sj_fr X w w') (hX : ∀ a, X a → a = La 210 ∨ a = La 211) : sj_Cm La σ w' := hC.fr hf (fun i hi z => (hX _ z).elim (fun e => by have := hL.1 _ _ e; omega) (fun e => by have := hL.1 _ _ e; omega))
/-- the answer is put into the law's own array -/
theorem so_n {A : Type} {cv : A → Int64} {La : Nat → Nat} {w : sj_W} {o : sj_O} {Q : Int32 → sj_W → Prop} (hL : sj_La La) (hO : sj_Ou La w) (h : so_pC La w o Q) : o.1 = 0 → ∀ (r : A) w', sj_fr (so_XC La) w w' → sj_Cm La o.2.2 w' → cv r = o.2.1 → (sj_T w' (La 210) = 8 ∧ vp_in 0 (sj_N w' (La 210)) ∧ ∀ w4 : sj_W, w4 = sj_sl w' (La 210) (0 : Int32).toNatClampNeg (cv r) → Q 0 w4) := by
  intro h0 r w' hf hC hv
  have hO' := hO.fr hf
  refine ⟨hO'.1.1, by rw [hO'.1.2]; exact sj_in (n := 0) (by decide) (by decide), fun w4 e4 => ?_⟩
  rw [sj_z0, hv] at e4
  have f4 : sj_fr (fun a => a = La 210) w' w4 := by rw [e4]; exact sj_fr.rf.l (Or.inl rfl)
  have hq := h w4 (hf.trans (f4.mono fun a e => by rw [e]; exact so_XC.o)) (hC.out hL f4 (fun a e => Or.inl e)) (fun _ => by rw [e4]; exact if_pos ⟨rfl, rfl⟩)
  rw [h0] at hq
  exact hq
theorem so_b {La : Nat → Nat} {w : sj_W} {o : sj_O} {Q : Int32 → sj_W → Prop} (hL : sj_La La) (hO : sj_Ou La w) (h : so_pC La w o Q) (hb : o.1 = 0 → o.2.1 = 0 ∨ o.2.1 = 1) : o.1 = 0 → ∀ (r : Int32) w', sj_fr (so_XC La) w w' → sj_Cm La o.2.2 w' → r.toInt64 = o.2.1 → ((r = 0 → sj_T w' (La 210) = 8 ∧ vp_in 0 (sj_N w' (La 210)) ∧ ∀ w5 : sj_W, w5 = sj_sl w' (La 210) (0 : Int32).toNatClampNeg 0 → Q 0 w5) ∧ (¬ r = 0 → sj_T w' (La 210) = 8 ∧ vp_in 0 (sj_N w' (La 210)) ∧ ∀ w8 : sj_W, w8 = sj_sl w' (La 210) (0 : Int32).toNatClampNeg 1 → Q 0 w8)) := by
  intro h0 r w' hf hC hv
  have key := so_n (cv := fun x : Int64 => x) hL hO h h0
  refine ⟨fun e => ?_, fun e => ?_⟩
  · refine key 0 w' hf hC ?_
    rw [← hv, e]
    rfl
  · refine key 1 w' hf hC ?_
    rcases hb h0 with z | z
    · rw [z] at hv
      refine absurd (Int32.toInt_inj.mp ?_) e
      rw [← Int32.toInt_toInt64, hv]
      rfl
    · exact z.symm
/-- the same for doubles and floats -/
def so_pmean (La : Nat → Nat) (w : sj_W) (o : sj_O) (Q : Int32 → sj_W → Prop) : Prop := ∀ w', sj_fr (so_XC La) w w' → sj_Cm La o.2.2 w' → (o.1 = 0 → sj_cd (sj_d w' (La 211) 0) = o.2.1) → Q (nI o.1) w'
def so_pshare (La : Nat → Nat) (w : sj_W) (o : sj_O) (Q : Int32 → sj_W → Prop) : Prop := ∀ w', sj_fr (so_XC La) w w' → sj_Cm La o.2.2 w' → (o.1 = 0 → ∃ r : UInt32, sj_cf r = o.2.1 ∧ sj_d w' (La 211) 0 = FP.f2d r) → Q (nI o.1) w'
theorem so_xm {La : Nat → Nat} {w : sj_W} {o : sj_O} {Q : Int32 → sj_W → Prop} (h : so_pmean La w o Q) (hb : o.1 ≤ 1) : ∀ w', o.1 ≠ 0 → sj_fr (so_XC La) w w' → sj_Cm La o.2.2 w' → ((sj_en o.1 = "java/lang/IllegalArgumentException" → Q 1 w') ∧ (sj_en o.1 = "java/lang/IllegalArgumentException")) := by
  intro w' h0 hf hC
  have hq := h w' hf hC (fun z => absurd z h0)
  have e : o.1 = 1 := by omega
  rw [e] at hq ⊢
  exact ⟨fun _ => hq, rfl⟩
theorem so_z2 {La : Nat → Nat} {w : sj_W} {o : sj_O} {Q : Int32 → sj_W → Prop} (h : so_pshare La w o Q) (hb : o.1 ≤ 2) : ∀ w', o.1 ≠ 0 → sj_fr (so_XC La) w w' → sj_Cm La o.2.2 w' → ((sj_en3 o.1 = "java/lang/IllegalArgumentException" → Q 1 w') ∧ (sj_en3 o.1 = "java/lang/IllegalStateException" → Q 2 w') ∧ (sj_en3 o.1 = "java/lang/IllegalArgumentException" ∨ sj_en3 o.1 = "java/lang/IllegalStateException")) := by
  intro w' h0 hf hC
  have hq := h w' hf hC (fun z => absurd z h0)
  have e : o.1 = 1 ∨ o.1 = 2 := by omega
  rcases e with e | e <;> rw [e] at hq ⊢
  · exact ⟨fun _ => hq, fun z => absurd z (by decide), Or.inl rfl⟩
  · exact ⟨fun z => absurd z (by decide), fun _ => hq, Or.inr rfl⟩
theorem so_nmean {La : Nat → Nat} {w : sj_W} {o : sj_O} {Q : Int32 → sj_W → Prop} (hL : sj_La La) (hO : sj_Ou La w) (h : so_pmean La w o Q) : o.1 = 0 → ∀ (r : UInt64) w', sj_fr (so_XC La) w w' → sj_Cm La o.2.2 w' → sj_cd r = o.2.1 → (sj_T w' (La 211) = 9 ∧ vp_in 0 (sj_N w' (La 211)) ∧ ∀ w4 : sj_W, w4 = sj_sd w' (La 211) (0 : Int32).toNatClampNeg r → Q 0 w4) := by
  intro h0 r w' hf hC hv
  have hO' := hO.fr hf
  refine ⟨hO'.2.1, by rw [hO'.2.2]; exact sj_in (n := 0) (by decide) (by decide), fun w4 e4 => ?_⟩
  rw [sj_z0] at e4
  have f4 : sj_fr (fun a => a = La 211) w' w4 := by rw [e4]; exact sj_fr.rf.d (Or.inl rfl)
  have hq := h w4 (hf.trans (f4.mono fun a e => by rw [e]; exact so_XC.d)) (hC.out hL f4 (fun a e => Or.inr e)) (fun _ => by rw [e4, ← hv]; exact congrArg sj_cd (if_pos ⟨rfl, rfl⟩))
  rw [h0] at hq
  exact hq
theorem so_nshare {La : Nat → Nat} {w : sj_W} {σ : sj_S} {a2 : Int32} {Q : Int32 → sj_W → Prop} (hL : sj_La La) (hO : sj_Ou La w) (h : so_pshare La w (ab_share σ a2) Q) : (ab_share σ a2).1 = 0 → ∀ (r : UInt32) w', sj_fr (so_XC La) w w' → sj_Cm La (ab_share σ a2).2.2 w' → sj_cf r = (ab_share σ a2).2.1 → (vf_n64 (FP.f2d r) ∧ sj_T w' (La 211) = 9 ∧ vp_in 0 (sj_N w' (La 211)) ∧ ∀ w4 : sj_W, w4 = sj_sd w' (La 211) (0 : Int32).toNatClampNeg (FP.f2d r) → Q 0 w4) := by
  intro h0 r w' hf hC hv
  have hO' := hO.fr hf
  refine ⟨?_, hO'.2.1, by rw [hO'.2.2]; exact sj_in (n := 0) (by decide) (by decide), fun w4 e4 => ?_⟩
  · unfold ab_share at hv h0
    cases hk : sj_kd a2 with
    | none => simp only [hk] at h0; cases h0
    | some k =>
      simp only [hk] at hv h0
      by_cases c : sj_ps σ k 12 = 0
      · rw [if_pos c] at h0; cases h0
      · rw [if_neg c] at hv
        rw [sj_cf_inj hv]
        exact (sj_shq_ok c (sj_ps_le σ k 12 (Nat.le_refl _)) (sj_ss_le σ k 12)).2
  · rw [sj_z0] at e4
    have f4 : sj_fr (fun a => a = La 211) w' w4 := by rw [e4]; exact sj_fr.rf.d (Or.inl rfl)
    have hq := h w4 (hf.trans (f4.mono fun a e => by rw [e]; exact so_XC.d)) (hC.out hL f4 (fun a e => Or.inr e)) (fun _ => ⟨r, hv, by rw [e4]; exact if_pos ⟨rfl, rfl⟩⟩)
    rw [h0] at hq
    exact hq
theorem b01_fits {σ : sj_S} {a1 a2 : Int32} : (ab_fits σ a1 a2).1 = 0 → (ab_fits σ a1 a2).2.1 = 0 ∨ (ab_fits σ a1 a2).2.1 = 1 := by
  unfold ab_fits
  repeat' split
  all_goals first | exact fun _ => Or.inr rfl | exact fun _ => Or.inl rfl
theorem b01_isPeriod {σ : sj_S} {a1 a2 a3 : Int32} : (ab_isPeriod σ a1 a2 a3).1 = 0 → (ab_isPeriod σ a1 a2 a3).2.1 = 0 ∨ (ab_isPeriod σ a1 a2 a3).2.1 = 1 := by
  unfold ab_isPeriod
  repeat' split
  all_goals first | exact fun _ => Or.inr rfl | exact fun _ => Or.inl rfl
theorem b01_isTrue {σ : sj_S} {a1 a2 a3 a4 : Int32} : (ab_isTrue σ a1 a2 a3 a4).1 = 0 → (ab_isTrue σ a1 a2 a3 a4).2.1 = 0 ∨ (ab_isTrue σ a1 a2 a3 a4).2.1 = 1 := by
  unfold ab_isTrue
  repeat' split
  all_goals first | exact fun _ => Or.inr rfl | exact fun _ => Or.inl rfl
theorem b01_rowIsTrue {σ : sj_S} {a1 a2 a3 : Int32} : (ab_rowIsTrue σ a1 a2 a3).1 = 0 → (ab_rowIsTrue σ a1 a2 a3).2.1 = 0 ∨ (ab_rowIsTrue σ a1 a2 a3).2.1 = 1 := by
  unfold ab_rowIsTrue
  repeat' split
  all_goals first | exact fun _ => Or.inr rfl | exact fun _ => Or.inl rfl
theorem bd_append {σ : sj_S} {a2 : Int32} {a3 : Int32} {a4 : Int64} : (ab_append σ a2 a3 a4).1 ≤ 3 := by
  unfold ab_append
  repeat' split
  all_goals exact Nat.le_of_ble_eq_true rfl
theorem lc_append {La : Nat → Nat} {σ : sj_S} {w : sj_W} (hL : sj_La La) (hC : sj_Cm La σ w) (hw : sj_wf σ) (hO : sj_Ou La w) {a2 : Int32} {a3 : Int32} {a4 : Int64} {Q : Int32 → sj_W → Prop} (h : so_pC La w (ab_append σ a2 a3 a4) Q) : vc_L_append (La 0) a2 a3 a4 (La 210) w Q := ⟨hC.1.1.1, pc_append hL hC hw ⟨so_n hL hO h, so_x3 h bd_append⟩⟩
theorem bd_asks {σ : sj_S} {a2 : Int32} {a3 : Int32} {a4 : Int32} {a5 : Int32} : (ab_asks σ a2 a3 a4 a5).1 ≤ 3 := by
  unfold ab_asks
  repeat' split
  all_goals exact Nat.le_of_ble_eq_true rfl
theorem lc_asks {La : Nat → Nat} {σ : sj_S} {w : sj_W} (hL : sj_La La) (hC : sj_Cm La σ w) (hw : sj_wf σ) (hO : sj_Ou La w) {a2 : Int32} {a3 : Int32} {a4 : Int32} {a5 : Int32} {Q : Int32 → sj_W → Prop} (h : so_pC La w (ab_asks σ a2 a3 a4 a5) Q) : vc_L_asks (La 0) a2 a3 a4 a5 (La 210) w Q := ⟨hC.1.1.1, pc_asks hL hC hw ⟨so_n hL hO h, so_x3 h bd_asks⟩⟩
theorem bd_asksRows {σ : sj_S} {a2 : Int32} {a3 : Int32} {a4 : Int32} {a5 : Int32} : (ab_asksRows σ a2 a3 a4 a5).1 ≤ 2 := by
  unfold ab_asksRows
  repeat' split
  all_goals exact Nat.le_of_ble_eq_true rfl
theorem lc_asksRows {La : Nat → Nat} {σ : sj_S} {w : sj_W} (hL : sj_La La) (hC : sj_Cm La σ w) (hw : sj_wf σ) (hO : sj_Ou La w) {a2 : Int32} {a3 : Int32} {a4 : Int32} {a5 : Int32} {Q : Int32 → sj_W → Prop} (h : so_pC La w (ab_asksRows σ a2 a3 a4 a5) Q) : vc_L_asksRows (La 0) a2 a3 a4 a5 (La 210) w Q := ⟨hC.1.1.1, pc_asksRows hL hC hw ⟨so_n hL hO h, so_x2 h bd_asksRows⟩⟩
theorem bd_clear {σ : sj_S} {a2 : Int32} {a3 : Int32} : (ab_clear σ a2 a3).1 ≤ 2 := by
  unfold ab_clear
  repeat' split
  all_goals exact Nat.le_of_ble_eq_true rfl
theorem lc_clear {La : Nat → Nat} {σ : sj_S} {w : sj_W} (hL : sj_La La) (hC : sj_Cm La σ w) (hw : sj_wf σ) (hO : sj_Ou La w) {a2 : Int32} {a3 : Int32} {Q : Int32 → sj_W → Prop} (h : so_pC La w (ab_clear σ a2 a3) Q) : vc_L_clear (La 0) a2 a3 (La 210) w Q := ⟨hC.1.1.1, pc_clear hL hC hw ⟨so_n hL hO h, so_x2 h bd_clear⟩⟩
theorem bd_common {σ : sj_S} {a2 : Int32} {a3 : Int32} {a4 : Int32} : (ab_common σ a2 a3 a4).1 ≤ 3 := by
  unfold ab_common
  repeat' split
  all_goals exact Nat.le_of_ble_eq_true rfl
theorem lc_common {La : Nat → Nat} {σ : sj_S} {w : sj_W} (hL : sj_La La) (hC : sj_Cm La σ w) (hw : sj_wf σ) (hO : sj_Ou La w) {a2 : Int32} {a3 : Int32} {a4 : Int32} {Q : Int32 → sj_W → Prop} (h : so_pC La w (ab_common σ a2 a3 a4) Q) : vc_L_common (La 0) a2 a3 a4 (La 210) w Q := ⟨hC.1.1.1, pc_common hL hC hw ⟨so_n hL hO h, so_x3 h bd_common⟩⟩
theorem bd_convert {σ : sj_S} {a2 : Int32} {a3 : Int32} {a4 : Int32} {a5 : Int32} {a6 : Int32} : (ab_convert σ a2 a3 a4 a5 a6).1 ≤ 3 := by
  unfold ab_convert
  repeat' split
  all_goals exact Nat.le_of_ble_eq_true rfl
theorem lc_convert {La : Nat → Nat} {σ : sj_S} {w : sj_W} (hL : sj_La La) (hC : sj_Cm La σ w) (hw : sj_wf σ) (hO : sj_Ou La w) {a2 : Int32} {a3 : Int32} {a4 : Int32} {a5 : Int32} {a6 : Int32} {Q : Int32 → sj_W → Prop} (h : so_pC La w (ab_convert σ a2 a3 a4 a5 a6) Q) : vc_L_convert (La 0) a2 a3 a4 a5 a6 (La 210) w Q := ⟨hC.1.1.1, pc_convert hL hC hw ⟨so_n hL hO h, so_x3 h bd_convert⟩⟩
theorem bd_cut {σ : sj_S} {a2 : Int32} {a3 : Int32} {a4 : Int32} {a5 : Int32} : (ab_cut σ a2 a3 a4 a5).1 ≤ 2 := by
  unfold ab_cut
  repeat' split
  all_goals exact Nat.le_of_ble_eq_true rfl
theorem lc_cut {La : Nat → Nat} {σ : sj_S} {w : sj_W} (hL : sj_La La) (hC : sj_Cm La σ w) (hw : sj_wf σ) (hO : sj_Ou La w) {a2 : Int32} {a3 : Int32} {a4 : Int32} {a5 : Int32} {Q : Int32 → sj_W → Prop} (h : so_pC La w (ab_cut σ a2 a3 a4 a5) Q) : vc_L_cut (La 0) a2 a3 a4 a5 (La 210) w Q := ⟨hC.1.1.1, pc_cut hL hC hw ⟨so_n hL hO h, so_x2 h bd_cut⟩⟩
theorem bd_distinct {σ : sj_S} {a2 : Int32} {a3 : Int32} : (ab_distinct σ a2 a3).1 ≤ 2 := by
  unfold ab_distinct
  repeat' split
  all_goals exact Nat.le_of_ble_eq_true rfl
theorem lc_distinct {La : Nat → Nat} {σ : sj_S} {w : sj_W} (hL : sj_La La) (hC : sj_Cm La σ w) (hw : sj_wf σ) (hO : sj_Ou La w) {a2 : Int32} {a3 : Int32} {Q : Int32 → sj_W → Prop} (h : so_pC La w (ab_distinct σ a2 a3) Q) : vc_L_distinct (La 0) a2 a3 (La 210) w Q := ⟨hC.1.1.1, pc_distinct hL hC hw ⟨so_n hL hO h, so_x2 h bd_distinct⟩⟩
theorem bd_ending {σ : sj_S} {a2 : Int32} {a3 : Int32} {a4 : Int32} {a5 : Int32} : (ab_ending σ a2 a3 a4 a5).1 ≤ 2 := by
  unfold ab_ending
  repeat' split
  all_goals exact Nat.le_of_ble_eq_true rfl
theorem lc_ending {La : Nat → Nat} {σ : sj_S} {w : sj_W} (hL : sj_La La) (hC : sj_Cm La σ w) (hw : sj_wf σ) (hO : sj_Ou La w) {a2 : Int32} {a3 : Int32} {a4 : Int32} {a5 : Int32} {Q : Int32 → sj_W → Prop} (h : so_pC La w (ab_ending σ a2 a3 a4 a5) Q) : vc_L_ending (La 0) a2 a3 a4 a5 (La 210) w Q := ⟨hC.1.1.1, pc_ending hL hC hw ⟨so_n hL hO h, so_x2 h bd_ending⟩⟩
theorem bd_factor {σ : sj_S} {a2 : Int32} {a3 : Int32} {a4 : Int32} {a5 : Int32} : (ab_factor σ a2 a3 a4 a5).1 ≤ 2 := by
  unfold ab_factor
  repeat' split
  all_goals exact Nat.le_of_ble_eq_true rfl
theorem lc_factor {La : Nat → Nat} {σ : sj_S} {w : sj_W} (hL : sj_La La) (hC : sj_Cm La σ w) (hw : sj_wf σ) (hO : sj_Ou La w) {a2 : Int32} {a3 : Int32} {a4 : Int32} {a5 : Int32} {Q : Int32 → sj_W → Prop} (h : so_pC La w (ab_factor σ a2 a3 a4 a5) Q) : vc_L_factor (La 0) a2 a3 a4 a5 (La 210) w Q := ⟨hC.1.1.1, pc_factor hL hC hw ⟨so_n hL hO h, so_x2 h bd_factor⟩⟩
theorem bd_factors {σ : sj_S} {a2 : Int32} {a3 : Int32} {a4 : Int32} : (ab_factors σ a2 a3 a4).1 ≤ 2 := by
  unfold ab_factors
  repeat' split
  all_goals exact Nat.le_of_ble_eq_true rfl
theorem lc_factors {La : Nat → Nat} {σ : sj_S} {w : sj_W} (hL : sj_La La) (hC : sj_Cm La σ w) (hw : sj_wf σ) (hO : sj_Ou La w) {a2 : Int32} {a3 : Int32} {a4 : Int32} {Q : Int32 → sj_W → Prop} (h : so_pC La w (ab_factors σ a2 a3 a4) Q) : vc_L_factors (La 0) a2 a3 a4 (La 210) w Q := ⟨hC.1.1.1, pc_factors hL hC hw ⟨so_n hL hO h, so_x2 h bd_factors⟩⟩
theorem bd_fits {σ : sj_S} {a2 : Int32} {a3 : Int32} : (ab_fits σ a2 a3).1 ≤ 2 := by
  unfold ab_fits
  repeat' split
  all_goals exact Nat.le_of_ble_eq_true rfl
theorem lc_fits {La : Nat → Nat} {σ : sj_S} {w : sj_W} (hL : sj_La La) (hC : sj_Cm La σ w) (hw : sj_wf σ) (hO : sj_Ou La w) {a2 : Int32} {a3 : Int32} {Q : Int32 → sj_W → Prop} (h : so_pC La w (ab_fits σ a2 a3) Q) : vc_L_fits (La 0) a2 a3 (La 210) w Q := ⟨hC.1.1.1, pc_fits hL hC hw ⟨so_b hL hO h b01_fits, so_x2 h bd_fits⟩⟩
theorem bd_isPeriod {σ : sj_S} {a2 : Int32} {a3 : Int32} {a4 : Int32} : (ab_isPeriod σ a2 a3 a4).1 ≤ 2 := by
  unfold ab_isPeriod
  repeat' split
  all_goals exact Nat.le_of_ble_eq_true rfl
theorem lc_isPeriod {La : Nat → Nat} {σ : sj_S} {w : sj_W} (hL : sj_La La) (hC : sj_Cm La σ w) (hw : sj_wf σ) (hO : sj_Ou La w) {a2 : Int32} {a3 : Int32} {a4 : Int32} {Q : Int32 → sj_W → Prop} (h : so_pC La w (ab_isPeriod σ a2 a3 a4) Q) : vc_L_isPeriod (La 0) a2 a3 a4 (La 210) w Q := ⟨hC.1.1.1, pc_isPeriod hL hC hw ⟨so_b hL hO h b01_isPeriod, so_x2 h bd_isPeriod⟩⟩
theorem bd_isTrue {σ : sj_S} {a2 : Int32} {a3 : Int32} {a4 : Int32} {a5 : Int32} : (ab_isTrue σ a2 a3 a4 a5).1 ≤ 3 := by
  unfold ab_isTrue
  repeat' split
  all_goals exact Nat.le_of_ble_eq_true rfl
theorem lc_isTrue {La : Nat → Nat} {σ : sj_S} {w : sj_W} (hL : sj_La La) (hC : sj_Cm La σ w) (hw : sj_wf σ) (hO : sj_Ou La w) {a2 : Int32} {a3 : Int32} {a4 : Int32} {a5 : Int32} {Q : Int32 → sj_W → Prop} (h : so_pC La w (ab_isTrue σ a2 a3 a4 a5) Q) : vc_L_isTrue (La 0) a2 a3 a4 a5 (La 210) w Q := ⟨hC.1.1.1, pc_isTrue hL hC hw ⟨so_b hL hO h b01_isTrue, so_x3 h bd_isTrue⟩⟩
theorem bd_length {σ : sj_S} {a2 : Int32} {a3 : Int32} : (ab_length σ a2 a3).1 ≤ 2 := by
  unfold ab_length
  repeat' split
  all_goals exact Nat.le_of_ble_eq_true rfl
theorem lc_length {La : Nat → Nat} {σ : sj_S} {w : sj_W} (hL : sj_La La) (hC : sj_Cm La σ w) (hw : sj_wf σ) (hO : sj_Ou La w) {a2 : Int32} {a3 : Int32} {Q : Int32 → sj_W → Prop} (h : so_pC La w (ab_length σ a2 a3) Q) : vc_L_length (La 0) a2 a3 (La 210) w Q := ⟨hC.1.1.1, pc_length hL hC hw ⟨so_n hL hO h, so_x2 h bd_length⟩⟩
theorem bd_longest {σ : sj_S} {a2 : Int32} {a3 : Int32} : (ab_longest σ a2 a3).1 ≤ 2 := by
  unfold ab_longest
  repeat' split
  all_goals exact Nat.le_of_ble_eq_true rfl
theorem lc_longest {La : Nat → Nat} {σ : sj_S} {w : sj_W} (hL : sj_La La) (hC : sj_Cm La σ w) (hw : sj_wf σ) (hO : sj_Ou La w) {a2 : Int32} {a3 : Int32} {Q : Int32 → sj_W → Prop} (h : so_pC La w (ab_longest σ a2 a3) Q) : vc_L_longest (La 0) a2 a3 (La 210) w Q := ⟨hC.1.1.1, pc_longest hL hC hw ⟨so_n hL hO h, so_x2 h bd_longest⟩⟩
theorem bd_mean {σ : sj_S} {a2 : Int32} : (ab_mean σ a2).1 ≤ 1 := by
  unfold ab_mean
  repeat' split
  all_goals exact Nat.le_of_ble_eq_true rfl
theorem lc_mean {La : Nat → Nat} {σ : sj_S} {w : sj_W} (hL : sj_La La) (hC : sj_Cm La σ w) (hw : sj_wf σ) (hO : sj_Ou La w) {a2 : Int32} {Q : Int32 → sj_W → Prop} (h : so_pmean La w (ab_mean σ a2) Q) : vc_L_mean (La 0) a2 (La 211) w Q := ⟨hC.1.1.1, pc_mean hL hC hw ⟨so_nmean hL hO h, so_xm h bd_mean⟩⟩
theorem bd_number {σ : sj_S} {a2 : Int32} {a3 : Int32} {a4 : Int32} : (ab_number σ a2 a3 a4).1 ≤ 2 := by
  unfold ab_number
  repeat' split
  all_goals exact Nat.le_of_ble_eq_true rfl
theorem lc_number {La : Nat → Nat} {σ : sj_S} {w : sj_W} (hL : sj_La La) (hC : sj_Cm La σ w) (hw : sj_wf σ) (hO : sj_Ou La w) {a2 : Int32} {a3 : Int32} {a4 : Int32} {Q : Int32 → sj_W → Prop} (h : so_pC La w (ab_number σ a2 a3 a4) Q) : vc_L_number (La 0) a2 a3 a4 (La 210) w Q := ⟨hC.1.1.1, pc_number hL hC hw ⟨so_n hL hO h, so_x2 h bd_number⟩⟩
theorem bd_occurs {σ : sj_S} {a2 : Int32} {a3 : Int32} {a4 : Int32} : (ab_occurs σ a2 a3 a4).1 ≤ 3 := by
  unfold ab_occurs
  repeat' split
  all_goals exact Nat.le_of_ble_eq_true rfl
theorem lc_occurs {La : Nat → Nat} {σ : sj_S} {w : sj_W} (hL : sj_La La) (hC : sj_Cm La σ w) (hw : sj_wf σ) (hO : sj_Ou La w) {a2 : Int32} {a3 : Int32} {a4 : Int32} {Q : Int32 → sj_W → Prop} (h : so_pC La w (ab_occurs σ a2 a3 a4) Q) : vc_L_occurs (La 0) a2 a3 a4 (La 210) w Q := ⟨hC.1.1.1, pc_occurs hL hC hw ⟨so_n hL hO h, so_x3 h bd_occurs⟩⟩
theorem bd_period {σ : sj_S} {a2 : Int32} {a3 : Int32} : (ab_period σ a2 a3).1 ≤ 2 := by
  unfold ab_period
  repeat' split
  all_goals exact Nat.le_of_ble_eq_true rfl
theorem lc_period {La : Nat → Nat} {σ : sj_S} {w : sj_W} (hL : sj_La La) (hC : sj_Cm La σ w) (hw : sj_wf σ) (hO : sj_Ou La w) {a2 : Int32} {a3 : Int32} {Q : Int32 → sj_W → Prop} (h : so_pC La w (ab_period σ a2 a3) Q) : vc_L_period (La 0) a2 a3 (La 210) w Q := ⟨hC.1.1.1, pc_period hL hC hw ⟨so_n hL hO h, so_x2 h bd_period⟩⟩
theorem bd_rank {σ : sj_S} {a2 : Int32} {a3 : Int32} {a4 : Int32} : (ab_rank σ a2 a3 a4).1 ≤ 3 := by
  unfold ab_rank
  repeat' split
  all_goals exact Nat.le_of_ble_eq_true rfl
theorem lc_rank {La : Nat → Nat} {σ : sj_S} {w : sj_W} (hL : sj_La La) (hC : sj_Cm La σ w) (hw : sj_wf σ) (hO : sj_Ou La w) {a2 : Int32} {a3 : Int32} {a4 : Int32} {Q : Int32 → sj_W → Prop} (h : so_pC La w (ab_rank σ a2 a3 a4) Q) : vc_L_rank (La 0) a2 a3 a4 (La 210) w Q := ⟨hC.1.1.1, pc_rank hL hC hw ⟨so_n hL hO h, so_x3 h bd_rank⟩⟩
theorem bd_refused {σ : sj_S} {a2 : Int32} {a3 : Int32} {a4 : Int32} {a5 : Int32} {a6 : Int32} : (ab_refused σ a2 a3 a4 a5 a6).1 ≤ 2 := by
  unfold ab_refused
  repeat' split
  all_goals exact Nat.le_of_ble_eq_true rfl
theorem lc_refused {La : Nat → Nat} {σ : sj_S} {w : sj_W} (hL : sj_La La) (hC : sj_Cm La σ w) (hw : sj_wf σ) (hO : sj_Ou La w) {a2 : Int32} {a3 : Int32} {a4 : Int32} {a5 : Int32} {a6 : Int32} {Q : Int32 → sj_W → Prop} (h : so_pC La w (ab_refused σ a2 a3 a4 a5 a6) Q) : vc_L_refused (La 0) a2 a3 a4 a5 a6 (La 210) w Q := ⟨hC.1.1.1, pc_refused hL hC hw ⟨so_n hL hO h, so_x2 h bd_refused⟩⟩
theorem bd_repeat {σ : sj_S} {a2 : Int32} {a3 : Int32} {a4 : Int32} : (ab_repeat σ a2 a3 a4).1 ≤ 3 := by
  unfold ab_repeat
  repeat' split
  all_goals exact Nat.le_of_ble_eq_true rfl
theorem lc_repeat {La : Nat → Nat} {σ : sj_S} {w : sj_W} (hL : sj_La La) (hC : sj_Cm La σ w) (hw : sj_wf σ) (hO : sj_Ou La w) {a2 : Int32} {a3 : Int32} {a4 : Int32} {Q : Int32 → sj_W → Prop} (h : so_pC La w (ab_repeat σ a2 a3 a4) Q) : vc_L_repeat (La 0) a2 a3 a4 (La 210) w Q := ⟨hC.1.1.1, pc_repeat hL hC hw ⟨so_n hL hO h, so_x3 h bd_repeat⟩⟩
theorem bd_reverse {σ : sj_S} {a2 : Int32} {a3 : Int32} : (ab_reverse σ a2 a3).1 ≤ 2 := by
  unfold ab_reverse
  repeat' split
  all_goals exact Nat.le_of_ble_eq_true rfl
theorem lc_reverse {La : Nat → Nat} {σ : sj_S} {w : sj_W} (hL : sj_La La) (hC : sj_Cm La σ w) (hw : sj_wf σ) (hO : sj_Ou La w) {a2 : Int32} {a3 : Int32} {Q : Int32 → sj_W → Prop} (h : so_pC La w (ab_reverse σ a2 a3) Q) : vc_L_reverse (La 0) a2 a3 (La 210) w Q := ⟨hC.1.1.1, pc_reverse hL hC hw ⟨so_n hL hO h, so_x2 h bd_reverse⟩⟩
theorem bd_root {σ : sj_S} {a2 : Int32} {a3 : Int32} : (ab_root σ a2 a3).1 ≤ 2 := by
  unfold ab_root
  repeat' split
  all_goals exact Nat.le_of_ble_eq_true rfl
theorem lc_root {La : Nat → Nat} {σ : sj_S} {w : sj_W} (hL : sj_La La) (hC : sj_Cm La σ w) (hw : sj_wf σ) (hO : sj_Ou La w) {a2 : Int32} {a3 : Int32} {Q : Int32 → sj_W → Prop} (h : so_pC La w (ab_root σ a2 a3) Q) : vc_L_root (La 0) a2 a3 (La 210) w Q := ⟨hC.1.1.1, pc_root hL hC hw ⟨so_n hL hO h, so_x2 h bd_root⟩⟩
theorem bd_rotation {σ : sj_S} {a2 : Int32} {a3 : Int32} {a4 : Int32} : (ab_rotation σ a2 a3 a4).1 ≤ 2 := by
  unfold ab_rotation
  repeat' split
  all_goals exact Nat.le_of_ble_eq_true rfl
theorem lc_rotation {La : Nat → Nat} {σ : sj_S} {w : sj_W} (hL : sj_La La) (hC : sj_Cm La σ w) (hw : sj_wf σ) (hO : sj_Ou La w) {a2 : Int32} {a3 : Int32} {a4 : Int32} {Q : Int32 → sj_W → Prop} (h : so_pC La w (ab_rotation σ a2 a3 a4) Q) : vc_L_rotation (La 0) a2 a3 a4 (La 210) w Q := ⟨hC.1.1.1, pc_rotation hL hC hw ⟨so_n hL hO h, so_x2 h bd_rotation⟩⟩
theorem bd_rowIsTrue {σ : sj_S} {a2 : Int32} {a3 : Int32} {a4 : Int32} : (ab_rowIsTrue σ a2 a3 a4).1 ≤ 2 := by
  unfold ab_rowIsTrue
  repeat' split
  all_goals exact Nat.le_of_ble_eq_true rfl
theorem lc_rowIsTrue {La : Nat → Nat} {σ : sj_S} {w : sj_W} (hL : sj_La La) (hC : sj_Cm La σ w) (hw : sj_wf σ) (hO : sj_Ou La w) {a2 : Int32} {a3 : Int32} {a4 : Int32} {Q : Int32 → sj_W → Prop} (h : so_pC La w (ab_rowIsTrue σ a2 a3 a4) Q) : vc_L_rowIsTrue (La 0) a2 a3 a4 (La 210) w Q := ⟨hC.1.1.1, pc_rowIsTrue hL hC hw ⟨so_b hL hO h b01_rowIsTrue, so_x2 h bd_rowIsTrue⟩⟩
theorem bd_set {σ : sj_S} {a2 : Int32} {a3 : Int32} {a4 : Int32} {a5 : Int64} : (ab_set σ a2 a3 a4 a5).1 ≤ 2 := by
  unfold ab_set
  repeat' split
  all_goals exact Nat.le_of_ble_eq_true rfl
theorem lc_set {La : Nat → Nat} {σ : sj_S} {w : sj_W} (hL : sj_La La) (hC : sj_Cm La σ w) (hw : sj_wf σ) (hO : sj_Ou La w) {a2 : Int32} {a3 : Int32} {a4 : Int32} {a5 : Int64} {Q : Int32 → sj_W → Prop} (h : so_pC La w (ab_set σ a2 a3 a4 a5) Q) : vc_L_set (La 0) a2 a3 a4 a5 (La 210) w Q := ⟨hC.1.1.1, pc_set hL hC hw ⟨so_n hL hO h, so_x2 h bd_set⟩⟩
theorem bd_share {σ : sj_S} {a2 : Int32} : (ab_share σ a2).1 ≤ 2 := by
  unfold ab_share
  repeat' split
  all_goals exact Nat.le_of_ble_eq_true rfl
theorem lc_share {La : Nat → Nat} {σ : sj_S} {w : sj_W} (hL : sj_La La) (hC : sj_Cm La σ w) (hw : sj_wf σ) (hO : sj_Ou La w) {a2 : Int32} {Q : Int32 → sj_W → Prop} (h : so_pshare La w (ab_share σ a2) Q) : vc_L_share (La 0) a2 (La 211) w Q := ⟨hC.1.1.1, pc_share hL hC hw ⟨so_nshare hL hO h, so_z2 h bd_share⟩⟩
theorem bd_sort {σ : sj_S} {a2 : Int32} {a3 : Int32} : (ab_sort σ a2 a3).1 ≤ 1 := by
  unfold ab_sort
  repeat' split
  all_goals exact Nat.le_of_ble_eq_true rfl
theorem lc_sort {La : Nat → Nat} {σ : sj_S} {w : sj_W} (hL : sj_La La) (hC : sj_Cm La σ w) (hw : sj_wf σ) (hO : sj_Ou La w) {a2 : Int32} {a3 : Int32} {Q : Int32 → sj_W → Prop} (h : so_pC La w (ab_sort σ a2 a3) Q) : vc_L_sort (La 0) a2 a3 (La 210) w Q := ⟨hC.1.1.1, pc_sort hL hC hw ⟨so_n hL hO h, so_x1 h bd_sort⟩⟩
theorem bd_sorted {σ : sj_S} {a2 : Int32} : (ab_sorted σ a2).1 ≤ 1 := by
  unfold ab_sorted
  repeat' split
  all_goals exact Nat.le_of_ble_eq_true rfl
theorem lc_sorted {La : Nat → Nat} {σ : sj_S} {w : sj_W} (hL : sj_La La) (hC : sj_Cm La σ w) (hw : sj_wf σ) (hO : sj_Ou La w) {a2 : Int32} {Q : Int32 → sj_W → Prop} (h : so_pC La w (ab_sorted σ a2) Q) : vc_L_sorted (La 0) a2 (La 210) w Q := ⟨hC.1.1.1, pc_sorted hL hC hw ⟨so_n hL hO h, so_y1 h bd_sorted⟩⟩
theorem bd_span {σ : sj_S} {a2 : Int32} {a3 : Int32} {a4 : Int32} {a5 : Int32} : (ab_span σ a2 a3 a4 a5).1 ≤ 2 := by
  unfold ab_span
  repeat' split
  all_goals exact Nat.le_of_ble_eq_true rfl
theorem lc_span {La : Nat → Nat} {σ : sj_S} {w : sj_W} (hL : sj_La La) (hC : sj_Cm La σ w) (hw : sj_wf σ) (hO : sj_Ou La w) {a2 : Int32} {a3 : Int32} {a4 : Int32} {a5 : Int32} {Q : Int32 → sj_W → Prop} (h : so_pC La w (ab_span σ a2 a3 a4 a5) Q) : vc_L_span (La 0) a2 a3 a4 a5 (La 210) w Q := ⟨hC.1.1.1, pc_span hL hC ⟨so_n hL hO h, so_y2 h bd_span⟩⟩
theorem bd_tells {σ : sj_S} {a2 : Int32} {a3 : Int32} : (ab_tells σ a2 a3).1 ≤ 2 := by
  unfold ab_tells
  repeat' split
  all_goals exact Nat.le_of_ble_eq_true rfl
theorem lc_tells {La : Nat → Nat} {σ : sj_S} {w : sj_W} (hL : sj_La La) (hC : sj_Cm La σ w) (hw : sj_wf σ) (hO : sj_Ou La w) {a2 : Int32} {a3 : Int32} {Q : Int32 → sj_W → Prop} (h : so_pC La w (ab_tells σ a2 a3) Q) : vc_L_tells (La 0) a2 a3 (La 210) w Q := ⟨hC.1.1.1, pc_tells hL hC ⟨so_n hL hO h, so_y2 h bd_tells⟩⟩

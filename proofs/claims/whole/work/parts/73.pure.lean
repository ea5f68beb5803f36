/-! the reference: convert -/
theorem pm_okE {La : Nat → Nat} {σ : sj_S} {w : sj_W} (hL : sj_La La) (hM : sj_Mo La σ w) {X Y : sj_W → Prop} (h : X (sj_sI w 47 (La 200) (nI 0))) : sj_T w (La 200) = 6 ∧ vc_X7_fails (La 200) 0 w (fun r w' => (r = 0 → X w') ∧ (¬ r = 0 → Y w')) := by
  refine ⟨hM.1.1, hM.1.1, fun w1 e => ⟨fun _ => ⟨fun _ => ?_, fun z => absurd rfl z⟩, fun z => absurd (by decide) z⟩⟩
  subst e
  exact h
theorem pm_half {k : Nat} (hk : k < 3) {w : sj_W} {Q : Int64 → sj_W → Prop} (h : Q (-sj_least k) w) : vc_X7_half (nI k) w Q := by
  have e : k = 0 ∨ k = 1 ∨ k = 2 := by omega
  rcases e with rfl | rfl | rfl
  · exact ⟨fun z => absurd rfl z, fun _ => h⟩
  · exact ⟨fun _ => ⟨fun z => absurd rfl z, fun _ => h⟩, fun z => absurd z (by decide)⟩
  · exact ⟨fun _ => ⟨fun _ => h, fun z => absurd z (by decide)⟩, fun z => absurd z (by decide)⟩
theorem sj_chU {k : Nat} (x : Int64) : x + 2 * -sj_least k = x - 2 * sj_least k := by
  rw [Int64.sub_eq_add_neg, Int64.mul_neg]
theorem sj_chT (x y : Int64) : x + -y = x - y := (Int64.sub_eq_add_neg x y).symm
theorem sj_chL1 (x : Int64) : x + 9223372036854775807 + 1 = x - sj_least 3 := by
  have e : (9223372036854775807 : Int64) + 1 = -sj_least 3 := by decide
  rw [Int64.add_assoc, e, sj_chT]
theorem sj_chL2 (x : Int64) : x - 9223372036854775807 - 1 = x + sj_least 3 := by
  have e : (-9223372036854775807 : Int64) + -1 = sj_least 3 := by decide
  rw [Int64.sub_eq_add_neg, Int64.sub_eq_add_neg, Int64.add_assoc, e]
theorem sj_kd3 {a : Int32} {k : Nat} (h : sj_kd a = some k) : (a = 108) = (k = 3) := by
  unfold sj_kd at h
  refine propext ⟨fun e => ?_, fun e => ?_⟩
  · subst e
    rw [if_neg (by decide), if_neg (by decide), if_neg (by decide), if_pos rfl] at h
    cases h
    rfl
  · subst e
    repeat' split at h
    all_goals first | assumption | cases h
theorem sj_bAnd (t : Bool) (b : Bool) : sj_b t &&& sj_b b = sj_b (t && b) := by cases t <;> cases b <;> rfl
theorem sj_b_0 {t : Bool} : (sj_b t = 0) = (t = false) := by cases t <;> simp <;> decide
theorem pm_convert {La : Nat → Nat} {σ : sj_S} {w : sj_W} (hL : sj_La La) (hM : sj_Mo La σ w) (hw : sj_wf σ) {a1 a2 a3 a4 a5 : Int32} {Q : Int32 → sj_W → Prop} (h : so_pM La w (ab_convert σ a1 a2 a3 a4 a5) Int32.toInt64 Q) : vc_X7_convert (La 200) a1 a2 a3 a4 a5 w Q := by
  unfold ab_convert at h
  refine pm_isKind (fun k hk hk4 => sj_jn1_i (fun c w' => w' = w ∧ c = sj_b ((sj_kd a3).isSome && decide (sj_how a5))) (fun E hE => ⟨fun z => absurd z (by decide), fun _ => pm_isKind (fun k2 hk2 _ => ⟨fun z => absurd z (by decide), fun _ => ⟨fun e => ?_, fun e => ⟨fun e2 => ?_, fun e2 => ⟨fun e3 => ?_, fun e3 => ?_⟩⟩⟩⟩) (fun hk2 => ⟨fun _ => ?_, fun z => absurd rfl z⟩)⟩) ?_) (fun hk => ⟨fun _ => ⟨fun z => absurd rfl z, fun _ => ?_⟩, fun z => absurd rfl z⟩)
  · exact hE 1 w ⟨rfl, by rw [hk2, decide_eq_true (Or.inl e)]; rfl⟩
  · exact hE 1 w ⟨rfl, by rw [hk2, decide_eq_true (Or.inr (Or.inl e2))]; rfl⟩
  · exact hE 0 w ⟨rfl, by rw [hk2, decide_eq_false (fun z : sj_how a5 => z.elim e (fun z => z.elim e2 e3))]; rfl⟩
  · exact hE 1 w ⟨rfl, by rw [hk2, decide_eq_true (Or.inr (Or.inr e3))]; rfl⟩
  · exact hE 0 w ⟨rfl, by rw [hk2]; rfl⟩
  · rintro c0 w' ⟨rfl, rfl⟩
    cases hk2 : sj_kd a3 with
    | none =>
      simp only [hk, hk2] at h
      exact ⟨fun z => absurd rfl z, fun _ => pm_no hL hM 1 (by decide) (by decide) h⟩
    | some k2 =>
      have hk24 := sj_kd_lt hk2
      by_cases hh : sj_how a5
      · rw [decide_eq_true hh]
        refine ⟨fun _ => pm_isRow (fun r hr er hr4 => ⟨fun z => absurd z (by decide), fun _ => pm_isRow (fun r2 hr2 er2 hr24 => ⟨fun z => absurd z (by decide), fun _ => ?_⟩) (fun hr2 => ⟨fun _ => ?_, fun z => absurd rfl z⟩)⟩) (fun hr => ⟨fun _ => ?_, fun z => absurd rfl z⟩), fun z => absurd z (by show ¬ sj_b true = 0; decide)⟩
        · subst er er2
          simp only [hk, hk2, hr, hr2, if_pos hh] at h
          have hr16 : k * 4 + r < 16 := by omega
          have c := (hw.1 (k * 4 + r) (by omega)).1
          refine pm_ok hL hM (fun w1 hf hM1 h47 => ⟨hM1.1.1, pm_size hL hM1 hk hr4 ⟨sj_nn0 (by omega), by rw [sj_clI (by omega)]; exact c, fun q hq0 hqT w2 e2 => ?_⟩⟩)
          rw [sj_clI (by omega)] at e2
          have g2 : sj_fr sj_no w1 w2 := by rw [e2]; exact sj_fr.rf.nw hqT
          have nq : ∀ w', sj_fr sj_no w1 w' → sj_Mo La σ w' := fun w' hf => hM1.fr hf (fun _ _ _ z => z) (((hf (La 200) (by rw [hM1.1.1]; decide)).2.2.2.2 (fun z => z)).1 46)
          have can3 : (∀ j, j < sj_n σ (k * 4 + r) → sj_can k a5 (sj_x σ (k * 4 + r) j) k2) ∨ ∃ j, j < sj_n σ (k * 4 + r) ∧ ¬ sj_can k a5 (sj_x σ (k * 4 + r) j) k2 := by
            by_cases z : ∀ j, j < sj_n σ (k * 4 + r) → sj_can k a5 (sj_x σ (k * 4 + r) j) k2
            · exact Or.inl z
            · refine Or.inr (Classical.byContradiction fun y => z (fun j hj => Classical.byContradiction fun t => y ⟨j, hj, t⟩))
          refine sj_lp2_run (fun v9 v10 w' => ∃ i t, v10 = nI i ∧ i ≤ sj_n σ (k * 4 + r) ∧ v9 = sj_b t ∧ (t = true → ∀ j, j < i → sj_can k a5 (sj_x σ (k * 4 + r) j) k2 ∧ sj_l w' q j = sj_ch k a5 (sj_x σ (k * 4 + r) j)) ∧ (t = false → ∃ j, j < i ∧ ¬ sj_can k a5 (sj_x σ (k * 4 + r) j) k2) ∧ sj_fr sj_no w1 w' ∧ sj_T w' q = 8 ∧ sj_N w' q = sj_n σ (k * 4 + r)) (fun _ v _ => 40 - v.toNatClampNeg) ?_ 64 _ _ _ ⟨0, true, rfl, Nat.zero_le _, rfl, fun _ j hj => absurd hj (Nat.not_lt_zero _), fun z => absurd z (by decide), g2, by rw [e2]; exact if_pos rfl, by rw [e2]; exact if_pos rfl⟩ (by omega)
          rintro v9 v10 w3 K ⟨i, t, rfl, hi, rfl, ht1, ht0, hf3, hqT3, hqN3⟩ hK
          have hM3 := nq w3 hf3
          have m3 := hM3.all
          unfold vb_X7_convert_100
          rw [sj_leI (by omega) (by omega)]
          refine ⟨fun q4 => ?_, fun q4 => ⟨m3.1.1, by rw [m3.1.2.1]; exact hL.2 _, m3.1.1, pm_at hk ?_⟩⟩
          · have ei : i = sj_n σ (k * 4 + r) := by omega
            subst ei
            cases t with
            | false =>
              obtain ⟨j, hj, hnc⟩ := ht0 rfl
              rw [if_neg (by rw [sj_canAll_f hj hnc]; decide)] at h
              refine ⟨fun _ => ?_, fun z => absurd rfl z⟩
              exact pm_no hL hM3 3 (by decide) (by decide) (fun r0 w0 y1 y2 y3 y4 => h r0 w0 ((hf.trans (hf3.mono fun _ z => z.elim)).trans y1) y2 y3 y4)
            | true =>
              have hall := ht1 rfl
              rw [if_pos (sj_canAll_t fun j hj => (hall j hj).1)] at h
              refine ⟨fun z => absurd z (by decide), fun _ => pm_okE hL hM3 ?_⟩
              have hM4 := hM3.w47 hL (nI 0)
              have hf4 : sj_fr (so_XM La) w' (sj_sI w3 47 (La 200) (nI 0)) := (hf.trans (hf3.mono fun _ z => z.elim)).trans (sj_fr.m47 _)
              have h474 := sj_r47 w3 (La 200) (nI 0)
              have hq4 : sj_T (sj_sI w3 47 (La 200) (nI 0)) q = 8 ∧ sj_N (sj_sI w3 47 (La 200) (nI 0)) q = sj_n σ (k * 4 + r) ∧ ∀ j, j < sj_n σ (k * 4 + r) → sj_l (sj_sI w3 47 (La 200) (nI 0)) q j = sj_ch k a5 (sj_x σ (k * 4 + r) j) := ⟨hqT3, hqN3, fun j hj => (hall j hj).2⟩
              have nX : ¬ sj_XR La q := fun z => z.elim (fun e => by have := hM1.2.1.1; rw [e, this] at hqT; cases hqT) (fun e => by have := hM1.2.2.1.1; rw [e, this] at hqT; cases hqT)
              generalize sj_sI w3 47 (La 200) (nI 0) = w4 at hM4 hf4 h474 hq4
              have ms4 := hM4.ms
              have m4 := hM4.all
              refine sj_lp1_run (fun v w' => ∃ p, v = nI p ∧ p ≤ sj_n σ (k * 4 + r) ∧ sj_fr (sj_XR La) w4 w' ∧ (∀ i, sj_i w' (La 202) i = sj_i w4 (La 202) i) ∧ (∀ j, j < p → sj_l w' (La 201) (32 * (k2 * 4 + r2) + j) = sj_ch k a5 (sj_x σ (k * 4 + r) j)) ∧ (∀ i j, i < 16 → i ≠ k2 * 4 + r2 → j < 32 → sj_l w' (La 201) (32 * i + j) = sj_l w4 (La 201) (32 * i + j))) (fun v _ => 40 - v.toNatClampNeg) ?_ 64 _ _ ⟨0, rfl, by omega, sj_fr.rf, fun i => rfl, fun j hj => absurd hj (Nat.not_lt_zero _), fun i j _ _ _ => rfl⟩ (by omega)
              rintro v w5 K2 ⟨p, rfl, hp, hfr, hi5, hx, hxo⟩ hK2
              have ms' := ms4.fr hfr
              have q5 := hfr q (by rw [hq4.1]; decide)
              have q5T := q5.1.trans hq4.1
              have q5N := q5.2.1.trans hq4.2.1
              have q5l := (q5.2.2.2.2 nX).2.2.2.1
              unfold vb_X7_convert_305
              rw [sj_leI (by omega) (by omega)]
              refine ⟨fun q6 => ⟨ms'.1.1, pm_resizeR hL ms' hk2 hr24 ?_⟩, fun q6 => ⟨ms'.1.1, by rw [ms'.1.2.1]; exact hL.2 _, ms'.1.1, pm_at hk2 ?_⟩⟩
              · have ep : p = sj_n σ (k * 4 + r) := by omega
                subst ep
                have f3 := hfr.i (a := La 202) (j := k2 * 4 + r2) (v := nI (sj_n σ (k * 4 + r))) (Or.inl (Or.inr rfl))
                exact so_g h (hf4.trans (sj_XR.x f3)) (hM4.row hL hw f3 (if_pos ⟨rfl, rfl⟩) (fun i hi2 hne => (if_neg (fun z => hne z.2)).trans (hi5 i)) (fun j hj => hx j hj) (fun i j hi2 hne hj => hxo i j hi2 hne hj)) ((sj_XR.i47 hL ms4 f3 47).trans h474) rfl
              · unfold sj_Ms at ms'
                simp (disch := omega) only [ne_eq, and_self, not_false_eq_true, not_true_eq_false, true_and, and_true, true_or, or_true, false_or, or_false, forall_eq, forall_const, true_implies, false_implies, if_true, if_false, sj_lits, sj_addI, sj_mulI, sj_clI, sj_inI, sj_ltI, sj_leI, sj_eqI, sj_lcI, ms', hL.nz, sj_rd, q5T, q5N]
                refine ⟨by omega, by omega, hK2 _ _ ⟨p + 1, rfl, by omega, hfr.l (Or.inl (Or.inl rfl)), hi5, fun j hj => ?_, fun i j hi2 hne hj => ?_⟩ ?_⟩
                · simp (disch := omega) only [ne_eq, and_self, not_false_eq_true, not_true_eq_false, true_and, and_true, true_or, or_true, false_or, or_false, forall_eq, forall_const, true_implies, false_implies, if_true, if_false, sj_lits, sj_addI, sj_mulI, sj_clI, sj_inI, sj_ltI, sj_leI, sj_eqI, sj_lcI, sj_rd]
                  by_cases cj : j = p
                  · subst cj
                    rw [if_pos rfl, q5l, hq4.2.2 _ (by omega)]
                  · rw [if_neg (by omega)]
                    exact hx j (by omega)
                · simp (disch := omega) only [ne_eq, and_self, not_false_eq_true, not_true_eq_false, true_and, and_true, true_or, or_true, false_or, or_false, forall_eq, forall_const, true_implies, false_implies, if_true, if_false, sj_lits, sj_addI, sj_mulI, sj_clI, sj_inI, sj_ltI, sj_leI, sj_eqI, sj_lcI, sj_rd]
                  rw [if_neg (by omega)]
                  exact hxo i j hi2 hne hj
                · rw [sj_clI (by omega), sj_clI (by omega)]; omega
          · have ei : sj_l w3 (La 201) (32 * (k * 4 + r) + i) = sj_x σ (k * 4 + r) i := m3.2.2.2.2.2.2.2.2.1 _ _ hr16 (by omega)
            have es : nI i + 1 = nI (i + 1) := sj_s1 i
            rw [m3.1.2.1, sj_clI (n := 32 * (k * 4 + r) + i) (by omega), ei]
            generalize hX : sj_x σ (k * 4 + r) i = x
            refine ⟨m3.2.1.1, by rw [m3.2.1.2, sj_inI (by omega)]; omega, ?_⟩
            have core : ∀ f' v', ((a5 = 117 ∧ k = 3 ∧ x.toInt < 0) → f' = 0) → (¬ (a5 = 117 ∧ k = 3 ∧ x.toInt < 0) → f' = sj_b t ∧ v' = sj_ch k a5 x) → vc_X7_kindOf a3 w3 (fun r132 w133 => vc_X7_isOf r132 v' w133 (fun r135 w136 => sj_T w136 q = 8 ∧ vp_in (nI i) (sj_N w136 q) ∧ ∀ w138 : sj_W, w138 = sj_sl w136 q (nI i).toNatClampNeg v' → K (f' &&& r135) (nI i + 1) w138)) := by
              intro f' v' hA hB
              refine pm_kind hk2 ?_
              have wr : ∀ t' : Bool, f' &&& sj_b (decide (sj_inK k2 v')) = sj_b t' → (t' = true → t = true ∧ sj_can k a5 x k2 ∧ v' = sj_ch k a5 x) → (t' = false → t = false ∨ ¬ sj_can k a5 x k2) → K (f' &&& sj_b (decide (sj_inK k2 v'))) (nI i + 1) (sj_sl w3 q i v') := by
                intro t' e y1 y0
                rw [e, es]
                refine hK _ _ _ ⟨i + 1, t', rfl, by omega, rfl, fun z j hj => ?_, fun z => ?_, hf3.l (Or.inr hqT), hqT3, hqN3⟩ ?_
                · obtain ⟨z1, z2, z3⟩ := y1 z
                  show _ ∧ (if q = q ∧ j = i then v' else sj_l w3 q j) = _
                  by_cases cj : j = i
                  · subst cj
                    rw [if_pos ⟨rfl, rfl⟩, hX]
                    exact ⟨z2, z3⟩
                  · rw [if_neg (fun z => cj z.2)]
                    exact ht1 z1 j (by omega)
                · rcases y0 z with y | y
                  · obtain ⟨j, hj, hnc⟩ := ht0 y
                    exact ⟨j, by omega, hnc⟩
                  · exact ⟨i, by omega, by rw [hX]; exact y⟩
                · rw [sj_clI (by omega), sj_clI (by omega)]; omega
              have fin : K (f' &&& sj_b (decide (sj_inK k2 v'))) (nI i + 1) (sj_sl w3 q i v') := by
                by_cases hU : a5 = 117 ∧ k = 3 ∧ x.toInt < 0
                · have := hA hU
                  subst this
                  refine wr false (by cases decide (sj_inK k2 v') <;> rfl) (fun z => absurd z (by decide)) (fun _ => Or.inr (fun z => z.1 hU))
                · obtain ⟨e1, e2⟩ := hB hU
                  subst e1
                  refine wr _ (sj_bAnd _ _) (fun z => ?_) (fun z => ?_)
                  · have z := (Bool.and_eq_true _ _).mp z
                    exact ⟨z.1, ⟨hU, by rw [← e2]; exact of_decide_eq_true z.2⟩, e2⟩
                  · rcases (Bool.and_eq_false_iff).mp z with y | y
                    · exact Or.inl y
                    · exact Or.inr (fun y2 => of_decide_eq_false y (by rw [e2]; exact y2.2))
              refine pm_isOf hk24 (fun y => ?_) (fun y => ?_)
              · rw [decide_eq_true y] at fin
                refine ⟨hqT3, by rw [hqN3, sj_inI (by omega)]; omega, fun w8 e8 => ?_⟩
                rw [e8, sj_clI (by omega)]
                exact fin
              · rw [decide_eq_false y] at fin
                refine ⟨hqT3, by rw [hqN3, sj_inI (by omega)]; omega, fun w8 e8 => ?_⟩
                rw [e8, sj_clI (by omega)]
                exact fin
            refine sj_jn1_i (fun c w' => w' = w3 ∧ c = sj_b (decide (x.toInt < 0))) (fun E hE => ⟨fun z => hE _ _ ⟨rfl, ?_⟩, fun z => hE _ _ ⟨rfl, ?_⟩⟩) ?_
            · rw [sj_ge0] at z
              rw [decide_eq_false (by omega)]
              rfl
            · rw [sj_ge0] at z
              rw [decide_eq_true (by omega)]
              rfl
            · rintro c0 w' ⟨rfl, rfl⟩
              rw [sj_b_0, sj_kd3 hk]
              have hc3 : a5 = 110 ∨ a5 = 117 ∨ a5 = 116 := hh
              by_cases xn : x.toInt < 0
              · rw [decide_eq_true xn]
                refine ⟨fun kn => ⟨fun d1 => ⟨fun d2 => core _ _ (fun y => absurd y.2.1 kn) (fun _ => ⟨rfl, ?_⟩), fun d2 => ⟨fun z => absurd z (by decide), fun _ => pm_kind hk (pm_half (by omega) (core _ _ (fun y => absurd y.2.1 kn) (fun _ => ⟨rfl, ?_⟩)))⟩⟩, fun d1 => ⟨fun z => absurd z (by decide), fun _ => pm_kind hk (pm_half (by omega) ⟨fun d2 => core _ _ (fun y => absurd y.2.1 kn) (fun _ => ⟨rfl, ?_⟩), fun d2 => absurd (d1.symm.trans d2) (by decide)⟩)⟩⟩, fun kn => ⟨fun d1 => ⟨fun d2 => core _ _ (fun y => absurd y.1 d1) (fun _ => ⟨rfl, ?_⟩), fun d2 => ⟨fun z => absurd z (by decide), fun _ => core _ _ (fun y => absurd y.1 d1) (fun _ => ⟨rfl, ?_⟩)⟩⟩, fun d1 => ⟨fun z => absurd z (by decide), fun _ => ⟨fun d2 => core _ _ (fun _ => rfl) (fun y => absurd ⟨d1, kn, xn⟩ y), fun d2 => absurd (d1.symm.trans d2) (by decide)⟩⟩⟩⟩
                all_goals unfold sj_ch
                · rw [if_neg d1, if_neg d2]
                · rw [if_neg d1, if_pos d2, if_neg (by omega)]; exact sj_chT _ _
                · rw [if_pos d1, if_neg (by omega)]; exact sj_chU _
                · rw [if_neg d1, if_neg d2]
                · rw [if_neg d1, if_pos d2, if_neg (by omega), kn]; exact sj_chL1 _
              · rw [decide_eq_false xn]
                refine ⟨fun kn => ⟨fun d1 => ⟨fun d2 => core _ _ (fun y => absurd y.2.1 kn) (fun _ => ⟨rfl, ?_⟩), fun d2 => ⟨fun _ => pm_kind hk (pm_half (by omega) (core _ _ (fun y => absurd y.2.1 kn) (fun _ => ⟨rfl, ?_⟩))), fun z => absurd rfl z⟩⟩, fun d1 => ⟨fun _ => ⟨fun d2 => core _ _ (fun y => absurd y.2.1 kn) (fun _ => ⟨rfl, ?_⟩), fun d2 => absurd (d1.symm.trans d2) (by decide)⟩, fun z => absurd rfl z⟩⟩, fun kn => ⟨fun d1 => ⟨fun d2 => core _ _ (fun y => absurd y.1 d1) (fun _ => ⟨rfl, ?_⟩), fun d2 => ⟨fun _ => core _ _ (fun y => absurd y.1 d1) (fun _ => ⟨rfl, ?_⟩), fun z => absurd rfl z⟩⟩, fun d1 => ⟨fun _ => ⟨fun d2 => core _ _ (fun y => absurd y.2.2 xn) (fun _ => ⟨rfl, ?_⟩), fun d2 => absurd (d1.symm.trans d2) (by decide)⟩, fun z => absurd rfl z⟩⟩⟩
                all_goals unfold sj_ch
                · rw [if_neg d1, if_neg d2]
                · rw [if_neg d1, if_pos d2, if_pos (by omega), Int64.neg_neg]
                · rw [if_pos d1, if_pos (by omega)]
                · rw [if_neg d1, if_neg d2]
                · rw [if_neg d1, if_pos d2, if_pos (by omega), kn]; exact sj_chL2 _
                · rw [if_pos d1, if_pos (by omega)]
        · simp only [hk, hk2, hr, hr2, if_pos hh] at h
          exact pm_no hL hM 2 (by decide) (by decide) h
        · simp only [hk, hk2, hr, if_pos hh] at h
          exact pm_no hL hM 2 (by decide) (by decide) h
      · rw [decide_eq_false hh]
        simp only [hk, hk2, if_neg hh] at h
        exact ⟨fun z => absurd rfl z, fun _ => pm_no hL hM 1 (by decide) (by decide) h⟩
  · simp only [hk] at h
    exact pm_no hL hM 1 (by decide) (by decide) h

/-! THE COMPONENT IS MADE: where its names stand -/
def sj_pz (i : Nat) : Nat := if i < 6 then i else if i = 6 then 39 else if i = 7 then 73 else if i = 8 then 74 else if i < 43 then i - 4 else if i < 83 then i - 10 else if i < 116 then 76 + 2 * (i - 100) else if i < 136 then 77 + 2 * (i - 120) else if i < 152 then i - 32 else if i < 207 then i - 80 else i - 83
theorem sj_pz10 {k : Nat} (h : k < 33) : sj_pz (10 + k) = 6 + k := by
  unfold sj_pz
  repeat' split
  all_goals omega
theorem sj_pz50 {k : Nat} (h : k < 33) : sj_pz (50 + k) = 40 + k := by
  unfold sj_pz
  repeat' split
  all_goals omega
theorem sj_pz100 {k : Nat} (h : k < 16) : sj_pz (100 + k) = 76 + 2 * k := by
  unfold sj_pz
  repeat' split
  all_goals omega
theorem sj_pz120 {k : Nat} (h : k < 16) : sj_pz (120 + k) = 77 + 2 * k := by
  unfold sj_pz
  repeat' split
  all_goals omega
theorem sj_pz140 {k : Nat} (h : k < 12) : sj_pz (140 + k) = 108 + k := by
  unfold sj_pz
  repeat' split
  all_goals omega
/-! what the loops keep: all but the references at x -/
def sj_kpr (x : Nat) (w w' : sj_W) : Prop := ∀ a, sj_T w a ≠ 0 → sj_T w' a = sj_T w a ∧ sj_N w' a = sj_N w a ∧ (∀ f, sj_A w' f a = sj_A w f a) ∧ (∀ f, sj_I w' f a = sj_I w f a) ∧ (∀ j, sj_i w' a j = sj_i w a j) ∧ (a ≠ x → ∀ j, sj_r w' a j = sj_r w a j)
theorem sj_kpr.trans {x : Nat} {w1 w2 w3 : sj_W} (h : sj_kpr x w1 w2) (g : sj_kpr x w2 w3) : sj_kpr x w1 w3 := by
  intro a ha
  obtain ⟨h1, h2, h3, h4, h5, h6⟩ := h a ha
  obtain ⟨g1, g2, g3, g4, g5, g6⟩ := g a (by rw [h1]; exact ha)
  exact ⟨g1.trans h1, g2.trans h2, fun f => (g3 f).trans (h3 f), fun f => (g4 f).trans (h4 f), fun j => (g5 j).trans (h5 j), fun hx j => (g6 hx j).trans (h6 hx j)⟩
theorem sj_kpr.rf {x : Nat} {w : sj_W} : sj_kpr x w w := fun _ _ => ⟨rfl, rfl, fun _ => rfl, fun _ => rfl, fun _ => rfl, fun _ _ => rfl⟩
theorem sj_kpr.up {x : Nat} {w w' : sj_W} (h : sj_kpr x w w') : ∀ a, sj_T w a ≠ 0 → sj_T w' a ≠ 0 := fun a ha => by rw [(h a ha).1]; exact ha
theorem sj_kt.A {m s f v : Nat} {w : sj_W} (hf : m < f) : sj_kt m s w (sj_sA w f s v) := by
  intro a ha
  refine ⟨rfl, rfl, fun f' hf' => ?_, fun _ => rfl, fun _ => rfl, fun _ => rfl⟩
  show (if f' = f ∧ a = s then v else sj_A w f' a) = _
  rw [if_neg (fun z => by have := hf' z.2; omega)]
theorem sj_stepR {w : sj_W} {q b x i : Nat} (hq : sj_T w q = 0) (hb : sj_T (sj_nw w q 2 0) b = 0) (hx : sj_T w x ≠ 0) : sj_kpr x w (sj_sr (sj_sA (sj_nw (sj_nw w q 2 0) b 8 32) 8 q b) x i q) ∧ (∀ j, sj_r (sj_sr (sj_sA (sj_nw (sj_nw w q 2 0) b 8 32) 8 q b) x i q) x j = if j = i then q else sj_r w x j) ∧
    sj_T (sj_sr (sj_sA (sj_nw (sj_nw w q 2 0) b 8 32) 8 q b) x i q) q = 2 ∧ sj_A (sj_sr (sj_sA (sj_nw (sj_nw w q 2 0) b 8 32) 8 q b) x i q) 8 q = b ∧ sj_T (sj_sr (sj_sA (sj_nw (sj_nw w q 2 0) b 8 32) 8 q b) x i q) b = 8 ∧ sj_N (sj_sr (sj_sA (sj_nw (sj_nw w q 2 0) b 8 32) 8 q b) x i q) b = 32 ∧ sj_I (sj_sr (sj_sA (sj_nw (sj_nw w q 2 0) b 8 32) 8 q b) x i q) 9 q = 0 ∧ q ≠ b ∧ sj_T w b = 0 := by
  have hbq : b ≠ q := fun e => by
    have : sj_T (sj_nw w q 2 0) b = 2 := if_pos e
    rw [this] at hb
    cases hb
  have hb0 : sj_T w b = 0 := (if_neg hbq).symm.trans hb
  refine ⟨fun a ha => ?_, fun j => ?_, (if_neg (fun e => hbq e.symm)).trans (if_pos rfl), if_pos ⟨rfl, rfl⟩, if_pos rfl, if_pos rfl, (if_neg (fun e => hbq e.symm)).trans (if_pos rfl), fun e => hbq e.symm, hb0⟩
  · have n1 : a ≠ q := fun e => ha (by rw [e]; exact hq)
    have n2 : a ≠ b := fun e => ha (by rw [e]; exact hb0)
    refine ⟨(if_neg n2).trans (if_neg n1), (if_neg n2).trans (if_neg n1), fun f => ?_, fun f => (if_neg n2).trans (if_neg n1), fun j => (if_neg n2).trans (if_neg n1), fun hx j => ?_⟩
    · exact (if_neg (fun z => n1 z.2)).trans ((if_neg n2).trans (if_neg n1))
    · exact (if_neg (fun z => hx z.1)).trans ((if_neg n2).trans (if_neg n1))
  · have n1 : x ≠ q := fun e => hx (by rw [e]; exact hq)
    have n2 : x ≠ b := fun e => hx (by rw [e]; exact hb0)
    show (if x = x ∧ j = i then q else if x = b then 0 else if x = q then 0 else sj_r w x j) = _
    rw [if_neg n2, if_neg n1]
    by_cases e : j = i
    · rw [if_pos ⟨rfl, e⟩, if_pos e]
    · rw [if_neg (fun z => e z.2), if_neg e]
theorem sj_stepP {w : sj_W} {q x i : Nat} (hq : sj_T w q = 0) (hx : sj_T w x ≠ 0) : sj_kpr x w (sj_sr (sj_nw w q 3 0) x i q) ∧ (∀ j, sj_r (sj_sr (sj_nw w q 3 0) x i q) x j = if j = i then q else sj_r w x j) ∧ sj_T (sj_sr (sj_nw w q 3 0) x i q) q = 3 ∧ ∀ f, sj_I (sj_sr (sj_nw w q 3 0) x i q) f q = 0 := by
  refine ⟨fun a ha => ?_, fun j => ?_, if_pos rfl, fun f => if_pos rfl⟩
  · have n1 : a ≠ q := fun e => ha (by rw [e]; exact hq)
    exact ⟨if_neg n1, if_neg n1, fun f => if_neg n1, fun f => if_neg n1, fun j => if_neg n1, fun hx j => (if_neg (fun z => hx z.1)).trans (if_neg n1)⟩
  · have n1 : x ≠ q := fun e => hx (by rw [e]; exact hq)
    show (if x = x ∧ j = i then q else if x = q then 0 else sj_r w x j) = _
    rw [if_neg n1]
    by_cases e : j = i
    · rw [if_pos ⟨rfl, e⟩, if_pos e]
    · rw [if_neg (fun z => e z.2), if_neg e]
theorem pc_init {w W0 : sj_W} {q9 : Nat} (hq : q9 ≠ 0) (hT : sj_T w q9 = 0) (e0 : W0 = sj_nw w q9 5 0) {Q : sj_W → Prop} (h : ∀ w' g, sj_fr sj_no w w' → sj_nam g 120 w' → g 0 = q9 → sj_Cm (fun i => g (sj_pz i)) sj_S0 w' → Q w') : vc_X6_init q9 W0 Q := by
  have f0 : sj_fr sj_no w W0 := by rw [e0]; exact sj_fr.rf.nw hT
  have T0 : sj_T W0 q9 = 5 := by rw [e0]; exact if_pos rfl
  have I0 : ∀ f, sj_I W0 f q9 = 0 := fun f => by rw [e0]; exact if_pos rfl
  have hg : sj_nam (fun _ => 0) 0 W0 := ⟨fun i j hi => absurd hi (Nat.not_lt_zero _), fun i hi => absurd hi (Nat.not_lt_zero _)⟩
  have g0 : sj_nam (sj_ex (fun _ => 0) 0 q9) 1 W0 := hg.one hq (fun i hi => absurd hi (Nat.not_lt_zero _)) (by rw [T0]; decide)
  intro q0 z0 t0 v0 ev0
  have nq0 : q9 ≠ q0 := fun e => by rw [← e, T0] at t0; cases t0
  refine ⟨by rw [ev0]; exact (if_neg nq0).trans T0, z0, fun W1 ew0 => ?_⟩
  rw [ev0] at ew0
  clear ev0
  have k0 : ∀ m, m < 32 → sj_kt m q9 W0 W1 := fun m hm => by rw [ew0]; exact sj_kt.nA t0 hm
  have f1 : sj_fr sj_no w W1 := by rw [ew0]; exact (f0.nw t0).A (Or.inr hT)
  have A0 : sj_A W1 32 q9 = q0 := by rw [ew0]; exact if_pos ⟨rfl, rfl⟩
  have y0 : sj_T W1 q0 = 10 := by rw [ew0]; exact if_pos rfl
  have n0 : sj_N W1 q0 = 16 := by rw [ew0]; exact if_pos rfl
  have i0 : ∀ j, sj_i W1 q0 j = 0 := fun j => by rw [ew0]; exact if_pos rfl
  have T1 : sj_T W1 q9 = 5 := by rw [ew0]; exact (if_neg nq0).trans T0
  have u0 : ∀ a, sj_T W0 a ≠ 0 → sj_T W1 a ≠ 0 := (k0 0 (by decide)).up
  have g1 : sj_nam (sj_ex (sj_ex (fun _ => 0) 0 q9) 1 q0) 2 W1 := (g0.up u0).one z0 (g0.ne t0) (by rw [y0]; decide)
  intro q1 z1 t1 v1 ev1
  have nq1 : q9 ≠ q1 := fun e => by rw [← e, T1] at t1; cases t1
  refine ⟨by rw [ev1]; exact (if_neg nq1).trans T1, z1, fun W2 ew1 => ?_⟩
  rw [ev1] at ew1
  clear ev1
  have k1 : ∀ m, m < 33 → sj_kt m q9 W1 W2 := fun m hm => by rw [ew1]; exact sj_kt.nA t1 hm
  have f2 : sj_fr sj_no w W2 := by rw [ew1]; exact (f1.nw t1).A (Or.inr hT)
  have A1 : sj_A W2 33 q9 = q1 := by rw [ew1]; exact if_pos ⟨rfl, rfl⟩
  have y1 : sj_T W2 q1 = 11 := by rw [ew1]; exact if_pos rfl
  have n1 : sj_N W2 q1 = 12 := by rw [ew1]; exact if_pos rfl
  have i1 : ∀ j, sj_i W2 q1 j = 0 := fun j => by rw [ew1]; exact if_pos rfl
  have T2 : sj_T W2 q9 = 5 := by rw [ew1]; exact (if_neg nq1).trans T1
  have u1 : ∀ a, sj_T W1 a ≠ 0 → sj_T W2 a ≠ 0 := (k1 0 (by decide)).up
  have g2 : sj_nam (sj_ex (sj_ex (sj_ex (fun _ => 0) 0 q9) 1 q0) 2 q1) 3 W2 := (g1.up u1).one z1 (g1.ne t1) (by rw [y1]; decide)
  intro q2 z2 t2 v2 ev2
  have nq2 : q9 ≠ q2 := fun e => by rw [← e, T2] at t2; cases t2
  refine ⟨by rw [ev2]; exact (if_neg nq2).trans T2, z2, fun W3 ew2 => ?_⟩
  rw [ev2] at ew2
  clear ev2
  have k2 : ∀ m, m < 34 → sj_kt m q9 W2 W3 := fun m hm => by rw [ew2]; exact sj_kt.nA t2 hm
  have f3 : sj_fr sj_no w W3 := by rw [ew2]; exact (f2.nw t2).A (Or.inr hT)
  have A2 : sj_A W3 34 q9 = q2 := by rw [ew2]; exact if_pos ⟨rfl, rfl⟩
  have y2 : sj_T W3 q2 = 7 := by rw [ew2]; exact if_pos rfl
  have n2 : sj_N W3 q2 = 12 := by rw [ew2]; exact if_pos rfl
  have i2 : ∀ j, sj_i W3 q2 j = 0 := fun j => by rw [ew2]; exact if_pos rfl
  have T3 : sj_T W3 q9 = 5 := by rw [ew2]; exact (if_neg nq2).trans T2
  have u2 : ∀ a, sj_T W2 a ≠ 0 → sj_T W3 a ≠ 0 := (k2 0 (by decide)).up
  have g3 : sj_nam (sj_ex (sj_ex (sj_ex (sj_ex (fun _ => 0) 0 q9) 1 q0) 2 q1) 3 q2) 4 W3 := (g2.up u2).one z2 (g2.ne t2) (by rw [y2]; decide)
  intro q3 z3 t3 v3 ev3
  refine pc_initE g3 z3 t3 ev3 (fun W4 G hf4 hg4 glow ge4 eB c5 c39 c73 c74 => ?_)
  have e0' : G 0 = q9 := (glow 0 (by decide)).trans rfl
  have e1' : G 1 = q0 := (glow 1 (by decide)).trans rfl
  have e2' : G 2 = q1 := (glow 2 (by decide)).trans rfl
  have e3' : G 3 = q2 := (glow 3 (by decide)).trans rfl
  have k3 : ∀ m, sj_kt m q9 W3 W4 := fun m => hf4.kt
  have T4 : sj_T W4 q9 = 5 := (hf4 q9 (by rw [T3]; decide)).1.trans T3
  refine ⟨T4, z3, fun W5 ew5 => ?_⟩
  have k4 : ∀ m, m < 35 → sj_kt m q9 W4 W5 := fun m hm => by rw [ew5]; exact sj_kt.A hm
  have f5 : sj_fr sj_no w W5 := by rw [ew5]; exact (f3.trans hf4).A (Or.inr hT)
  have A3 : sj_A W5 35 q9 = q3 := by rw [ew5]; exact if_pos ⟨rfl, rfl⟩
  have T5 : sj_T W5 q9 = 5 := by rw [ew5]; exact T4
  clear ew5 ev3
  have K0 : sj_kt 32 q9 W1 W5 := (k1 32 (by decide)).trans ((k2 32 (by decide)).trans ((k3 32).trans (k4 32 (by decide))))
  have K1 : sj_kt 33 q9 W2 W5 := (k2 33 (by decide)).trans ((k3 33).trans (k4 33 (by decide)))
  have K2 : sj_kt 34 q9 W3 W5 := (k3 34).trans (k4 34 (by decide))
  have KI : sj_kt 0 q9 W0 W5 := (k0 0 (by decide)).trans ((k1 0 (by decide)).trans ((k2 0 (by decide)).trans ((k3 0).trans (k4 0 (by decide)))))
  have KE := k4 0 (by decide)
  have B0 : sj_A W5 32 q9 = q0 := ((K0 q9 (by rw [T1]; decide)).2.2.1 32 (fun _ => by decide)).trans A0
  have B1 : sj_A W5 33 q9 = q1 := ((K1 q9 (by rw [T2]; decide)).2.2.1 33 (fun _ => by decide)).trans A1
  have B2 : sj_A W5 34 q9 = q2 := ((K2 q9 (by rw [T3]; decide)).2.2.1 34 (fun _ => by decide)).trans A2
  have Z0 := K0 q0 (by rw [y0]; decide)
  have Z1 := K1 q1 (by rw [y1]; decide)
  have Z2 := K2 q2 (by rw [y2]; decide)
  have S0T : sj_T W5 q0 = 10 := Z0.1.trans y0
  have S0N : sj_N W5 q0 = 16 := Z0.2.1.trans n0
  have S1T : sj_T W5 q1 = 11 := Z1.1.trans y1
  have S1N : sj_N W5 q1 = 12 := Z1.2.1.trans n1
  have S2T : sj_T W5 q2 = 7 := Z2.1.trans y2
  have S2N : sj_N W5 q2 = 12 := Z2.2.1.trans n2
  have I5 : sj_I W5 36 q9 = 0 := ((KI q9 (by rw [T0]; decide)).2.2.2.1 36).trans (I0 36)
  have x0f : sj_T w q0 = 0 := f0.T t0
  have x1f : sj_T w q1 = 0 := f1.T t1
  have hg5 : sj_nam G 76 W5 := hg4.up KE.up
  refine sj_lp1_run (fun v w' => ∃ i g, v = nI i ∧ i ≤ 16 ∧ sj_nam g (76 + 2 * i) w' ∧ (∀ j, j < 76 → g j = G j) ∧ sj_fr sj_no w w' ∧ sj_kpr q0 W5 w' ∧ ∀ j, j < i → sj_r w' q0 j = g (76 + 2 * j) ∧ sj_T w' (g (76 + 2 * j)) = 2 ∧ sj_A w' 8 (g (76 + 2 * j)) = g (77 + 2 * j) ∧ sj_T w' (g (77 + 2 * j)) = 8 ∧ sj_N w' (g (77 + 2 * j)) = 32 ∧ sj_I w' 9 (g (76 + 2 * j)) = 0) (fun v _ => 17 - v.toNatClampNeg) ?_ 20 _ _ ⟨0, G, rfl, by omega, hg5, fun _ _ => rfl, f5, sj_kpr.rf, fun j hj => absurd hj (Nat.not_lt_zero _)⟩ (by omega)
  rintro v w1 K ⟨i, g, rfl, hi, hg1, hgl1, hf1, hk1, hr1⟩ hK
  have T9 := hk1 q9 (by rw [T5]; decide)
  have R0 := hk1 q0 (by rw [S0T]; decide)
  have a32 : sj_A w1 32 q9 = q0 := (T9.2.2.1 32).trans B0
  unfold vb_X6_init_43
  rw [a32, R0.1.trans S0T, R0.2.1.trans S0N, sj_leI (by omega) (by omega)]
  refine ⟨T9.1.trans T5, z0, ⟨by decide, by decide⟩, fun qi => ?_, fun qi => ⟨T9.1.trans T5, z0, fun q zq tq w2 e2 b zb tb w3 e3 => ?_⟩⟩
  · have ei : i = 16 := by omega
    subst ei
    refine sj_lp1_run (fun v w' => ∃ i h, v = nI i ∧ i ≤ 12 ∧ sj_nam h (108 + i) w' ∧ (∀ j, j < 108 → h j = g j) ∧ sj_fr sj_no w w' ∧ sj_kpr q1 w1 w' ∧ ∀ j, j < i → sj_r w' q1 j = h (108 + j) ∧ sj_T w' (h (108 + j)) = 3 ∧ ∀ f, sj_I w' f (h (108 + j)) = 0) (fun v _ => 13 - v.toNatClampNeg) ?_ 20 _ _ ⟨0, g, rfl, by omega, hg1, fun _ _ => rfl, hf1, sj_kpr.rf, fun j hj => absurd hj (Nat.not_lt_zero _)⟩ (by omega)
    rintro v w2 K2 ⟨i, h2, rfl, hi2, hg2, hgl2, hf2, hk2, hr2⟩ hK2
    have T92 := hk2 q9 (by rw [T9.1, T5]; decide)
    have R1 := hk1 q1 (by rw [S1T]; decide)
    have R12 := hk2 q1 (by rw [R1.1, S1T]; decide)
    have a33 : sj_A w2 33 q9 = q1 := (T92.2.2.1 33).trans ((T9.2.2.1 33).trans B1)
    unfold vb_X6_init_73
    rw [a33, R12.1.trans (R1.1.trans S1T), R12.2.1.trans (R1.2.1.trans S1N), sj_leI (by omega) (by omega)]
    refine ⟨T92.1.trans (T9.1.trans T5), z1, ⟨by decide, by decide⟩, fun qi2 => ?_, fun qi2 => ⟨T92.1.trans (T9.1.trans T5), z1, fun q zq tq w3 e3 => ?_⟩⟩
    · have ei : i = 12 := by omega
      subst ei
      have n01 : q0 ≠ q1 := fun e => by rw [e, S1T] at S0T; cases S0T
      have lo : ∀ j, j < 76 → h2 j = G j := fun j hj => (hgl2 j (by omega)).trans (hgl1 j hj)
      have up : ∀ a, sj_T W5 a ≠ 0 → sj_T w2 a = sj_T W5 a ∧ sj_N w2 a = sj_N W5 a ∧ (∀ f, sj_A w2 f a = sj_A W5 f a) ∧ (∀ f, sj_I w2 f a = sj_I W5 f a) ∧ (a ≠ q0 → a ≠ q1 → ∀ j, sj_r w2 a j = sj_r W5 a j) := fun a ha => by
        have u1 := hk1 a ha
        have u2 := hk2 a (by rw [u1.1]; exact ha)
        exact ⟨u2.1.trans u1.1, u2.2.1.trans u1.2.1, fun f => (u2.2.2.1 f).trans (u1.2.2.1 f), fun f => (u2.2.2.2.1 f).trans (u1.2.2.2.1 f), fun p1 p2 j => (u2.2.2.2.2.2 p2 j).trans (u1.2.2.2.2.2 p1 j)⟩
      have upE : ∀ a, sj_T W4 a ≠ 0 → a ≠ q9 → a ≠ q0 → a ≠ q1 → sj_T w2 a = sj_T W4 a ∧ sj_N w2 a = sj_N W4 a ∧ (∀ f, sj_A w2 f a = sj_A W4 f a) ∧ (∀ j, sj_r w2 a j = sj_r W4 a j) := fun a ha p9 p0 p1 => by
        have u1 := KE a ha
        have u2 := up a (by rw [u1.1]; exact ha)
        exact ⟨u2.1.trans u1.1, u2.2.1.trans u1.2.1, fun f => (u2.2.2.1 f).trans (u1.2.2.1 f (fun e => absurd e p9)), fun j => (u2.2.2.2.2 p0 p1 j).trans (u1.2.2.2.2.2 j)⟩
      have d : ∀ i j, i < 76 → j < 76 → i ≠ j → G i ≠ G j := fun i j hi hj ne e => ne (hg4.1 i j hi hj e)
      have dE : ∀ j, 3 < j → j < 76 → G j ≠ q9 ∧ G j ≠ q0 ∧ G j ≠ q1 := fun j h1 h2 => ⟨by rw [← e0']; exact d j 0 h2 (by omega) (by omega), by rw [← e1']; exact d j 1 h2 (by omega) (by omega), by rw [← e2']; exact d j 2 h2 (by omega) (by omega)⟩
      have E4 := upE (G 4) (by rw [eB.1]; decide) (dE 4 (by decide) (by decide)).1 (dE 4 (by decide) (by decide)).2.1 (dE 4 (by decide) (by decide)).2.2
      have E5 := upE (G 5) (by rw [c5.1]; decide) (dE 5 (by decide) (by decide)).1 (dE 5 (by decide) (by decide)).2.1 (dE 5 (by decide) (by decide)).2.2
      have E39 := upE (G 39) (by rw [c39.1]; decide) (dE 39 (by decide) (by decide)).1 (dE 39 (by decide) (by decide)).2.1 (dE 39 (by decide) (by decide)).2.2
      have E73 := upE (G 73) (by rw [c73.1]; decide) (dE 73 (by decide) (by decide)).1 (dE 73 (by decide) (by decide)).2.1 (dE 73 (by decide) (by decide)).2.2
      have E74 := upE (G 74) (by rw [c74.1]; decide) (dE 74 (by decide) (by decide)).1 (dE 74 (by decide) (by decide)).2.1 (dE 74 (by decide) (by decide)).2.2
      have U9 := up q9 (by rw [T5]; decide)
      have U0 := up q0 (by rw [S0T]; decide)
      have U1 := up q1 (by rw [S1T]; decide)
      have U2 := up q2 (by rw [S2T]; decide)
      have l0 : h2 0 = q9 := (lo 0 (by decide)).trans e0'
      have l1 : h2 1 = q0 := (lo 1 (by decide)).trans e1'
      have l2 : h2 2 = q1 := (lo 2 (by decide)).trans e2'
      have l3 : h2 3 = q2 := (lo 3 (by decide)).trans e3'
      have l4 : h2 4 = G 4 := lo 4 (by decide)
      have l5 : h2 5 = G 5 := lo 5 (by decide)
      have l39 : h2 39 = G 39 := lo 39 (by decide)
      have l73 : h2 73 = G 73 := lo 73 (by decide)
      have l74 : h2 74 = G 74 := lo 74 (by decide)
      have p0 : sj_pz 0 = 0 := rfl
      have p1 : sj_pz 1 = 1 := rfl
      have p2 : sj_pz 2 = 2 := rfl
      have p3 : sj_pz 3 = 3 := rfl
      have p4 : sj_pz 4 = 4 := rfl
      have p5 : sj_pz 5 = 5 := rfl
      have p6 : sj_pz 6 = 39 := rfl
      have p7 : sj_pz 7 = 73 := rfl
      have p8 : sj_pz 8 = 74 := rfl
      refine h w2 h2 hf2 hg2 l0 ⟨⟨?_, ?_, ?_, ?_, ?_, ?_, ?_, ?_, ?_, ?_, ?_, ?_⟩, fun k hk => ⟨?_, fun j hj => absurd hj (Nat.not_lt_zero _)⟩, fun k hk => ?_, ?_, fun j hj => absurd hj (Nat.not_lt_zero _)⟩
      · show sj_T w2 (h2 (sj_pz 0)) = 5 ∧ sj_A w2 32 (h2 (sj_pz 0)) = h2 (sj_pz 1) ∧ sj_A w2 33 (h2 (sj_pz 0)) = h2 (sj_pz 2) ∧ sj_A w2 34 (h2 (sj_pz 0)) = h2 (sj_pz 3) ∧ sj_A w2 35 (h2 (sj_pz 0)) = h2 (sj_pz 4)
        rw [p0, p1, p2, p3, p4, l0, l1, l2, l3, l4, ge4]
        exact ⟨U9.1.trans T5, (U9.2.2.1 32).trans B0, (U9.2.2.1 33).trans B1, (U9.2.2.1 34).trans B2, (U9.2.2.1 35).trans A3⟩
      · show sj_T w2 (h2 (sj_pz 1)) = 10 ∧ sj_N w2 (h2 (sj_pz 1)) = 16 ∧ ∀ k, k < 16 → sj_r w2 (h2 (sj_pz 1)) k = h2 (sj_pz (100 + k))
        rw [p1, l1]
        refine ⟨U0.1.trans S0T, U0.2.1.trans S0N, fun k hk => ?_⟩
        rw [sj_pz100 hk, hgl2 _ (by omega)]
        exact ((hk2 q0 (by rw [R0.1, S0T]; decide)).2.2.2.2.2 n01 k).trans (hr1 k hk).1
      · show sj_T w2 (h2 (sj_pz 2)) = 11 ∧ sj_N w2 (h2 (sj_pz 2)) = 12 ∧ ∀ k, k < 12 → sj_r w2 (h2 (sj_pz 2)) k = h2 (sj_pz (140 + k))
        rw [p2, l2]
        refine ⟨U1.1.trans S1T, U1.2.1.trans S1N, fun k hk => ?_⟩
        rw [sj_pz140 hk]
        exact (hr2 k hk).1
      · show sj_T w2 (h2 (sj_pz 3)) = 7 ∧ sj_N w2 (h2 (sj_pz 3)) = 12
        rw [p3, l3]
        exact ⟨U2.1.trans S2T, U2.2.1.trans S2N⟩
      · intro k hk
        show sj_T w2 (h2 (sj_pz (100 + k))) = 2 ∧ sj_A w2 8 (h2 (sj_pz (100 + k))) = h2 (sj_pz (120 + k))
        rw [sj_pz100 hk, sj_pz120 hk, hgl2 _ (by omega), hgl2 _ (by omega)]
        have r := hr1 k hk
        have u := hk2 (g (76 + 2 * k)) (by rw [r.2.1]; decide)
        exact ⟨u.1.trans r.2.1, (u.2.2.1 8).trans r.2.2.1⟩
      · intro k hk
        show sj_T w2 (h2 (sj_pz (120 + k))) = 8 ∧ sj_N w2 (h2 (sj_pz (120 + k))) = 32
        rw [sj_pz120 hk, hgl2 _ (by omega)]
        have r := hr1 k hk
        have u := hk2 (g (77 + 2 * k)) (by rw [r.2.2.2.1]; decide)
        exact ⟨u.1.trans r.2.2.2.1, u.2.1.trans r.2.2.2.2.1⟩
      · intro k hk
        show sj_T w2 (h2 (sj_pz (140 + k))) = 3
        rw [sj_pz140 hk]
        exact (hr2 k hk).2.1
      · show sj_T w2 (h2 (sj_pz 4)) = 1 ∧ sj_A w2 0 (h2 (sj_pz 4)) = h2 (sj_pz 5) ∧ sj_A w2 1 (h2 (sj_pz 4)) = h2 (sj_pz 6) ∧ sj_A w2 2 (h2 (sj_pz 4)) = h2 (sj_pz 7) ∧ sj_A w2 3 (h2 (sj_pz 4)) = h2 (sj_pz 8)
        rw [p4, p5, p6, p7, p8, l4, l5, l39, l73, l74]
        exact ⟨E4.1.trans eB.1, (E4.2.2.1 0).trans eB.2.1, (E4.2.2.1 1).trans eB.2.2.1, (E4.2.2.1 2).trans eB.2.2.2.1, (E4.2.2.1 3).trans eB.2.2.2.2⟩
      · show sj_T w2 (h2 (sj_pz 5)) = 13 ∧ sj_N w2 (h2 (sj_pz 5)) = 33 ∧ ∀ k, k < 33 → sj_r w2 (h2 (sj_pz 5)) k = h2 (sj_pz (10 + k)) ∧ sj_T w2 (h2 (sj_pz (10 + k))) = 7 ∧ sj_N w2 (h2 (sj_pz (10 + k))) = 33
        rw [p5, l5]
        refine ⟨E5.1.trans c5.1, E5.2.1.trans c5.2.1, fun k hk => ?_⟩
        have r := c5.2.2 k hk
        have q := dE (6 + k) (by omega) (by omega)
        have u := upE (G (6 + k)) (by rw [r.2.1]; decide) q.1 q.2.1 q.2.2
        rw [sj_pz10 hk, lo _ (by omega)]
        exact ⟨(E5.2.2.2 k).trans r.1, u.1.trans r.2.1, u.2.1.trans r.2.2⟩
      · show sj_T w2 (h2 (sj_pz 6)) = 13 ∧ sj_N w2 (h2 (sj_pz 6)) = 33 ∧ ∀ k, k < 33 → sj_r w2 (h2 (sj_pz 6)) k = h2 (sj_pz (50 + k)) ∧ sj_T w2 (h2 (sj_pz (50 + k))) = 7 ∧ sj_N w2 (h2 (sj_pz (50 + k))) = 33
        rw [p6, l39]
        refine ⟨E39.1.trans c39.1, E39.2.1.trans c39.2.1, fun k hk => ?_⟩
        have r := c39.2.2 k hk
        have q := dE (40 + k) (by omega) (by omega)
        have u := upE (G (40 + k)) (by rw [r.2.1]; decide) q.1 q.2.1 q.2.2
        rw [sj_pz50 hk, lo _ (by omega)]
        exact ⟨(E39.2.2.2 k).trans r.1, u.1.trans r.2.1, u.2.1.trans r.2.2⟩
      · show sj_T w2 (h2 (sj_pz 7)) = 7 ∧ sj_N w2 (h2 (sj_pz 7)) = 32
        rw [p7, l73]
        exact ⟨E73.1.trans c73.1, E73.2.1.trans c73.2⟩
      · show sj_T w2 (h2 (sj_pz 8)) = 7 ∧ sj_N w2 (h2 (sj_pz 8)) = 32
        rw [p8, l74]
        exact ⟨E74.1.trans c74.1, E74.2.1.trans c74.2⟩
      · show sj_I w2 9 (h2 (sj_pz (100 + k))) = nI 0
        rw [sj_pz100 hk, hgl2 _ (by omega)]
        have r := hr1 k hk
        have u := hk2 (g (76 + 2 * k)) (by rw [r.2.1]; decide)
        exact (u.2.2.2.1 9).trans r.2.2.2.2.2
      · show sj_I w2 16 (h2 (sj_pz (140 + k))) = nI 0 ∧ sj_I w2 17 (h2 (sj_pz (140 + k))) = nI 0 ∧ sj_I w2 18 (h2 (sj_pz (140 + k))) = nI 0
        rw [sj_pz140 hk]
        have r := (hr2 k hk).2.2
        exact ⟨r 16, r 17, r 18⟩
      · show sj_I w2 36 (h2 (sj_pz 0)) = nI 0
        rw [p0, l0]
        exact (U9.2.2.2.1 36).trans I5
    · have hx : sj_T w2 q1 ≠ 0 := by rw [R12.1, R1.1, S1T]; decide
      have n1q : q1 ≠ q := fun e => hx (by rw [e]; exact tq)
      rw [e3]
      refine ⟨(if_neg n1q).trans (R12.1.trans (R1.1.trans S1T)), if_pos rfl, ?_, zq, fun w4 e4 => ?_⟩
      · have e : sj_N (sj_nw w2 q 3 0) q1 = 12 := (if_neg n1q).trans (R12.2.1.trans (R1.2.1.trans S1N))
        rw [e, sj_inI (by omega)]
        omega
      · rw [sj_clI (by omega)] at e4
        obtain ⟨s1, s2, s3, s4⟩ := sj_stepP (i := i) tq hx
        rw [← e4] at s1 s2 s3 s4
        refine hK2 _ _ ⟨i + 1, sj_ex h2 (108 + i) q, sj_s1 _, by omega, (hg2.up s1.up).one zq (hg2.ne tq) (by rw [s3]; decide), fun j hj => (sj_ex_o (by omega)).trans (hgl2 j hj), by rw [e4]; exact (hf2.nw tq).r x1f, hk2.trans s1, fun j hj => ?_⟩ ?_
        · by_cases e : j = i
          · subst e
            have ee : sj_ex h2 (108 + j) q (108 + j) = q := if_pos rfl
            rw [ee, s2, if_pos rfl]
            exact ⟨rfl, s3, s4⟩
          · have ee : sj_ex h2 (108 + i) q (108 + j) = h2 (108 + j) := sj_ex_o (by omega)
            obtain ⟨o1, o2, o3⟩ := hr2 j (by omega)
            have u := s1 (h2 (108 + j)) (by rw [o2]; decide)
            rw [ee, s2, if_neg e]
            exact ⟨o1, u.1.trans o2, fun f => (u.2.2.2.1 f).trans (o3 f)⟩
        · rw [sj_s1, sj_clI (by omega), sj_clI (by omega)]; omega
  · have hx : sj_T w1 q0 ≠ 0 := by rw [R0.1, S0T]; decide
    rw [e2] at tb e3
    obtain ⟨s1, s2, s3, s4, s5, s6, s7, s8, s9⟩ := sj_stepR (i := i) tq tb hx
    have nq : q0 ≠ q := fun e => hx (by rw [e]; exact tq)
    have nb : q0 ≠ b := fun e => hx (by rw [e]; exact s9)
    rw [e3]
    refine ⟨(if_neg (fun e => s8 e)).trans (if_pos rfl), zb, fun w4 e4 => ?_⟩
    rw [e4]
    refine ⟨(if_neg nb).trans ((if_neg nq).trans (R0.1.trans S0T)), (if_neg (fun e => s8 e)).trans (if_pos rfl), ?_, zq, fun w5 e5 => ?_⟩
    · have e : sj_N (sj_sA (sj_nw (sj_nw w1 q 2 0) b 8 32) 8 q b) q0 = 16 := (if_neg nb).trans ((if_neg nq).trans (R0.2.1.trans S0N))
      rw [e, sj_inI (by omega)]
      omega
    · rw [sj_clI (by omega)] at e5
      rw [← e5] at s1 s2 s3 s4 s5 s6 s7
      have g2 := (hg1.up s1.up).one zq (hg1.ne tq) (by rw [s3]; decide)
      have g3 : sj_nam (sj_ex (sj_ex g (76 + 2 * i) q) (76 + 2 * i + 1) b) (76 + 2 * i + 1 + 1) w5 := g2.one zb (fun j hj e => by
        by_cases c : j = 76 + 2 * i
        · have ee : sj_ex g (76 + 2 * i) q j = q := if_pos c
          rw [ee] at e
          exact s8 e
        · rw [sj_ex_o c] at e
          exact hg1.ne s9 j (by omega) e) (by rw [s5]; decide)
      have eN : 76 + 2 * i + 1 + 1 = 76 + 2 * (i + 1) := by omega
      rw [eN] at g3
      refine hK _ _ ⟨i + 1, _, sj_s1 _, by omega, g3, fun j hj => (sj_ex_o (by omega)).trans ((sj_ex_o (by omega)).trans (hgl1 j hj)), ?_, hk1.trans s1, fun j hj => ?_⟩ ?_
      · rw [e5]
        exact (((hf1.nw tq).nw tb).A (Or.inr (hf1.T tq))).r x0f
      · by_cases e : j = i
        · subst e
          have ee : sj_ex (sj_ex g (76 + 2 * j) q) (76 + 2 * j + 1) b (76 + 2 * j) = q := (sj_ex_o (by omega)).trans (if_pos rfl)
          have ef : sj_ex (sj_ex g (76 + 2 * j) q) (76 + 2 * j + 1) b (77 + 2 * j) = b := if_pos (by omega)
          rw [ee, ef, s2, if_pos rfl]
          exact ⟨rfl, s3, s4, s5, s6, s7⟩
        · have ee : sj_ex (sj_ex g (76 + 2 * i) q) (76 + 2 * i + 1) b (76 + 2 * j) = g (76 + 2 * j) := (sj_ex_o (by omega)).trans (sj_ex_o (by omega))
          have ef : sj_ex (sj_ex g (76 + 2 * i) q) (76 + 2 * i + 1) b (77 + 2 * j) = g (77 + 2 * j) := (sj_ex_o (by omega)).trans (sj_ex_o (by omega))
          obtain ⟨o1, o2, o3, o4, o5, o6⟩ := hr1 j (by omega)
          have u := s1 (g (76 + 2 * j)) (by rw [o2]; decide)
          have u2 := s1 (g (77 + 2 * j)) (by rw [o4]; decide)
          rw [ee, ef, s2, if_neg e]
          exact ⟨o1, u.1.trans o2, (u.2.2.1 8).trans o3, u2.1.trans o4, u2.2.1.trans o5, (u.2.2.2.1 9).trans o6⟩
      · rw [sj_s1, sj_clI (by omega), sj_clI (by omega)]; omega

/-! NAMES FOR WHAT IS MADE: g 0, g 1 .. are the addresses in the order of their making -/
def sj_nam (g : Nat → Nat) (n : Nat) (w : sj_W) : Prop := (∀ i j, i < n → j < n → g i = g j → i = j) ∧ ∀ i, i < n → g i ≠ 0 ∧ sj_T w (g i) ≠ 0
theorem sj_nam.up {g : Nat → Nat} {n : Nat} {w w' : sj_W} (h : sj_nam g n w) (hT : ∀ a, sj_T w a ≠ 0 → sj_T w' a ≠ 0) : sj_nam g n w' := ⟨h.1, fun i hi => ⟨(h.2 i hi).1, hT _ (h.2 i hi).2⟩⟩
theorem sj_nam.ne {g : Nat → Nat} {n q : Nat} {w : sj_W} (h : sj_nam g n w) (hT : sj_T w q = 0) : ∀ i, i < n → g i ≠ q := fun i hi e => (h.2 i hi).2 (by rw [e]; exact hT)
def sj_ex (g : Nat → Nat) (n q : Nat) : Nat → Nat := fun i => if i = n then q else g i
def sj_exf (g : Nat → Nat) (n : Nat) (r : Nat → Nat) : Nat → Nat := fun i => if i < n then g i else r (i - n)
theorem sj_ex_o {g : Nat → Nat} {n q i : Nat} (h : i ≠ n) : sj_ex g n q i = g i := if_neg h
theorem sj_exf_lt {g r : Nat → Nat} {n i : Nat} (h : i < n) : sj_exf g n r i = g i := if_pos h
theorem sj_exf_ge {g r : Nat → Nat} {n i : Nat} (h : n ≤ i) : sj_exf g n r i = r (i - n) := if_neg (by omega)
theorem sj_nam.one {g : Nat → Nat} {n q : Nat} {w : sj_W} (h : sj_nam g n w) (hq : q ≠ 0) (hne : ∀ i, i < n → g i ≠ q) (hT : sj_T w q ≠ 0) : sj_nam (sj_ex g n q) (n + 1) w := by
  have lt : ∀ i, i < n → sj_ex g n q i = g i := fun i hi => if_neg (by omega)
  have eq : sj_ex g n q n = q := if_pos rfl
  refine ⟨fun i j hi hj e => ?_, fun i hi => ?_⟩
  · by_cases ci : i = n
    · by_cases cj : j = n
      · omega
      · subst ci
        rw [eq, lt j (by omega)] at e
        exact absurd e.symm (hne j (by omega))
    · by_cases cj : j = n
      · subst cj
        rw [eq, lt i (by omega)] at e
        exact absurd e (hne i (by omega))
      · rw [lt i (by omega), lt j (by omega)] at e
        exact h.1 i j (by omega) (by omega) e
  · by_cases ci : i = n
    · subst ci
      rw [eq]
      exact ⟨hq, hT⟩
    · rw [lt i (by omega)]
      exact h.2 i (by omega)
theorem sj_nam.fam {g r : Nat → Nat} {n m : Nat} {w : sj_W} (h : sj_nam g n w) (hr : ∀ i, i < m → r i ≠ 0 ∧ sj_T w (r i) ≠ 0) (hne : ∀ i j, i < n → j < m → g i ≠ r j) (inj : ∀ i j : Nat, i < m → j < m → r i = r j → i = j) : sj_nam (sj_exf g n r) (n + m) w := by
  have lt : ∀ i, i < n → sj_exf g n r i = g i := fun i hi => if_pos hi
  have ge : ∀ i, n ≤ i → sj_exf g n r i = r (i - n) := fun i hi => if_neg (by omega)
  refine ⟨fun i j hi hj e => ?_, fun i hi => ?_⟩
  · by_cases ci : i < n
    · by_cases cj : j < n
      · rw [lt i ci, lt j cj] at e
        exact h.1 i j ci cj e
      · rw [lt i ci, ge j (by omega)] at e
        exact absurd e (hne i _ ci (by omega))
    · by_cases cj : j < n
      · rw [ge i (by omega), lt j cj] at e
        exact absurd e.symm (hne j _ cj (by omega))
      · rw [ge i (by omega), ge j (by omega)] at e
        have := inj _ _ (by omega) (by omega) e
        omega
  · by_cases ci : i < n
    · rw [lt i ci]
      exact h.2 i ci
    · rw [ge i (by omega)]
      exact hr _ (by omega)
/-! what a constructor keeps: all but its own fields above m -/
def sj_kt (m s : Nat) (w w' : sj_W) : Prop := ∀ a, sj_T w a ≠ 0 → sj_T w' a = sj_T w a ∧ sj_N w' a = sj_N w a ∧ (∀ f, (a = s → f ≤ m) → sj_A w' f a = sj_A w f a) ∧ (∀ f, sj_I w' f a = sj_I w f a) ∧ (∀ j, sj_i w' a j = sj_i w a j) ∧ ∀ j, sj_r w' a j = sj_r w a j
theorem sj_kt.trans {m s : Nat} {w1 w2 w3 : sj_W} (h : sj_kt m s w1 w2) (g : sj_kt m s w2 w3) : sj_kt m s w1 w3 := by
  intro a ha
  obtain ⟨h1, h2, h3, h4, h5, h6⟩ := h a ha
  obtain ⟨g1, g2, g3, g4, g5, g6⟩ := g a (by rw [h1]; exact ha)
  exact ⟨g1.trans h1, g2.trans h2, fun f hf => (g3 f hf).trans (h3 f hf), fun f => (g4 f).trans (h4 f), fun j => (g5 j).trans (h5 j), fun j => (g6 j).trans (h6 j)⟩
theorem sj_kt.rf {m s : Nat} {w : sj_W} : sj_kt m s w w := fun _ _ => ⟨rfl, rfl, fun _ _ => rfl, fun _ => rfl, fun _ => rfl, fun _ => rfl⟩
theorem sj_kt.up {m s : Nat} {w w' : sj_W} (h : sj_kt m s w w') : ∀ a, sj_T w a ≠ 0 → sj_T w' a ≠ 0 := fun a ha => by rw [(h a ha).1]; exact ha
theorem sj_kt.nA {m s q t n f v : Nat} {w : sj_W} (hT : sj_T w q = 0) (hf : m < f) : sj_kt m s w (sj_sA (sj_nw w q t n) f s v) := by
  intro a ha
  have ne : a ≠ q := fun e => ha (by rw [e]; exact hT)
  refine ⟨if_neg ne, if_neg ne, fun f' hf' => ?_, fun f' => if_neg ne, fun j => if_neg ne, fun j => if_neg ne⟩
  show (if f' = f ∧ a = s then v else if a = q then 0 else sj_A w f' a) = _
  rw [if_neg (fun z => by have := hf' z.2; omega), if_neg ne]
theorem sj_kt.mA {m s q n k f v : Nat} {r : Nat → Nat} {w : sj_W} (hT : sj_T w q = 0) (hr : ∀ i, i < n → sj_T w (r i) = 0) (hf : m < f) : sj_kt m s w (sj_sA (sj_nm w q r n k) f s v) := by
  intro a ha
  have ne : a ≠ q := fun e => ha (by rw [e]; exact hT)
  have nm : a ∉ (List.range n).map r := fun z => by
    obtain ⟨i, hi, e⟩ := List.mem_map.mp z
    exact ha (by rw [← e]; exact hr i (List.mem_range.mp hi))
  refine ⟨(if_neg ne).trans (if_neg nm), (if_neg ne).trans (if_neg nm), fun f' hf' => ?_, fun f' => rfl, fun j => if_neg nm, fun j => if_neg ne⟩
  show (if f' = f ∧ a = s then v else sj_A w f' a) = _
  rw [if_neg (fun z => by have := hf' z.2; omega)]
theorem sj_fr.kt {m s : Nat} {w w' : sj_W} (h : sj_fr sj_no w w') : sj_kt m s w w' := fun a ha => by
  have t := h a ha
  have e := t.2.2.2.2 (fun z => z)
  exact ⟨t.1, t.2.1, fun f _ => e.2.1 f, e.1, e.2.2.1, e.2.2.2.2.1⟩
theorem sj_fr.nm {X : Nat → Prop} {w0 w : sj_W} {q n k : Nat} {r : Nat → Nat} (h : sj_fr X w0 w) (hx : sj_T w q = 0) (hr : ∀ i, i < n → sj_T w (r i) = 0) : sj_fr X w0 (sj_nm w q r n k) := fun b hb => by
  have hq : b ≠ q := fun e => hb (e ▸ h.T hx)
  have nm : b ∉ (List.range n).map r := fun z => by
    obtain ⟨i, hi, e⟩ := List.mem_map.mp z
    exact hb (by rw [← e]; exact h.T (hr i (List.mem_range.mp hi)))
  exact ⟨((if_neg hq).trans (if_neg nm)).trans (h b hb).1, ((if_neg hq).trans (if_neg nm)).trans (h b hb).2.1, (h b hb).2.2.1, fun j => (show (if b = q then (if j < n then r j else 0) else sj_r w b j) = _ from (if_neg hq).trans ((h b hb).2.2.2.1 j)), fun z => sj_eq.trans ((h b hb).2.2.2.2 z) ⟨fun _ => rfl, fun _ => rfl, fun _ => if_neg nm, fun _ => rfl, fun _ => if_neg hq, fun _ => rfl⟩⟩
theorem sj_nm_q {w : sj_W} {q n k : Nat} {r : Nat → Nat} {j : Nat} (hj : j < n) : sj_T (sj_nm w q r n k) q = 13 ∧ sj_N (sj_nm w q r n k) q = n ∧ sj_r (sj_nm w q r n k) q j = r j := ⟨if_pos rfl, if_pos rfl, (if_pos rfl).trans (if_pos hj)⟩
theorem sj_nm_r {w : sj_W} {q n k : Nat} {r : Nat → Nat} {j : Nat} (hj : j < n) (hne : r j ≠ q) : sj_T (sj_nm w q r n k) (r j) = 7 ∧ sj_N (sj_nm w q r n k) (r j) = k := ⟨(if_neg hne).trans (if_pos (List.mem_map.mpr ⟨j, List.mem_range.mpr hj, rfl⟩)), (if_neg hne).trans (if_pos (List.mem_map.mpr ⟨j, List.mem_range.mpr hj, rfl⟩))⟩
theorem pm_init {G0 : Nat → Nat} {w W0 : sj_W} {q9 : Nat} (hg : sj_nam G0 120 w) (hq : q9 ≠ 0) (hT : sj_T w q9 = 0) (e0 : W0 = sj_nw w q9 6 0) {Q : sj_W → Prop} (h : ∀ w' g', sj_fr sj_no w w' → sj_nam g' 127 w' → (∀ i, i < 120 → g' i = G0 i) → g' 120 = q9 → sj_Mo (fun i => g' (i - 80)) sj_S0 w' → Q w') : vc_X7_init q9 W0 Q := by
  have f0 : sj_fr sj_no w W0 := by rw [e0]; exact sj_fr.rf.nw hT
  have T0 : sj_T W0 q9 = 6 := by rw [e0]; exact if_pos rfl
  have I0 : ∀ f, sj_I W0 f q9 = 0 := fun f => by rw [e0]; exact if_pos rfl
  have u : ∀ a, sj_T w a ≠ 0 → sj_T W0 a ≠ 0 := fun a ha => by rw [(f0 a ha).1]; exact ha
  have g0 : sj_nam (sj_ex G0 120 q9) 121 W0 := (hg.up u).one hq (hg.ne hT) (by rw [T0]; decide)
  intro q0 z0 t0 v0 ev0
  have nq0 : q9 ≠ q0 := fun e => by rw [← e, T0] at t0; cases t0
  refine ⟨by rw [ev0]; exact (if_neg nq0).trans T0, z0, fun W1 ew0 => ?_⟩
  rw [ev0] at ew0
  clear ev0
  have k0 : ∀ m, m < 40 → sj_kt m q9 W0 W1 := fun m hm => by rw [ew0]; exact sj_kt.nA t0 hm
  have f1 : sj_fr sj_no w W1 := by rw [ew0]; exact (f0.nw t0).A (Or.inr hT)
  have A0 : sj_A W1 40 q9 = q0 := by rw [ew0]; exact if_pos ⟨rfl, rfl⟩
  have y0 : sj_T W1 q0 = 8 := by rw [ew0]; exact if_pos rfl
  have n0 : sj_N W1 q0 = 512 := by rw [ew0]; exact if_pos rfl
  have i0 : ∀ j, sj_i W1 q0 j = 0 := fun j => by rw [ew0]; exact if_pos rfl
  have T1 : sj_T W1 q9 = 6 := by rw [ew0]; exact (if_neg nq0).trans T0
  have u0 : ∀ a, sj_T W0 a ≠ 0 → sj_T W1 a ≠ 0 := (k0 0 (by decide)).up
  have g1 : sj_nam (sj_ex (sj_ex G0 120 q9) 121 q0) 122 W1 := (g0.up u0).one z0 (g0.ne t0) (by rw [y0]; decide)
  intro q1 z1 t1 v1 ev1
  have nq1 : q9 ≠ q1 := fun e => by rw [← e, T1] at t1; cases t1
  refine ⟨by rw [ev1]; exact (if_neg nq1).trans T1, z1, fun W2 ew1 => ?_⟩
  rw [ev1] at ew1
  clear ev1
  have k1 : ∀ m, m < 41 → sj_kt m q9 W1 W2 := fun m hm => by rw [ew1]; exact sj_kt.nA t1 hm
  have f2 : sj_fr sj_no w W2 := by rw [ew1]; exact (f1.nw t1).A (Or.inr hT)
  have A1 : sj_A W2 41 q9 = q1 := by rw [ew1]; exact if_pos ⟨rfl, rfl⟩
  have y1 : sj_T W2 q1 = 7 := by rw [ew1]; exact if_pos rfl
  have n1 : sj_N W2 q1 = 16 := by rw [ew1]; exact if_pos rfl
  have i1 : ∀ j, sj_i W2 q1 j = 0 := fun j => by rw [ew1]; exact if_pos rfl
  have T2 : sj_T W2 q9 = 6 := by rw [ew1]; exact (if_neg nq1).trans T1
  have u1 : ∀ a, sj_T W1 a ≠ 0 → sj_T W2 a ≠ 0 := (k1 0 (by decide)).up
  have g2 : sj_nam (sj_ex (sj_ex (sj_ex G0 120 q9) 121 q0) 122 q1) 123 W2 := (g1.up u1).one z1 (g1.ne t1) (by rw [y1]; decide)
  intro q2 z2 t2 v2 ev2
  have nq2 : q9 ≠ q2 := fun e => by rw [← e, T2] at t2; cases t2
  refine ⟨by rw [ev2]; exact (if_neg nq2).trans T2, z2, fun W3 ew2 => ?_⟩
  rw [ev2] at ew2
  clear ev2
  have k2 : ∀ m, m < 42 → sj_kt m q9 W2 W3 := fun m hm => by rw [ew2]; exact sj_kt.nA t2 hm
  have f3 : sj_fr sj_no w W3 := by rw [ew2]; exact (f2.nw t2).A (Or.inr hT)
  have A2 : sj_A W3 42 q9 = q2 := by rw [ew2]; exact if_pos ⟨rfl, rfl⟩
  have y2 : sj_T W3 q2 = 7 := by rw [ew2]; exact if_pos rfl
  have n2 : sj_N W3 q2 = 12 := by rw [ew2]; exact if_pos rfl
  have i2 : ∀ j, sj_i W3 q2 j = 0 := fun j => by rw [ew2]; exact if_pos rfl
  have T3 : sj_T W3 q9 = 6 := by rw [ew2]; exact (if_neg nq2).trans T2
  have u2 : ∀ a, sj_T W2 a ≠ 0 → sj_T W3 a ≠ 0 := (k2 0 (by decide)).up
  have g3 : sj_nam (sj_ex (sj_ex (sj_ex (sj_ex G0 120 q9) 121 q0) 122 q1) 123 q2) 124 W3 := (g2.up u2).one z2 (g2.ne t2) (by rw [y2]; decide)
  intro q3 z3 t3 v3 ev3
  have nq3 : q9 ≠ q3 := fun e => by rw [← e, T3] at t3; cases t3
  refine ⟨by rw [ev3]; exact (if_neg nq3).trans T3, z3, fun W4 ew3 => ?_⟩
  rw [ev3] at ew3
  clear ev3
  have k3 : ∀ m, m < 43 → sj_kt m q9 W3 W4 := fun m hm => by rw [ew3]; exact sj_kt.nA t3 hm
  have f4 : sj_fr sj_no w W4 := by rw [ew3]; exact (f3.nw t3).A (Or.inr hT)
  have A3 : sj_A W4 43 q9 = q3 := by rw [ew3]; exact if_pos ⟨rfl, rfl⟩
  have y3 : sj_T W4 q3 = 7 := by rw [ew3]; exact if_pos rfl
  have n3 : sj_N W4 q3 = 12 := by rw [ew3]; exact if_pos rfl
  have i3 : ∀ j, sj_i W4 q3 j = 0 := fun j => by rw [ew3]; exact if_pos rfl
  have T4 : sj_T W4 q9 = 6 := by rw [ew3]; exact (if_neg nq3).trans T3
  have u3 : ∀ a, sj_T W3 a ≠ 0 → sj_T W4 a ≠ 0 := (k3 0 (by decide)).up
  have g4 : sj_nam (sj_ex (sj_ex (sj_ex (sj_ex (sj_ex G0 120 q9) 121 q0) 122 q1) 123 q2) 124 q3) 125 W4 := (g3.up u3).one z3 (g3.ne t3) (by rw [y3]; decide)
  intro q4 z4 t4 v4 ev4
  have nq4 : q9 ≠ q4 := fun e => by rw [← e, T4] at t4; cases t4
  refine ⟨by rw [ev4]; exact (if_neg nq4).trans T4, z4, fun W5 ew4 => ?_⟩
  rw [ev4] at ew4
  clear ev4
  have k4 : ∀ m, m < 44 → sj_kt m q9 W4 W5 := fun m hm => by rw [ew4]; exact sj_kt.nA t4 hm
  have f5 : sj_fr sj_no w W5 := by rw [ew4]; exact (f4.nw t4).A (Or.inr hT)
  have A4 : sj_A W5 44 q9 = q4 := by rw [ew4]; exact if_pos ⟨rfl, rfl⟩
  have y4 : sj_T W5 q4 = 7 := by rw [ew4]; exact if_pos rfl
  have n4 : sj_N W5 q4 = 12 := by rw [ew4]; exact if_pos rfl
  have i4 : ∀ j, sj_i W5 q4 j = 0 := fun j => by rw [ew4]; exact if_pos rfl
  have T5 : sj_T W5 q9 = 6 := by rw [ew4]; exact (if_neg nq4).trans T4
  have u4 : ∀ a, sj_T W4 a ≠ 0 → sj_T W5 a ≠ 0 := (k4 0 (by decide)).up
  have g5 : sj_nam (sj_ex (sj_ex (sj_ex (sj_ex (sj_ex (sj_ex G0 120 q9) 121 q0) 122 q1) 123 q2) 124 q3) 125 q4) 126 W5 := (g4.up u4).one z4 (g4.ne t4) (by rw [y4]; decide)
  intro q5 z5 t5 v5 ev5
  have nq5 : q9 ≠ q5 := fun e => by rw [← e, T5] at t5; cases t5
  refine ⟨by rw [ev5]; exact (if_neg nq5).trans T5, z5, fun W6 ew5 => ?_⟩
  rw [ev5] at ew5
  clear ev5
  have k5 : ∀ m, m < 45 → sj_kt m q9 W5 W6 := fun m hm => by rw [ew5]; exact sj_kt.nA t5 hm
  have f6 : sj_fr sj_no w W6 := by rw [ew5]; exact (f5.nw t5).A (Or.inr hT)
  have A5 : sj_A W6 45 q9 = q5 := by rw [ew5]; exact if_pos ⟨rfl, rfl⟩
  have y5 : sj_T W6 q5 = 7 := by rw [ew5]; exact if_pos rfl
  have n5 : sj_N W6 q5 = 12 := by rw [ew5]; exact if_pos rfl
  have i5 : ∀ j, sj_i W6 q5 j = 0 := fun j => by rw [ew5]; exact if_pos rfl
  have T6 : sj_T W6 q9 = 6 := by rw [ew5]; exact (if_neg nq5).trans T5
  have u5 : ∀ a, sj_T W5 a ≠ 0 → sj_T W6 a ≠ 0 := (k5 0 (by decide)).up
  have g6 : sj_nam (sj_ex (sj_ex (sj_ex (sj_ex (sj_ex (sj_ex (sj_ex G0 120 q9) 121 q0) 122 q1) 123 q2) 124 q3) 125 q4) 126 q5) 127 W6 := (g5.up u5).one z5 (g5.ne t5) (by rw [y5]; decide)
  have K0 : sj_kt 40 q9 W1 W6 := (((((k1 40 (by decide)).trans (k2 40 (by decide))).trans (k3 40 (by decide))).trans (k4 40 (by decide))).trans (k5 40 (by decide)))
  have K1 : sj_kt 41 q9 W2 W6 := ((((k2 41 (by decide)).trans (k3 41 (by decide))).trans (k4 41 (by decide))).trans (k5 41 (by decide)))
  have K2 : sj_kt 42 q9 W3 W6 := (((k3 42 (by decide)).trans (k4 42 (by decide))).trans (k5 42 (by decide)))
  have K3 : sj_kt 43 q9 W4 W6 := ((k4 43 (by decide)).trans (k5 43 (by decide)))
  have K4 : sj_kt 44 q9 W5 W6 := (k5 44 (by decide))
  have K5 : sj_kt 45 q9 W6 W6 := sj_kt.rf
  have KI : sj_kt 0 q9 W0 W6 := (k0 0 (by decide)).trans ((k1 0 (by decide)).trans ((k2 0 (by decide)).trans ((k3 0 (by decide)).trans ((k4 0 (by decide)).trans (k5 0 (by decide))))))
  have Z0 := K0 q0 (by rw [y0]; decide)
  have B0 : sj_A W6 40 q9 = q0 := ((K0 q9 (by rw [T1]; decide)).2.2.1 40 (fun _ => by decide)).trans A0
  have Z1 := K1 q1 (by rw [y1]; decide)
  have B1 : sj_A W6 41 q9 = q1 := ((K1 q9 (by rw [T2]; decide)).2.2.1 41 (fun _ => by decide)).trans A1
  have Z2 := K2 q2 (by rw [y2]; decide)
  have B2 : sj_A W6 42 q9 = q2 := ((K2 q9 (by rw [T3]; decide)).2.2.1 42 (fun _ => by decide)).trans A2
  have Z3 := K3 q3 (by rw [y3]; decide)
  have B3 : sj_A W6 43 q9 = q3 := ((K3 q9 (by rw [T4]; decide)).2.2.1 43 (fun _ => by decide)).trans A3
  have Z4 := K4 q4 (by rw [y4]; decide)
  have B4 : sj_A W6 44 q9 = q4 := ((K4 q9 (by rw [T5]; decide)).2.2.1 44 (fun _ => by decide)).trans A4
  have Z5 := K5 q5 (by rw [y5]; decide)
  have B5 : sj_A W6 45 q9 = q5 := ((K5 q9 (by rw [T6]; decide)).2.2.1 45 (fun _ => by decide)).trans A5
  have I6 : sj_I W6 46 q9 = 0 := ((KI q9 (by rw [T0]; decide)).2.2.2.1 46).trans (I0 46)
  exact h W6 (sj_ex (sj_ex (sj_ex (sj_ex (sj_ex (sj_ex (sj_ex G0 120 q9) 121 q0) 122 q1) 123 q2) 124 q3) 125 q4) 126 q5) f6 g6 (fun i hi => by unfold sj_ex; rw [if_neg (by omega), if_neg (by omega), if_neg (by omega), if_neg (by omega), if_neg (by omega), if_neg (by omega), if_neg (by omega)]) rfl ⟨⟨T6, B0, B1, B2, B3, B4, B5⟩, ⟨Z0.1.trans y0, Z0.2.1.trans n0⟩, ⟨Z1.1.trans y1, Z1.2.1.trans n1⟩, ⟨Z2.1.trans y2, Z2.2.1.trans n2⟩, ⟨Z3.1.trans y3, Z3.2.1.trans n3⟩, ⟨Z4.1.trans y4, Z4.2.1.trans n4⟩, ⟨Z5.1.trans y5, Z5.2.1.trans n5⟩, fun k hk => ⟨(Z1.2.2.2.2.1 k).trans (i1 k), fun j hj => absurd hj (Nat.not_lt_zero _)⟩, fun k hk => ⟨(Z2.2.2.2.2.1 k).trans (i2 k), (Z3.2.2.2.2.1 k).trans (i3 k), (Z4.2.2.2.2.1 k).trans (i4 k)⟩, I6, fun j hj => absurd hj (Nat.not_lt_zero _)⟩
theorem pc_initE {G0 : Nat → Nat} {w W0 : sj_W} {q9 : Nat} (hg : sj_nam G0 4 w) (hq : q9 ≠ 0) (hT : sj_T w q9 = 0) (e0 : W0 = sj_nw w q9 1 0) {Q : sj_W → Prop} (h : ∀ w' g', sj_fr sj_no w w' → sj_nam g' 76 w' → (∀ i, i < 4 → g' i = G0 i) → g' 4 = q9 → (sj_T w' (g' 4) = 1 ∧ sj_A w' 0 (g' 4) = g' 5 ∧ sj_A w' 1 (g' 4) = g' 39 ∧ sj_A w' 2 (g' 4) = g' 73 ∧ sj_A w' 3 (g' 4) = g' 74) → (sj_T w' (g' 5) = 13 ∧ sj_N w' (g' 5) = 33 ∧ ∀ k, k < 33 → sj_r w' (g' 5) k = g' (6 + k) ∧ sj_T w' (g' (6 + k)) = 7 ∧ sj_N w' (g' (6 + k)) = 33) → (sj_T w' (g' 39) = 13 ∧ sj_N w' (g' 39) = 33 ∧ ∀ k, k < 33 → sj_r w' (g' 39) k = g' (40 + k) ∧ sj_T w' (g' (40 + k)) = 7 ∧ sj_N w' (g' (40 + k)) = 33) → (sj_T w' (g' 73) = 7 ∧ sj_N w' (g' 73) = 32) → (sj_T w' (g' 74) = 7 ∧ sj_N w' (g' 74) = 32) → Q w') : vc_X0_init q9 W0 Q := by
  have f0 : sj_fr sj_no w W0 := by rw [e0]; exact sj_fr.rf.nw hT
  have T0 : sj_T W0 q9 = 1 := by rw [e0]; exact if_pos rfl
  have u : ∀ a, sj_T w a ≠ 0 → sj_T W0 a ≠ 0 := fun a ha => by rw [(f0 a ha).1]; exact ha
  have g0 : sj_nam (sj_ex G0 4 q9) 5 W0 := (hg.up u).one hq (hg.ne hT) (by rw [T0]; decide)
  intro q0 r0 z0 t0 hr0 inj0 v0 ev0
  have nq0 : q9 ≠ q0 := fun e => by rw [← e, T0] at t0; cases t0
  have nr0 : q9 ∉ (List.range 33).map r0 := fun z => by obtain ⟨i, hi, e⟩ := List.mem_map.mp z; have := (hr0 i (List.mem_range.mp hi)).2.1; rw [e, T0] at this; cases this
  refine ⟨by rw [ev0]; exact ((if_neg nq0).trans (if_neg nr0)).trans T0, z0, fun W1 ew0 => ?_⟩
  rw [ev0] at ew0
  clear ev0
  have f1 : sj_fr sj_no w W1 := by rw [ew0]; exact (f0.nm t0 (fun i hi => (hr0 i hi).2.1)).A (Or.inr hT)
  have A0 : sj_A W1 0 q9 = q0 := by rw [ew0]; exact if_pos ⟨rfl, rfl⟩
  have y0 : sj_T W1 q0 = 13 ∧ sj_N W1 q0 = 33 := by rw [ew0]; exact ⟨if_pos rfl, if_pos rfl⟩
  have x0 : ∀ j, j < 33 → sj_r W1 q0 j = r0 j ∧ sj_T W1 (r0 j) = 7 ∧ sj_N W1 (r0 j) = 33 := fun j hj => by rw [ew0]; exact ⟨(sj_nm_q (k := 33) hj).2.2, (sj_nm_r (k := 33) hj (hr0 j hj).2.2).1, (sj_nm_r (k := 33) hj (hr0 j hj).2.2).2⟩
  have T1 : sj_T W1 q9 = 1 := by rw [ew0]; exact ((if_neg nq0).trans (if_neg nr0)).trans T0
  have u0 : ∀ a, sj_T W0 a ≠ 0 → sj_T W1 a ≠ 0 := fun a ha => by
    have na : a ≠ q0 := fun e => ha (by rw [e]; exact t0)
    have nm : a ∉ (List.range 33).map r0 := fun z => by obtain ⟨i, hi, e⟩ := List.mem_map.mp z; exact ha (by rw [← e]; exact (hr0 i (List.mem_range.mp hi)).2.1)
    rw [ew0]
    show ¬ (if a = q0 then 13 else if a ∈ (List.range 33).map r0 then 7 else sj_T W0 a) = 0
    rw [if_neg na, if_neg nm]
    exact ha
  have h0 : sj_nam (sj_ex (sj_ex G0 4 q9) 5 q0) 6 W1 := (g0.up u0).one z0 (g0.ne t0) (by rw [y0.1]; decide)
  have g1 : sj_nam (sj_exf (sj_ex (sj_ex G0 4 q9) 5 q0) 6 r0) 39 W1 := h0.fam (fun i hi => ⟨(hr0 i hi).1, by rw [(x0 i hi).2.1]; decide⟩) (fun i j hi hj e => by
    by_cases c : i = 5
    · subst c
      exact (hr0 j hj).2.2 (e.symm.trans (if_pos rfl))
    · have e2 : sj_ex (sj_ex G0 4 q9) 5 q0 i = sj_ex G0 4 q9 i := if_neg c
      rw [e2] at e
      exact g0.ne (hr0 j hj).2.1 i (by omega) e) inj0
  intro q1 r1 z1 t1 hr1 inj1 v1 ev1
  have nq1 : q9 ≠ q1 := fun e => by rw [← e, T1] at t1; cases t1
  have nr1 : q9 ∉ (List.range 33).map r1 := fun z => by obtain ⟨i, hi, e⟩ := List.mem_map.mp z; have := (hr1 i (List.mem_range.mp hi)).2.1; rw [e, T1] at this; cases this
  refine ⟨by rw [ev1]; exact ((if_neg nq1).trans (if_neg nr1)).trans T1, z1, fun W2 ew1 => ?_⟩
  rw [ev1] at ew1
  clear ev1
  have k1 : ∀ m, m < 1 → sj_kt m q9 W1 W2 := fun m hm => by rw [ew1]; exact sj_kt.mA t1 (fun i hi => (hr1 i hi).2.1) hm
  have f2 : sj_fr sj_no w W2 := by rw [ew1]; exact (f1.nm t1 (fun i hi => (hr1 i hi).2.1)).A (Or.inr hT)
  have A1 : sj_A W2 1 q9 = q1 := by rw [ew1]; exact if_pos ⟨rfl, rfl⟩
  have y1 : sj_T W2 q1 = 13 ∧ sj_N W2 q1 = 33 := by rw [ew1]; exact ⟨if_pos rfl, if_pos rfl⟩
  have x1 : ∀ j, j < 33 → sj_r W2 q1 j = r1 j ∧ sj_T W2 (r1 j) = 7 ∧ sj_N W2 (r1 j) = 33 := fun j hj => by rw [ew1]; exact ⟨(sj_nm_q (k := 33) hj).2.2, (sj_nm_r (k := 33) hj (hr1 j hj).2.2).1, (sj_nm_r (k := 33) hj (hr1 j hj).2.2).2⟩
  have T2 : sj_T W2 q9 = 1 := by rw [ew1]; exact ((if_neg nq1).trans (if_neg nr1)).trans T1
  have u1 : ∀ a, sj_T W1 a ≠ 0 → sj_T W2 a ≠ 0 := fun a ha => by
    have na : a ≠ q1 := fun e => ha (by rw [e]; exact t1)
    have nm : a ∉ (List.range 33).map r1 := fun z => by obtain ⟨i, hi, e⟩ := List.mem_map.mp z; exact ha (by rw [← e]; exact (hr1 i (List.mem_range.mp hi)).2.1)
    rw [ew1]
    show ¬ (if a = q1 then 13 else if a ∈ (List.range 33).map r1 then 7 else sj_T W1 a) = 0
    rw [if_neg na, if_neg nm]
    exact ha
  have h1 : sj_nam (sj_ex (sj_exf (sj_ex (sj_ex G0 4 q9) 5 q0) 6 r0) 39 q1) 40 W2 := (g1.up u1).one z1 (g1.ne t1) (by rw [y1.1]; decide)
  have g2 : sj_nam (sj_exf (sj_ex (sj_exf (sj_ex (sj_ex G0 4 q9) 5 q0) 6 r0) 39 q1) 40 r1) 73 W2 := h1.fam (fun i hi => ⟨(hr1 i hi).1, by rw [(x1 i hi).2.1]; decide⟩) (fun i j hi hj e => by
    by_cases c : i = 39
    · subst c
      exact (hr1 j hj).2.2 (e.symm.trans (if_pos rfl))
    · have e2 : sj_ex (sj_exf (sj_ex (sj_ex G0 4 q9) 5 q0) 6 r0) 39 q1 i = (sj_exf (sj_ex (sj_ex G0 4 q9) 5 q0) 6 r0) i := if_neg c
      rw [e2] at e
      exact g1.ne (hr1 j hj).2.1 i (by omega) e) inj1
  intro q2 z2 t2 v2 ev2
  have nq2 : q9 ≠ q2 := fun e => by rw [← e, T2] at t2; cases t2
  refine ⟨by rw [ev2]; exact (if_neg nq2).trans T2, z2, fun W3 ew2 => ?_⟩
  rw [ev2] at ew2
  clear ev2
  have k2 : ∀ m, m < 2 → sj_kt m q9 W2 W3 := fun m hm => by rw [ew2]; exact sj_kt.nA t2 hm
  have f3 : sj_fr sj_no w W3 := by rw [ew2]; exact (f2.nw t2).A (Or.inr hT)
  have A2 : sj_A W3 2 q9 = q2 := by rw [ew2]; exact if_pos ⟨rfl, rfl⟩
  have y2 : sj_T W3 q2 = 7 := by rw [ew2]; exact if_pos rfl
  have n2 : sj_N W3 q2 = 32 := by rw [ew2]; exact if_pos rfl
  have i2 : ∀ j, sj_i W3 q2 j = 0 := fun j => by rw [ew2]; exact if_pos rfl
  have T3 : sj_T W3 q9 = 1 := by rw [ew2]; exact (if_neg nq2).trans T2
  have u2 : ∀ a, sj_T W2 a ≠ 0 → sj_T W3 a ≠ 0 := (k2 0 (by decide)).up
  have g3 : sj_nam (sj_ex (sj_exf (sj_ex (sj_exf (sj_ex (sj_ex G0 4 q9) 5 q0) 6 r0) 39 q1) 40 r1) 73 q2) 74 W3 := (g2.up u2).one z2 (g2.ne t2) (by rw [y2]; decide)
  intro q3 z3 t3 v3 ev3
  have nq3 : q9 ≠ q3 := fun e => by rw [← e, T3] at t3; cases t3
  refine ⟨by rw [ev3]; exact (if_neg nq3).trans T3, z3, fun W4 ew3 => ?_⟩
  rw [ev3] at ew3
  clear ev3
  have k3 : ∀ m, m < 3 → sj_kt m q9 W3 W4 := fun m hm => by rw [ew3]; exact sj_kt.nA t3 hm
  have f4 : sj_fr sj_no w W4 := by rw [ew3]; exact (f3.nw t3).A (Or.inr hT)
  have A3 : sj_A W4 3 q9 = q3 := by rw [ew3]; exact if_pos ⟨rfl, rfl⟩
  have y3 : sj_T W4 q3 = 7 := by rw [ew3]; exact if_pos rfl
  have n3 : sj_N W4 q3 = 32 := by rw [ew3]; exact if_pos rfl
  have i3 : ∀ j, sj_i W4 q3 j = 0 := fun j => by rw [ew3]; exact if_pos rfl
  have T4 : sj_T W4 q9 = 1 := by rw [ew3]; exact (if_neg nq3).trans T3
  have u3 : ∀ a, sj_T W3 a ≠ 0 → sj_T W4 a ≠ 0 := (k3 0 (by decide)).up
  have g4 : sj_nam (sj_ex (sj_ex (sj_exf (sj_ex (sj_exf (sj_ex (sj_ex G0 4 q9) 5 q0) 6 r0) 39 q1) 40 r1) 73 q2) 74 q3) 75 W4 := (g3.up u3).one z3 (g3.ne t3) (by rw [y3]; decide)
  intro q4 z4 t4 v4 ev4
  have nq4 : q9 ≠ q4 := fun e => by rw [← e, T4] at t4; cases t4
  refine ⟨by rw [ev4]; exact (if_neg nq4).trans T4, z4, fun W5 ew4 => ?_⟩
  rw [ev4] at ew4
  clear ev4
  have k4 : ∀ m, m < 5 → sj_kt m q9 W4 W5 := fun m hm => by rw [ew4]; exact sj_kt.nA t4 hm
  have f5 : sj_fr sj_no w W5 := by rw [ew4]; exact (f4.nw t4).A (Or.inr hT)
  have A4 : sj_A W5 5 q9 = q4 := by rw [ew4]; exact if_pos ⟨rfl, rfl⟩
  have y4 : sj_T W5 q4 = 8 := by rw [ew4]; exact if_pos rfl
  have n4 : sj_N W5 q4 = 32 := by rw [ew4]; exact if_pos rfl
  have i4 : ∀ j, sj_i W5 q4 j = 0 := fun j => by rw [ew4]; exact if_pos rfl
  have T5 : sj_T W5 q9 = 1 := by rw [ew4]; exact (if_neg nq4).trans T4
  have u4 : ∀ a, sj_T W4 a ≠ 0 → sj_T W5 a ≠ 0 := (k4 0 (by decide)).up
  have g5 : sj_nam (sj_ex (sj_ex (sj_ex (sj_exf (sj_ex (sj_exf (sj_ex (sj_ex G0 4 q9) 5 q0) 6 r0) 39 q1) 40 r1) 73 q2) 74 q3) 75 q4) 76 W5 := (g4.up u4).one z4 (g4.ne t4) (by rw [y4]; decide)
  have K0 : sj_kt 0 q9 W1 W5 := ((((k1 0 (by decide)).trans (k2 0 (by decide))).trans (k3 0 (by decide))).trans (k4 0 (by decide)))
  have Z0 := K0 q0 (by rw [y0.1]; decide)
  have B0 : sj_A W5 0 q9 = q0 := ((K0 q9 (by rw [T1]; decide)).2.2.1 0 (fun _ => by decide)).trans A0
  have K1 : sj_kt 1 q9 W2 W5 := (((k2 1 (by decide)).trans (k3 1 (by decide))).trans (k4 1 (by decide)))
  have Z1 := K1 q1 (by rw [y1.1]; decide)
  have B1 : sj_A W5 1 q9 = q1 := ((K1 q9 (by rw [T2]; decide)).2.2.1 1 (fun _ => by decide)).trans A1
  have K2 : sj_kt 2 q9 W3 W5 := ((k3 2 (by decide)).trans (k4 2 (by decide)))
  have Z2 := K2 q2 (by rw [y2]; decide)
  have B2 : sj_A W5 2 q9 = q2 := ((K2 q9 (by rw [T3]; decide)).2.2.1 2 (fun _ => by decide)).trans A2
  have K3 : sj_kt 3 q9 W4 W5 := (k4 3 (by decide))
  have Z3 := K3 q3 (by rw [y3]; decide)
  have B3 : sj_A W5 3 q9 = q3 := ((K3 q9 (by rw [T4]; decide)).2.2.1 3 (fun _ => by decide)).trans A3
  have K4 : sj_kt 5 q9 W5 W5 := sj_kt.rf
  have Z4 := K4 q4 (by rw [y4]; decide)
  have B4 : sj_A W5 5 q9 = q4 := ((K4 q9 (by rw [T5]; decide)).2.2.1 5 (fun _ => by decide)).trans A4
  have e6 : ∀ k, k < 33 → (sj_ex (sj_ex (sj_ex (sj_exf (sj_ex (sj_exf (sj_ex (sj_ex G0 4 q9) 5 q0) 6 r0) 39 q1) 40 r1) 73 q2) 74 q3) 75 q4) (6 + k) = r0 k := fun k hk => by
    rw [sj_ex_o (by omega), sj_ex_o (by omega), sj_ex_o (by omega), sj_exf_lt (by omega), sj_ex_o (by omega), sj_exf_ge (by omega), Nat.add_sub_cancel_left]
  have e40 : ∀ k, k < 33 → (sj_ex (sj_ex (sj_ex (sj_exf (sj_ex (sj_exf (sj_ex (sj_ex G0 4 q9) 5 q0) 6 r0) 39 q1) 40 r1) 73 q2) 74 q3) 75 q4) (40 + k) = r1 k := fun k hk => by
    rw [sj_ex_o (by omega), sj_ex_o (by omega), sj_ex_o (by omega), sj_exf_ge (by omega), Nat.add_sub_cancel_left]
  refine h W5 (sj_ex (sj_ex (sj_ex (sj_exf (sj_ex (sj_exf (sj_ex (sj_ex G0 4 q9) 5 q0) 6 r0) 39 q1) 40 r1) 73 q2) 74 q3) 75 q4) f5 g5 (fun i hi => ?_) rfl ⟨T5, B0, B1, B2, B3⟩ ⟨Z0.1.trans y0.1, Z0.2.1.trans y0.2, fun k hk => ?_⟩ ⟨Z1.1.trans y1.1, Z1.2.1.trans y1.2, fun k hk => ?_⟩ ⟨Z2.1.trans y2, Z2.2.1.trans n2⟩ ⟨Z3.1.trans y3, Z3.2.1.trans n3⟩
  · rw [sj_ex_o (by omega), sj_ex_o (by omega), sj_ex_o (by omega), sj_exf_lt (by omega), sj_ex_o (by omega), sj_exf_lt (by omega), sj_ex_o (by omega), sj_ex_o (by omega)]
  · rw [e6 k hk]
    have z := K0 (r0 k) (by rw [(x0 k hk).2.1]; decide)
    exact ⟨(Z0.2.2.2.2.2 k).trans (x0 k hk).1, z.1.trans (x0 k hk).2.1, z.2.1.trans (x0 k hk).2.2⟩
  · rw [e40 k hk]
    have z := K1 (r1 k) (by rw [(x1 k hk).2.1]; decide)
    exact ⟨(Z1.2.2.2.2.2 k).trans (x1 k hk).1, z.1.trans (x1 k hk).2.1, z.2.1.trans (x1 k hk).2.2⟩

/-! THE NAMES ARE ALL APART -/
def sj_us (i : Nat) : Prop := i < 9 ∨ (10 ≤ i ∧ i < 43) ∨ (50 ≤ i ∧ i < 83) ∨ (100 ≤ i ∧ i < 116) ∨ (120 ≤ i ∧ i < 136) ∨ (140 ≤ i ∧ i < 152) ∨ (200 ≤ i ∧ i < 207) ∨ i = 210 ∨ i = 211
theorem sj_pz_lt {i : Nat} (h : sj_us i) : sj_pz i < 129 ∧ (i < 200 → sj_pz i < 120) := by
  unfold sj_us at h
  unfold sj_pz
  repeat' split
  all_goals omega
def sj_zp (p : Nat) : Nat := if p < 6 then p else if p < 39 then p + 4 else if p = 39 then 6 else if p < 73 then p + 10 else if p = 73 then 7 else if p < 76 then 8 else if p < 108 then (if p % 2 = 0 then 100 + (p - 76) / 2 else 120 + (p - 77) / 2) else if p < 120 then p + 32 else if p < 127 then p + 80 else p + 83
theorem sj_zp_pz : ∀ i, i < 212 → (i < 9 ∨ (10 ≤ i ∧ i < 43) ∨ (50 ≤ i ∧ i < 83) ∨ (100 ≤ i ∧ i < 116) ∨ (120 ≤ i ∧ i < 136) ∨ (140 ≤ i ∧ i < 152) ∨ (200 ≤ i ∧ i < 207) ∨ i = 210 ∨ i = 211) → sj_zp (sj_pz i) = i := by decide +kernel
theorem sj_us_lt {i : Nat} (h : sj_us i) : i < 212 := by
  unfold sj_us at h
  omega
theorem sj_pz_inj {i j : Nat} (hi : sj_us i) (hj : sj_us j) (e : sj_pz i = sj_pz j) : i = j := by
  rw [← sj_zp_pz i (sj_us_lt hi) hi, ← sj_zp_pz j (sj_us_lt hj) hj, e]
theorem sj_bnd (g : Nat → Nat) : ∀ n, ∃ B, ∀ j, j < n → g j < B
  | 0 => ⟨0, fun j hj => absurd hj (Nat.not_lt_zero _)⟩
  | n + 1 => by
    obtain ⟨B, h⟩ := sj_bnd g n
    refine ⟨B + g n + 1, fun j hj => ?_⟩
    by_cases e : j = n
    · subst e; omega
    · have := h j (by omega)
      omega
theorem sj_La_ex {g : Nat → Nat} {w : sj_W} (h : sj_nam g 129 w) : ∃ La : Nat → Nat, sj_La La ∧ ∀ i, sj_us i → La i = g (sj_pz i) := by
  obtain ⟨B, hB⟩ := sj_bnd g 129
  refine ⟨fun i => @ite _ (sj_us i) (Classical.propDecidable _) (g (sj_pz i)) (B + 1 + i), ⟨fun i j e => ?_, fun i e => ?_⟩, fun i hi => if_pos hi⟩
  · by_cases ci : sj_us i
    · by_cases cj : sj_us j
      · have e : @ite _ (sj_us i) (Classical.propDecidable _) (g (sj_pz i)) (B + 1 + i) = @ite _ (sj_us j) (Classical.propDecidable _) (g (sj_pz j)) (B + 1 + j) := e
        rw [if_pos ci, if_pos cj] at e
        exact sj_pz_inj ci cj (h.1 _ _ (sj_pz_lt ci).1 (sj_pz_lt cj).1 e)
      · have e : @ite _ (sj_us i) (Classical.propDecidable _) (g (sj_pz i)) (B + 1 + i) = @ite _ (sj_us j) (Classical.propDecidable _) (g (sj_pz j)) (B + 1 + j) := e
        rw [if_pos ci, if_neg cj] at e
        have := hB _ (sj_pz_lt ci).1
        omega
    · by_cases cj : sj_us j
      · have e : @ite _ (sj_us i) (Classical.propDecidable _) (g (sj_pz i)) (B + 1 + i) = @ite _ (sj_us j) (Classical.propDecidable _) (g (sj_pz j)) (B + 1 + j) := e
        rw [if_neg ci, if_pos cj] at e
        have := hB _ (sj_pz_lt cj).1
        omega
      · have e : @ite _ (sj_us i) (Classical.propDecidable _) (g (sj_pz i)) (B + 1 + i) = @ite _ (sj_us j) (Classical.propDecidable _) (g (sj_pz j)) (B + 1 + j) := e
        rw [if_neg ci, if_neg cj] at e
        omega
  · by_cases ci : sj_us i
    · have e : @ite _ (sj_us i) (Classical.propDecidable _) (g (sj_pz i)) (B + 1 + i) = 0 := e
      rw [if_pos ci] at e
      exact (h.2 _ (sj_pz_lt ci).1).1 e
    · have e : @ite _ (sj_us i) (Classical.propDecidable _) (g (sj_pz i)) (B + 1 + i) = 0 := e
      rw [if_neg ci] at e
      omega
theorem sj_Mo.cg {La La' : Nat → Nat} {σ : sj_S} {w : sj_W} (h : sj_Mo La σ w) (e : ∀ i, 200 ≤ i → i < 207 → La' i = La i) : sj_Mo La' σ w := by
  unfold sj_Mo
  rw [e 200 (by decide) (by decide), e 201 (by decide) (by decide), e 202 (by decide) (by decide), e 203 (by decide) (by decide), e 204 (by decide) (by decide), e 205 (by decide) (by decide), e 206 (by decide) (by decide)]
  exact h
theorem sj_Cm.cg {La La' : Nat → Nat} {σ : sj_S} {w : sj_W} (h : sj_Cm La σ w) (e : ∀ i, i < 200 → sj_us i → La' i = La i) : sj_Cm La' σ w := by
  have n : ∀ i, i < 9 → La' i = La i := fun i hi => e i (by omega) (Or.inl hi)
  have n10 : ∀ k, k < 33 → La' (10 + k) = La (10 + k) := fun k hk => e _ (by omega) (by unfold sj_us; omega)
  have n50 : ∀ k, k < 33 → La' (50 + k) = La (50 + k) := fun k hk => e _ (by omega) (by unfold sj_us; omega)
  have n100 : ∀ k, k < 16 → La' (100 + k) = La (100 + k) := fun k hk => e _ (by omega) (by unfold sj_us; omega)
  have n120 : ∀ k, k < 16 → La' (120 + k) = La (120 + k) := fun k hk => e _ (by omega) (by unfold sj_us; omega)
  have n140 : ∀ k, k < 12 → La' (140 + k) = La (140 + k) := fun k hk => e _ (by omega) (by unfold sj_us; omega)
  obtain ⟨⟨a1, ⟨b1, b2, b3⟩, ⟨c1, c2, c3⟩, d1, e1, f1, g1, h1, ⟨i1, i2, i3⟩, ⟨j1, j2, j3⟩, k1, l1⟩, m1, m2, m3, m4⟩ := h
  refine ⟨⟨?_, ?_, ?_, ?_, fun k hk => ?_, fun k hk => ?_, fun k hk => ?_, ?_, ?_, ?_, ?_, ?_⟩, fun k hk => ?_, fun k hk => ?_, ?_, fun j hj => ?_⟩
  · rw [n 0 (by decide), n 1 (by decide), n 2 (by decide), n 3 (by decide), n 4 (by decide)]; exact a1
  · rw [n 1 (by decide)]; exact ⟨b1, b2, fun k hk => by rw [n100 k hk]; exact b3 k hk⟩
  · rw [n 2 (by decide)]; exact ⟨c1, c2, fun k hk => by rw [n140 k hk]; exact c3 k hk⟩
  · rw [n 3 (by decide)]; exact d1
  · rw [n100 k hk, n120 k hk]; exact e1 k hk
  · rw [n120 k hk]; exact f1 k hk
  · rw [n140 k hk]; exact g1 k hk
  · rw [n 4 (by decide), n 5 (by decide), n 6 (by decide), n 7 (by decide), n 8 (by decide)]; exact h1
  · rw [n 5 (by decide)]; exact ⟨i1, i2, fun k hk => by rw [n10 k hk]; exact i3 k hk⟩
  · rw [n 6 (by decide)]; exact ⟨j1, j2, fun k hk => by rw [n50 k hk]; exact j3 k hk⟩
  · rw [n 7 (by decide)]; exact k1
  · rw [n 8 (by decide)]; exact l1
  · rw [n100 k hk, n120 k hk]; exact m1 k hk
  · rw [n140 k hk]; exact m2 k hk
  · rw [n 0 (by decide)]; exact m3
  · rw [n 3 (by decide)]; exact m4 j hj
theorem sj_wf0 : sj_wf sj_S0 := ⟨fun k _ => ⟨Nat.zero_le _, fun j hj => absurd hj (Nat.not_lt_zero _)⟩, fun k _ => ⟨by show 0 < 4; decide, Nat.le_refl _, Nat.zero_le _⟩, Nat.zero_le _, fun j hj => absurd hj (Nat.not_lt_zero _)⟩
theorem sj_Llt {L i : Nat} (hL : L ≤ 3072) (hi : i ≤ L) : (nI L - 6 < nI i) ↔ L < i + 6 := by
  by_cases h6 : 6 ≤ L
  · rw [sj_lits 6, sj_subI h6, sj_ltI (by omega) (by omega)]
    omega
  · have key : ∀ L, L < 6 → (nI L - nI 6).toInt < 0 := by decide
    have k1 := key L (by omega)
    rw [sj_lits 6, Int32.lt_iff_toInt_lt, nI_toInt (by omega)]
    omega
theorem law_loop {La : Nat → Nat} (hLa : sj_La La) {L : Nat} (hL : L ≤ 3072) {xs : Nat → Int32} {w : sj_W} (hI : sj_IV La w) : sj_lp1 (vb_L_law_28 L xs (La 0) (La 200) (La 210) (La 211) (fun _ => True)) 600 0 w := by
  refine sj_lp1_run (fun v w' => sj_IV La w' ∧ ∃ i : Nat, v = nI i ∧ i ≤ L) (fun v _ => (L + 6 - v.toNatClampNeg) / 6) ?_ 600 _ _ ⟨hI, 0, rfl, Nat.zero_le _⟩ (by omega)
  rintro v w K ⟨⟨σ, hw, hC, hM, hO⟩, i, rfl, hi⟩ hK
  unfold vb_L_law_28
  rw [sj_Llt hL hi]
  refine ⟨fun _ => trivial, fun q => ?_⟩
  have hi5 : ∀ j : Nat, j < 6 → vp_in (nI i + nI j) L := fun j hj => by
    rw [sj_addI, sj_inI (by omega)]
    omega
  have hK' : ∀ w', sj_IV La w' → K (nI i + 6) w' := fun w' IV => by
    have e6 : nI i + 6 = nI (i + 6) := by rw [sj_lits 6, sj_addI]
    rw [e6]
    refine hK _ _ ⟨IV, i + 6, rfl, by omega⟩ ?_
    rw [sj_clI (by omega), sj_clI (by omega)]
    omega
  exact ⟨by rw [sj_inI (by omega)]; omega, fun _ => hK' _ ⟨σ, hw, hC, hM, hO⟩, fun _ => lk_0 hLa hC hM hO hw hi5 hK', fun _ => lk_1 hLa hC hM hO hw hi5 hK', fun _ => lk_2 hLa hC hM hO hw hi5 hK', fun _ => lk_3 hLa hC hM hO hw hi5 hK', fun _ => lk_4 hLa hC hM hO hw hi5 hK', fun _ => lk_5 hLa hC hM hO hw hi5 hK', fun _ => lk_6 hLa hC hM hO hw hi5 hK', fun _ => lk_7 hLa hC hM hO hw hi5 hK', fun _ => lk_8 hLa hC hM hO hw hi5 hK', fun _ => lk_9 hLa hC hM hO hw hi5 hK', fun _ => lk_10 hLa hC hM hO hw hi5 hK', fun _ => lk_11 hLa hC hM hO hw hi5 hK', fun _ => lk_12 hLa hC hM hO hw hi5 hK', fun _ => lk_13 hLa hC hM hO hw hi5 hK', fun _ => lk_14 hLa hC hM hO hw hi5 hK', fun _ => lk_15 hLa hC hM hO hw hi5 hK', fun _ => lk_16 hLa hC hM hO hw hi5 hK', fun _ => lk_17 hLa hC hM hO hw hi5 hK', fun _ => lk_18 hLa hC hM hO hw hi5 hK', fun _ => lk_19 hLa hC hM hO hw hi5 hK', fun _ => lk_20 hLa hC hM hO hw hi5 hK', fun _ => lk_21 hLa hC hM hO hw hi5 hK', fun _ => lk_22 hLa hC hM hO hw hi5 hK', fun _ => lk_23 hLa hC hM hO hw hi5 hK', fun _ => lk_24 hLa hC hM hO hw hi5 hK', fun _ => lk_25 hLa hC hM hO hw hi5 hK', fun _ => lk_26 hLa hC hM hO hw hi5 hK', fun _ => lk_27 hLa hC hM hO hw hi5 hK', fun _ => lk_28 hLa hC hM hO hw hi5 hK', fun _ => lk_29 hLa hC hM hO hw hi5 hK', fun _ => lk_30 hLa hC hM hO hw hi5 hK', fun _ => lk_31 hLa hC hM hO hw hK', fun _ => lk_32 hLa hC hM hO hw hi5 hK', fun _ => lk_33 hLa hC hM hO hw hi5 hK'⟩
theorem law_walk {L : Nat} (hL : L ≤ 3072) {xs : Nat → Int32} {w : sj_W} : vc_L_law L xs w := by
  intro q1 h1 h2 w2 e2
  refine pc_init h1 h2 e2 (fun w7 g f7 g7 g70 C7 => ?_)
  intro q9 z9 t9 w10 e10
  refine pm_init g7 z9 t9 e10 (fun w15 g' f15 g15 lo15 g120 M15 => ?_)
  intro q17 z17 t17 w18 e18 q22 z22 t22 w23 e23
  have f18 : sj_fr sj_no w15 w18 := by rw [e18]; exact sj_fr.rf.nw t17
  have f23 : sj_fr sj_no w18 w23 := by rw [e23]; exact sj_fr.rf.nw t22
  have T17 : sj_T w18 q17 = 8 := by rw [e18]; exact if_pos rfl
  have N17 : sj_N w18 q17 = 1 := by rw [e18]; exact if_pos rfl
  have T22 : sj_T w23 q22 = 9 := by rw [e23]; exact if_pos rfl
  have N22 : sj_N w23 q22 = 1 := by rw [e23]; exact if_pos rfl
  have u17 := f23 q17 (by rw [T17]; decide)
  have g18 : sj_nam (sj_ex g' 127 q17) 128 w18 := (g15.up (sj_kt.up (m := 0) (s := 0) f18.kt)).one z17 (g15.ne t17) (by rw [T17]; decide)
  have g23 : sj_nam (sj_ex (sj_ex g' 127 q17) 128 q22) 129 w23 := (g18.up (sj_kt.up (m := 0) (s := 0) f23.kt)).one z22 (g18.ne t22) (by rw [T22]; decide)
  obtain ⟨La, hLa, hn⟩ := sj_La_ex g23
  have lo : ∀ i, i < 127 → sj_ex (sj_ex g' 127 q17) 128 q22 i = g' i := fun i hi => (sj_ex_o (by omega)).trans (sj_ex_o (by omega))
  have hC : sj_Cm La sj_S0 w23 := ((C7.no ((f15.trans f18).trans f23)).cg (fun i hi us => by
    have p := (sj_pz_lt us).2 hi
    rw [hn i us, lo _ (by omega), lo15 _ p]))
  have hM : sj_Mo La sj_S0 w23 := by
    have m23 : sj_Mo (fun i => g' (i - 80)) sj_S0 w23 := M15.fr (f18.trans f23) (fun _ _ _ z => z) (((f18.trans f23) (g' (200 - 80)) (by rw [M15.1.1]; decide)).2.2.2.2 (fun z => z) |>.1 46)
    refine m23.cg (fun i i1 i2 => ?_)
    have us : sj_us i := by unfold sj_us; omega
    have p : sj_pz i = i - 80 := by
      unfold sj_pz
      repeat' split
      all_goals omega
    rw [hn i us, p, lo _ (by omega)]
  have e0 : La 0 = q1 := (hn 0 (Or.inl (by decide))).trans ((lo 0 (by decide)).trans ((lo15 0 (by decide)).trans g70))
  have e200 : La 200 = q9 := (hn 200 (by unfold sj_us; omega)).trans ((lo 120 (by decide)).trans g120)
  have e210 : La 210 = q17 := (hn 210 (by unfold sj_us; omega)).trans rfl
  have e211 : La 211 = q22 := (hn 211 (by unfold sj_us; omega)).trans rfl
  have hO : sj_Ou La w23 := by
    unfold sj_Ou
    rw [e210, e211]
    exact ⟨⟨u17.1.trans T17, u17.2.1.trans N17⟩, T22, N22⟩
  rw [← e0, ← e200, ← e210, ← e211]
  exact law_loop hLa hL ⟨sj_S0, sj_wf0, hC, hM, hO⟩
/-! THE START -/
theorem sj_arrC {args : Array Value} {s : State} {ty : FieldType} (h : (Cond.arrayClass ty).before args s = true) (hno : ∀ C, ty ≠ .object C) : ∃ cA, ArrOfT s cA ty ∧ va_RA s cA ty := by
  obtain ⟨c, k, comp, h1, h2, h3⟩ := Cond.arrayClass_spec h
  refine ⟨c, fun n z => ⟨fun k h => (by cases h), k, h2, comp, h3⟩, ?_⟩
  cases ty with
  | object C => exact absurd rfl (hno C)
  | _ => exact h1
theorem sj_arrO {args : Array Value} {s : State} {C : String} (h : (Cond.arrayOver (.object C)).before args s = true) : ∃ cA, ArrOfT s cA (.object C) ∧ va_RA s cA (.object C) := by
  obtain ⟨comp, c, k, h1, h2, h3, h4, h5⟩ := Cond.arrayOver_spec h
  exact ⟨c, fun n z => ⟨fun k h => (by cases h), k, h3, comp, h4⟩, k, comp, h3, h4, h1, h5⟩
theorem sj_arrA {args : Array Value} {s : State} (h : (Cond.arrayOver (.array .int)).before args s = true) : ∃ cA, ArrOfT s cA (.array .int) ∧ va_RA s cA (.array .int) := by
  obtain ⟨comp, c, k, h1, h3, h4, h5⟩ := Cond.arrayOver_specA h
  exact ⟨c, fun n z => ⟨fun k h => (by cases h), k, h3, comp, h4⟩, h5⟩
theorem sj_strs_ex : ∀ x ∈ sj_strs, Cond.exactly (.string x.1 x.2.1) "java/lang/String" ∈ flatC (Jvm.Cond.and given_1 narrow_1) := by decide +kernel
theorem sj_start {s : State} {b : Nat} (hts : ∀ w ∈ lw_tbl, w.before #[Value.ref b] s = true) (hgv : (Jvm.Cond.and given_1 narrow_1).before #[Value.ref b] s = true) (hpos : 0 < s.heap.size) : ∃ G : sj_G, G.2.2 = s.heap.size ∧ sj_K G s := by
  have tb : ∀ (i : Nat) (w : Cond), tables_1[i]? = some w → w.before #[Value.ref b] s = true := fun i w h => hts w (List.mem_append_right _ (List.mem_of_getElem? h))
  have hbg : ∀ w ∈ sj_Big, w.before #[Value.ref b] s = true := fun w h => hts w (List.mem_filter.mp h).1
  have hs := flat_of_before _ hgv
  obtain ⟨a0, p0⟩ := sj_arrC (hbg _ mb_69) (by intro C h; cases h)
  obtain ⟨a1, p1⟩ := sj_arrC (hbg _ mb_70) (by intro C h; cases h)
  obtain ⟨a2, p2⟩ := sj_arrC (hbg _ mb_996) (by intro C h; cases h)
  obtain ⟨a3, p3⟩ := sj_arrO (tb 25 (.arrayOver (.object RX1)) (by decide +kernel))
  obtain ⟨a4, p4⟩ := sj_arrO (tb 27 (.arrayOver (.object RX3)) (by decide +kernel))
  obtain ⟨a5, p5⟩ := sj_arrO (tb 621 (.arrayOver (.object RX4)) (by decide +kernel))
  obtain ⟨a6, p6⟩ := sj_arrA (tb 35 (.arrayOver (.array .int)) (by decide +kernel))
  obtain ⟨c0, i0, k0⟩ := u_known (C := RX0) (T := TX0) (N := 8) (n := 8) hbg in_X0 (hbg _ mb_29)
  obtain ⟨c1, i1, k1⟩ := u_known (C := RX1) (T := TX1) (N := 2) (n := 2) hbg in_X1 (hbg _ mb_71)
  obtain ⟨c2, i2, k2⟩ := u_known (C := RX3) (T := TX3) (N := 3) (n := 3) hbg in_X3 (hbg _ mb_88)
  obtain ⟨c3, i3, k3⟩ := u_known (C := RX4) (T := TX4) (N := 3) (n := 3) hbg in_X4 (hbg _ mb_379)
  obtain ⟨c4, i4, k4⟩ := u_known (C := RX6) (T := TX6) (N := 5) (n := 5) hbg in_X6 (hbg _ mb_17)
  obtain ⟨c5, i5, k5⟩ := u_known (C := RX7) (T := TX7) (N := 8) (n := 8) hbg in_X7 (hbg _ mb_705)
  have hA : ∀ a : Nat, a < s.heap.size → ¬ (fun q : Nat => s.heap.size ≤ q) a := fun a h => Nat.not_le.mpr h
  refine ⟨((fun k => if k = 0 then c0 else if k = 1 then c1 else if k = 2 then c2 else if k = 3 then c3 else if k = 4 then c4 else c5, fun k => if k = 0 then i0 else if k = 1 then i1 else if k = 2 then i2 else if k = 3 then i3 else if k = 4 then i4 else i5), fun k => if k = 0 then a0 else if k = 1 then a1 else if k = 2 then a2 else if k = 3 then a3 else if k = 4 then a4 else if k = 5 then a5 else a6, s.heap.size), rfl, ⟨fun k q hq => ?_, fun k q hq => ?_⟩, ?_, ?_, ?_, ?_, ?_, ?_, ?_, ?_, hpos, Nat.le_refl _⟩
  · match k, hq with
    | 0, hq => cases hq; exact k0
    | 1, hq => cases hq; exact k1
    | 2, hq => cases hq; exact k2
    | 3, hq => cases hq; exact k3
    | 4, hq => cases hq; exact k4
    | 5, hq => cases hq; exact k5
    | k + 6, hq => simp at hq
  · match k, hq with
    | 0, hq => cases hq; exact p0
    | 1, hq => cases hq; exact p1
    | 2, hq => cases hq; exact p2
    | 3, hq => cases hq; exact p3
    | 4, hq => cases hq; exact p4
    | 5, hq => cases hq; exact p5
    | 6, hq => cases hq; exact p6
    | k + 7, hq => simp [sj_tys] at hq
  · exact vx_Zqof (tb 165 _ (by decide +kernel)) (tb 6 _ (by decide +kernel)) (hs _ (by decide +kernel)) hA
  · exact vx_Zqof (tb 167 _ (by decide +kernel)) (tb 6 _ (by decide +kernel)) (hs _ (by decide +kernel)) hA
  · obtain ⟨t, h1, h2⟩ := va_Tof (args := #[Value.ref b]) (s := s) (tm := .static RX6 "LEAST" "[J") (ty := .long) (N := 4) (f := fun j => .long (sj_least j)) (A := fun q : Nat => s.heap.size ≤ q) (by decide) (hs _ (by decide +kernel)) (va_eqt (hs (Cond.eq (.length (.static RX6 "LEAST" "[J")) (.int 4)) (by decide +kernel))) (fun j hj => by
      have e : j = 0 ∨ j = 1 ∨ j = 2 ∨ j = 3 := by omega
      rcases e with rfl | rfl | rfl | rfl
      · exact va_eqtl (hs (Cond.eq (.elem (.static RX6 "LEAST" "[J") (.int 0)) (.long (-128))) (by decide +kernel))
      · exact va_eqtl (hs (Cond.eq (.elem (.static RX6 "LEAST" "[J") (.int 1)) (.long (-32768))) (by decide +kernel))
      · exact va_eqtl (hs (Cond.eq (.elem (.static RX6 "LEAST" "[J") (.int 2)) (.long (-2147483648))) (by decide +kernel))
      · exact va_eqtl (hs (Cond.eq (.elem (.static RX6 "LEAST" "[J") (.int 3)) (.long (-9223372036854775808))) (by decide +kernel))) hA
    exact ⟨t, va_Zof (tb 213 _ (by decide +kernel)) (tb 1 _ (by decide +kernel)) h1 hA, h2⟩
  · intro x hx
    have h2 := hs _ (sj_strs_ex x hx)
    obtain ⟨a, _, _, _, ha, -⟩ := Cond.exactly_spec h2
    obtain ⟨z, hz, ez⟩ := List.mem_filterMap.mp hx
    have h3 := hts z hz
    cases z <;> first | (cases ez; exact ⟨a, vk_R.of h3 ha⟩) | cases ez
  · intro z hz
    obtain ⟨h1, h2⟩ := List.mem_filter.mp hz
    have h3 := hts z h1
    cases z <;> first | exact va_Nw.of rfl h3 | cases h2
  · intro C hC
    have e : C = RX1 ∨ C = RX3 ∨ C = RX4 := by
      unfold sj_AO at hC
      rcases List.mem_cons.mp hC with h | h
      · exact Or.inl h
      · rcases List.mem_cons.mp h with h | h
        · exact Or.inr (Or.inl h)
        · exact Or.inr (Or.inr (List.mem_singleton.mp h))
    rcases e with rfl | rfl | rfl
    · exact va_AO.of (tb 25 (.arrayOver (.object RX1)) (by decide +kernel))
    · exact va_AO.of (tb 27 (.arrayOver (.object RX3)) (by decide +kernel))
    · exact va_AO.of (tb 621 (.arrayOver (.object RX4)) (by decide +kernel))
  · exact va_AOA.of (tb 35 (.arrayOver (.array .int)) (by decide +kernel))
  · intro x hx
    have key : ∀ x ∈ sj_Ncs, Cond.not (.castable x.1 x.2) ∈ flatC (Jvm.Cond.and given_1 narrow_1) := by decide +kernel
    exact va_Nc.of (hs _ (key x hx))
theorem whole_start {p : Program} {e : Env} {s : State} {m : MethodId} {below : List Frame} {meth : Method} {c : Code} (l : Launch) (hflags : l.flags = flags0) {b L : Nat} {xs : Nat → Int32} (hL : L ≤ 3072) (C0 : lw_At p s m meth c b L xs) : W p l e room_1 s m #[Value.ref b] below meth c s.heap [] 0 0 (lw_Z below #[Value.ref b] s) (entryFrame m ([Value.ref b] : List Value).toArray 9) := by
  obtain ⟨hx, hb, hr, hml, hown, hts, hX, hbl, hlocks, hgv⟩ := id C0
  obtain ⟨G, hG, hK⟩ := sj_start hts hgv (by omega)
  have hst : l.stackTraces = false := by
    show (!l.flags.contains noTraceFlag) = false
    rw [hflags]
    decide +kernel
  have hC : sj_C G p l s m #[Value.ref b] c code RL 9 := ⟨hx, hb, hml, hown, fun w h => hts w (List.mem_filter.mp h).1, hK, hst⟩
  have hH : sj_H G s (fun _ => 0, fun _ => 0, fun _ _ => 0, fun _ _ => 0, fun _ _ => 0, fun _ _ => 0, fun _ _ => 0, fun _ _ => 0) s.heap [] := by
    refine ⟨⟨[], fun a => ⟨fun h => absurd rfl h, fun h => absurd h List.not_mem_nil⟩, fun k q h => ?_, ⟨fun i j p q h => ?_, fun k q h => ?_⟩⟩, va_S.rf⟩
    · simp [va_pl] at h
    · simp [va_pl] at h
    · simp [va_pl] at h
  have hl := lv_entry ([.ref b]) (n := 9) (Nat.le_of_ble_eq_true rfl)
  rw [lg_entry_eq]
  generalize (lg_sl ([.ref b]) ++ List.replicate (9 - (lg_sl ([.ref b])).length) Slot.unset).toArray = ls at hl ⊢
  have hl : lv_has ls 9 [(0, .ref b)] := hl
  exact wk_L_law hC hr hlocks hX hbl hG hH hl (law_walk hL)

/-! FACTORS: the last factor of what ends at a cut begins at the least ending -/
theorem sj_best_min {u : Bool} {n : Nat} {f : Nat → Int64} : ∀ m, m < n → ∀ k, k ≤ m → k ≠ sj_best (sj_eltB u n f) m → sj_elt u n f (sj_best (sj_eltB u n f) m) k
  | 0, _, k, hk, hne => absurd (show k = 0 by omega) hne
  | m + 1, hm, k, hk, hne => by
    have ih := sj_best_min (u := u) (n := n) (f := f) m (by omega)
    have hb := sj_best_le (sj_eltB u n f) m
    rw [sj_best_s] at hne ⊢
    by_cases c : sj_eltB u n f (m + 1) (sj_best (sj_eltB u n f) m) = true
    · rw [if_pos c] at hne ⊢
      have c' := sj_eltB_iff.mp c
      by_cases e : k = sj_best (sj_eltB u n f) m
      · rw [e]; exact c'
      · exact sj_elt_tr _ _ _ c' (ih k (by omega) e)
    · rw [if_neg c] at hne ⊢
      by_cases e : k = m + 1
      · subst e
        rcases sj_elt_tot (u := u) (f := f) (n := n) (i := sj_best (sj_eltB u n f) m) (j := m + 1) (by omega) (by omega) (by omega) with z | z
        · exact z
        · exact absurd (sj_eltB_iff.mpr z) c
      · exact ih k (by omega) hne
theorem sj_best_uniq {u : Bool} {n m q : Nat} {f : Nat → Int64} (hm : m < n) (hq : q ≤ m) (h : ∀ k, k ≤ m → k ≠ q → sj_elt u n f q k) : sj_best (sj_eltB u n f) m = q := by
  refine Classical.byContradiction fun e => ?_
  have h1 := sj_best_min (u := u) (f := f) m hm q hq (fun z => e z.symm)
  have h2 := h _ (sj_best_le _ _) e
  exact sj_elt_as h1 h2
theorem sj_elt_strip {u : Bool} {n a b d : Nat} {f : Nat → Int64} (h : sj_elt u n f a b) (hd : ∀ j, j < d → f (a + j) = f (b + j)) (ha : a + d ≤ n) (hb : b + d ≤ n) : sj_elt u n f (a + d) (b + d) := by
  obtain ⟨p, h1, h2, h3, h4⟩ := h
  have hp : d ≤ p := by
    refine Nat.le_of_not_lt fun c => ?_
    have t : sj_key u (f (a + p)) < sj_key u (f (b + p)) := h4 (by omega)
    rw [hd p c] at t
    omega
  refine ⟨p - d, by omega, by omega, fun j hj => ?_, fun z => ?_⟩
  · have t : f (a + (d + j)) = f (b + (d + j)) := h3 (d + j) (by omega)
    show f (a + d + j) = f (b + d + j)
    rw [Nat.add_assoc, Nat.add_assoc]
    exact t
  · have e : d + (p - d) = p := by omega
    show sj_key u (f (a + d + (p - d))) < sj_key u (f (b + d + (p - d)))
    rw [Nat.add_assoc, Nat.add_assoc, e]
    exact h4 (by omega)
/-- a cut: the end, or an ending that is less than all longer ones -/
def sj_cut (u : Bool) (n : Nat) (f : Nat → Int64) (p : Nat) : Prop := p = n ∨ ∀ k, k < p → sj_elt u n f p k
theorem sj_cut_min {u : Bool} {n p q : Nat} {f : Nat → Int64} (hp : p ≤ n) (hc : sj_cut u n f p) (hq : q < p) (h : ∀ k, k < p → k ≠ q → sj_elt u n f q k) : ∀ k, k < p → k ≠ q → sj_elt u p f q k := by
  intro k hk hne
  rcases sj_elt_tot (u := u) (f := f) (n := p) (i := q) (j := k) (by omega) (by omega) (by omega) with z | z
  · exact z
  · exfalso
    have hqk := h k hk hne
    obtain ⟨d, h1, h2, h3, h4⟩ := z
    by_cases c : d < p - k
    · exact sj_elt_as hqk ⟨d, by omega, by omega, h3, fun _ => h4 c⟩
    · have ed : d = p - k := by omega
      rcases hc with e | hc
      · exact sj_elt_as hqk ⟨d, by omega, by omega, h3, fun z => absurd z (by omega)⟩
      · have s := sj_elt_strip (d := d) hqk (fun j hj => (h3 j hj).symm) (by omega) (by omega)
        have e2 : k + d = p := by omega
        rw [e2] at s
        exact sj_elt_as s (hc (q + d) (by omega))
theorem sj_last_eq {u : Bool} {n p : Nat} {f : Nat → Int64} (hp : p ≤ n) (h0 : 0 < p) (hc : sj_cut u n f p) : sj_best (sj_eltB u p f) (p - 1) = sj_best (sj_eltB u n f) (p - 1) := by
  have hb := sj_best_le (sj_eltB u n f) (p - 1)
  exact sj_best_uniq (by omega) hb (fun k hk hne => sj_cut_min hp hc (by omega) (fun k hk hne => sj_best_min (p - 1) (by omega) k (by omega) hne) k (by omega) hne)
theorem sj_pm_s {u : Bool} {n m : Nat} {f : Nat → Int64} : sj_pm u n f (m + 1) = sj_eltB u n f (m + 1) (sj_best (sj_eltB u n f) m) := by
  unfold sj_pm
  rw [Nat.add_sub_cancel]
  rfl
theorem sj_pm_best {u : Bool} {n : Nat} {f : Nat → Int64} : ∀ m, sj_pm u n f (sj_best (sj_eltB u n f) m) = true ∧ sj_cnt (sj_pm u n f) (sj_best (sj_eltB u n f) m) + 1 = sj_cnt (sj_pm u n f) (m + 1)
  | 0 => ⟨rfl, rfl⟩
  | m + 1 => by
    obtain ⟨ih1, ih2⟩ := sj_pm_best (u := u) (n := n) (f := f) m
    have e := sj_pm_s (u := u) (n := n) (m := m) (f := f)
    rw [sj_best_s, sj_cnt_s (sj_pm u n f) (m + 1)]
    by_cases c : sj_eltB u n f (m + 1) (sj_best (sj_eltB u n f) m) = true
    · rw [if_pos c, if_pos (e.trans c)]
      exact ⟨e.trans c, rfl⟩
    · rw [if_neg c, if_neg (by rw [e]; exact c)]
      exact ⟨ih1, ih2⟩
theorem sj_pm_cut {u : Bool} {n x : Nat} {f : Nat → Int64} (hx : x < n) (h : sj_pm u n f x = true) : ∀ k, k < x → sj_elt u n f x k := by
  intro k hk
  obtain ⟨m, rfl⟩ : ∃ m, x = m + 1 := ⟨x - 1, by omega⟩
  rw [sj_pm_s] at h
  have h2 := sj_eltB_iff.mp h
  by_cases e : k = sj_best (sj_eltB u n f) m
  · rw [e]; exact h2
  · exact sj_elt_tr _ _ _ h2 (sj_best_min m (by omega) k (by omega) e)
theorem sj_cnt_up {p : Nat → Bool} {a : Nat} : ∀ b, a ≤ b → sj_cnt p a ≤ sj_cnt p b
  | 0, h => by
    have : a = 0 := by omega
    rw [this]
    exact Nat.le_refl _
  | b + 1, h => by
    by_cases e : a = b + 1
    · rw [e]
      exact Nat.le_refl _
    · have := sj_cnt_up (p := p) b (show a ≤ b by omega)
      rw [sj_cnt_s]
      omega
/-- the step from a cut to the one ahead of it -/
theorem sj_cut_step {u : Bool} {n x : Nat} {f : Nat → Int64} (hx : x ≤ n) (h0 : 0 < x) (hc : x = n ∨ sj_pm u n f x = true) : ∃ y, sj_best (sj_eltB u x f) (x - 1) = y ∧ y < x ∧ sj_pm u n f y = true ∧ sj_cnt (sj_pm u n f) y + 1 = sj_cnt (sj_pm u n f) x := by
  have hcut : sj_cut u n f x := by
    by_cases e : x = n
    · exact Or.inl e
    · exact Or.inr (sj_pm_cut (by omega) (hc.elim (fun z => absurd z e) id))
  obtain ⟨m, rfl⟩ : ∃ m, x = m + 1 := ⟨x - 1, by omega⟩
  have e := sj_last_eq hx h0 hcut
  rw [Nat.add_sub_cancel] at e ⊢
  obtain ⟨h1, h2⟩ := sj_pm_best (u := u) (n := n) (f := f) m
  have h3 := sj_best_le (sj_eltB u n f) m
  exact ⟨_, e, by omega, h1, h2⟩
theorem pm_lastOf {La : Nat → Nat} {σ : sj_S} {w : sj_W} (hL : sj_La La) (hM : sj_Mo La σ w) (hw : sj_wf σ) {a o : Int32} {u : Bool} {k r n : Nat} (hk : sj_kd a = some k) (ho : sj_od o = some u) (hr : r < 4) (h0 : 0 < n) (hn : n ≤ sj_n σ (k * 4 + r)) {Q : Int32 → sj_W → Prop} (h : Q (nI (sj_best (sj_eltB u n (sj_x σ (k * 4 + r))) (n - 1))) w) : vc_X7_lastOf (La 200) a o (nI r) (nI n) w Q := by
  have hk4 := sj_kd_lt hk
  have c := (hw.1 (k * 4 + r) (by omega)).1
  refine sj_lp2_run (fun v5 v6 w' => w' = w ∧ ∃ i, v6 = nI (i + 1) ∧ i + 1 ≤ n ∧ v5 = nI (sj_best (sj_eltB u n (sj_x σ (k * 4 + r))) i)) (fun _ v _ => 40 - v.toNatClampNeg) ?_ 64 _ _ _ ⟨rfl, 0, rfl, by omega, rfl⟩ (by omega)
  rintro v5 v6 w' K ⟨rfl, i, rfl, hi, rfl⟩ hK
  have hb := sj_best_le (sj_eltB u n (sj_x σ (k * 4 + r))) i
  have bs := sj_best_s (sj_eltB u n (sj_x σ (k * 4 + r))) i
  unfold vb_X7_lastOf_6
  rw [sj_leI (by omega) (by omega)]
  refine ⟨fun q => ?_, fun q => ⟨hM.1.1, pm_endings hL hM hw hk ho hr hn (by omega) (by omega) ⟨fun z => ?_, fun z => ?_⟩⟩⟩
  · have e : i = n - 1 := by omega
    subst e
    exact h
  · have e : sj_eltB u n (sj_x σ (k * 4 + r)) (i + 1) (sj_best (sj_eltB u n (sj_x σ (k * 4 + r))) i) = false := decide_eq_false fun y => y z
    refine hK _ _ _ ⟨rfl, i + 1, sj_s1 _, by omega, ?_⟩ ?_
    · rw [bs, e, if_neg (by decide)]
    · rw [sj_s1, sj_clI (by omega), sj_clI (by omega)]; omega
  · have e : sj_eltB u n (sj_x σ (k * 4 + r)) (i + 1) (sj_best (sj_eltB u n (sj_x σ (k * 4 + r))) i) = true := decide_eq_true z
    refine hK _ _ _ ⟨rfl, i + 1, sj_s1 _, by omega, ?_⟩ ?_
    · rw [bs, e, if_pos rfl]
    · rw [sj_s1, sj_clI (by omega), sj_clI (by omega)]; omega
theorem pm_words {La : Nat → Nat} {σ : sj_S} {w : sj_W} (hL : sj_La La) (hM : sj_Mo La σ w) (hw : sj_wf σ) {a o : Int32} {u : Bool} {k r : Nat} (hk : sj_kd a = some k) (ho : sj_od o = some u) (hr : r < 4) {Q : Int32 → sj_W → Prop} (h : Q (nI (sj_cnt (sj_pm u (sj_n σ (k * 4 + r)) (sj_x σ (k * 4 + r))) (sj_n σ (k * 4 + r)))) w) : vc_X7_words (La 200) a o (nI r) w Q := by
  have hk4 := sj_kd_lt hk
  have c := (hw.1 (k * 4 + r) (by omega)).1
  have cc := sj_cnt_le (sj_pm u (sj_n σ (k * 4 + r)) (sj_x σ (k * 4 + r))) (sj_n σ (k * 4 + r))
  refine ⟨hM.1.1, pm_size hL hM hk hr ?_⟩
  refine sj_lp2_run (fun v4 v5 w' => w' = w ∧ ∃ x, v5 = nI x ∧ x ≤ sj_n σ (k * 4 + r) ∧ (x = sj_n σ (k * 4 + r) ∨ sj_pm u (sj_n σ (k * 4 + r)) (sj_x σ (k * 4 + r)) x = true) ∧ v4 = nI (sj_cnt (sj_pm u (sj_n σ (k * 4 + r)) (sj_x σ (k * 4 + r))) (sj_n σ (k * 4 + r)) - sj_cnt (sj_pm u (sj_n σ (k * 4 + r)) (sj_x σ (k * 4 + r))) x)) (fun _ v _ => v.toNatClampNeg) ?_ 64 _ _ _ ⟨rfl, _, rfl, Nat.le_refl _, Or.inl rfl, by rw [Nat.sub_self]; rfl⟩ (by rw [sj_clI (by omega)]; omega)
  rintro v4 v5 w' K ⟨rfl, x, rfl, hx, hcut, rfl⟩ hK
  have cu := sj_cnt_up (p := sj_pm u (sj_n σ (k * 4 + r)) (sj_x σ (k * 4 + r))) _ hx
  unfold vb_X7_words_11
  rw [sj_lits 0, sj_leI (by omega) (by omega)]
  refine ⟨fun q => ?_, fun q => ⟨hM.1.1, ?_⟩⟩
  · have e : x = 0 := by omega
    subst e
    exact h
  · obtain ⟨y, y1, y2, y3, y4⟩ := sj_cut_step hx (by omega) hcut
    refine pm_lastOf hL hM hw hk ho hr (by omega) hx ?_
    rw [y1, sj_s1]
    refine hK _ _ _ ⟨rfl, y, rfl, by omega, Or.inr y3, ?_⟩ ?_
    · congr 1
      omega
    · rw [sj_clI (by omega), sj_clI (by omega)]; omega
theorem pm_factors {La : Nat → Nat} {σ : sj_S} {w : sj_W} (hL : sj_La La) (hM : sj_Mo La σ w) (hw : sj_wf σ) {a1 a2 a3 : Int32} {Q : Int32 → sj_W → Prop} (h : so_pM La w (ab_factors σ a1 a2 a3) Int32.toInt64 Q) : vc_X7_factors (La 200) a1 a2 a3 w Q := by
  unfold ab_factors at h
  refine ⟨hM.1.1, pm_noOrder (fun k u r hk hk4 hu hr er hr4 => ?_) (fun hk => ?_) (fun k hk hu => ?_) (fun k u hk hu hr => ?_)⟩
  · subst er
    simp only [hk, hu, hr] at h
    exact pm_ok hL hM (fun w1 hf hM1 h47 => ⟨hM1.1.1, pm_words hL hM1 hw hk hu hr4 (so_g h hf hM1 h47 rfl)⟩)
  · simp only [hk] at h
    exact pm_no hL hM 1 (by decide) (by decide) h
  · simp only [hk, hu] at h
    exact pm_no hL hM 1 (by decide) (by decide) h
  · simp only [hk, hu, hr] at h
    exact pm_no hL hM 2 (by decide) (by decide) h
theorem pm_factor {La : Nat → Nat} {σ : sj_S} {w : sj_W} (hL : sj_La La) (hM : sj_Mo La σ w) (hw : sj_wf σ) {a1 a2 a3 a4 : Int32} {Q : Int32 → sj_W → Prop} (h : so_pM La w (ab_factor σ a1 a2 a3 a4) Int32.toInt64 Q) : vc_X7_factor (La 200) a1 a2 a3 a4 w Q := by
  unfold ab_factor at h
  refine ⟨hM.1.1, pm_noOrder (fun k u r hk hk4 hu hr er hr4 => ⟨fun _ => ⟨hM.1.1, ?_⟩, fun z => absurd (by decide) z⟩) (fun hk => ⟨fun z => absurd z (by decide), fun _ => ?_⟩) (fun k hk hu => ⟨fun z => absurd z (by decide), fun _ => ?_⟩) (fun k u hk hu hr => ⟨fun z => absurd z (by decide), fun _ => ?_⟩)⟩
  · subst er
    simp only [hk, hu, hr] at h
    have hr16 : k * 4 + r < 16 := by omega
    have c := (hw.1 (k * 4 + r) hr16).1
    have cc := sj_cnt_le (sj_pm u (sj_n σ (k * 4 + r)) (sj_x σ (k * 4 + r))) (sj_n σ (k * 4 + r))
    refine pm_words hL hM hw hk hu hr4 (pm_place (by omega) (fun p hp ep hlt => ⟨fun z => absurd z (by decide), fun _ => ?_⟩) (fun hp => ⟨fun _ => ?_, fun z => absurd rfl z⟩))
    · subst ep
      simp only [hp] at h
      refine pm_ok hL hM (fun w1 hf hM1 h47 => ⟨hM1.1.1, pm_size hL hM1 hk hr4 ⟨hM1.1.1, pm_words hL hM1 hw hk hu hr4 ?_⟩⟩)
      refine sj_lp2_run (fun v6 v7 w' => w' = w1 ∧ ∃ x, v6 = nI x ∧ x ≤ sj_n σ (k * 4 + r) ∧ (x = sj_n σ (k * 4 + r) ∨ sj_pm u (sj_n σ (k * 4 + r)) (sj_x σ (k * 4 + r)) x = true) ∧ v7 = nI (sj_cnt (sj_pm u (sj_n σ (k * 4 + r)) (sj_x σ (k * 4 + r))) x) ∧ p ≤ sj_cnt (sj_pm u (sj_n σ (k * 4 + r)) (sj_x σ (k * 4 + r))) x) (fun _ v _ => v.toNatClampNeg) ?_ 64 _ _ _ ⟨rfl, _, rfl, Nat.le_refl _, Or.inl rfl, rfl, by omega⟩ (by rw [sj_clI (by omega)]; omega)
      rintro v6 v7 w' K ⟨rfl, x, rfl, hx, hcut, rfl, hpx⟩ hK
      have cu := sj_cnt_up (p := sj_pm u (sj_n σ (k * 4 + r)) (sj_x σ (k * 4 + r))) _ hx
      unfold vb_X7_factor_70
      rw [sj_leI (by omega) (by omega)]
      refine ⟨fun q => ?_, fun q => ⟨hM1.1.1, ?_⟩⟩
      · obtain ⟨f1, f2, f3⟩ := sj_fb_ok hlt
        have hxp : sj_pm u (sj_n σ (k * 4 + r)) (sj_x σ (k * 4 + r)) x = true := by
          rcases hcut with e | e
          · rw [e] at q; omega
          · exact e
        have e : sj_fb u (sj_n σ (k * 4 + r)) (sj_x σ (k * 4 + r)) p = x := by
          rcases Nat.lt_trichotomy (sj_fb u (sj_n σ (k * 4 + r)) (sj_x σ (k * 4 + r)) p) x with z | z | z
          · have := sj_cnt_lt f2 _ z; omega
          · exact z
          · have := sj_cnt_lt hxp _ z; omega
        rw [e] at h
        exact so_g h hf hM1 h47 rfl
      · have h0 : 0 < x := by
          rcases Nat.eq_zero_or_pos x with z | z
          · rw [z] at q
            exact absurd (Nat.zero_le _) q
          · exact z
        obtain ⟨y, y1, y2, y3, y4⟩ := sj_cut_step hx h0 hcut
        refine pm_lastOf hL hM1 hw hk hu hr4 h0 hx ?_
        have e1 : nI (sj_cnt (sj_pm u (sj_n σ (k * 4 + r)) (sj_x σ (k * 4 + r))) x) + (-1) = nI (sj_cnt (sj_pm u (sj_n σ (k * 4 + r)) (sj_x σ (k * 4 + r))) y) := by
          rw [← y4]
          exact (sj_m1n _).trans (sj_m1 _)
        rw [y1, e1]
        refine hK _ _ _ ⟨rfl, y, rfl, by omega, Or.inr y3, rfl, by omega⟩ ?_
        rw [sj_clI (by omega), sj_clI (by omega)]; omega
    · simp only [hp] at h
      exact pm_no hL hM 2 (by decide) (by decide) h
  · simp only [hk] at h
    exact pm_no hL hM 1 (by decide) (by decide) h
  · simp only [hk, hu] at h
    exact pm_no hL hM 1 (by decide) (by decide) h
  · simp only [hk, hu, hr] at h
    exact pm_no hL hM 2 (by decide) (by decide) h

/-! THE THEOREM OF A ROW in the component -/
theorem sj_ssI (x : Int32) (a b : Nat) : x - nI a - nI b = x - nI (a + b) := by
  rw [Int32.sub_eq_add_neg, Int32.sub_eq_add_neg, Int32.sub_eq_add_neg, ← sj_addI, Int32.neg_add, Int32.add_assoc, Int32.sub_eq_add_neg]
theorem pc_countIsTrue {La : Nat → Nat} {σ : sj_S} {w : sj_W} (hL : sj_La La) (hC : sj_Cm La σ w) (hw : sj_wf σ) {r : Nat} {u : Bool} (hr : r < 16) (hE : sj_En La σ r u w) (hO : sj_Or La σ r u w) {Q : Int32 → sj_W → Prop} (h : Q 1 w) : vc_X2_countIsTrue (La 4) w Q := by
  have en := hC.en
  have c := (hw.1 r hr).1
  have e6 := hE.1.2.1
  obtain ⟨lx, hs, hx⟩ := hO
  have four := sj_four c hs
  have hn2 : sj_n σ r * (sj_n σ r + 1) ≤ 32 * 33 := Nat.mul_le_mul c (by omega)
  refine ⟨en.1.1, en.1.1, ?_⟩
  rw [e6]
  have e0 : nI (sj_n σ r) * (nI (sj_n σ r) + 1) / 2 = nI (sj_dis (sj_n σ r) (sj_x σ r) + sj_ad (sj_ls (sj_n σ r) (sj_x σ r)) lx (sj_n σ r)) := by
    rw [sj_lits 2, sj_s1, sj_mulI, pk_div (by omega) (by omega) (by omega), ← four]
  rw [e0]
  refine sj_lp2_run (fun v1 v2 w' => w' = w ∧ ∃ p, v2 = nI (p + 1) ∧ (p + 1 ≤ sj_n σ r ∨ p = 0) ∧ v1 = nI (sj_dis (sj_n σ r) (sj_x σ r) + sj_ad (sj_ls (sj_n σ r) (sj_x σ r)) lx (sj_n σ r)) - nI (sj_ad (sj_ls (sj_n σ r) (sj_x σ r)) lx (p + 1))) (fun _ v _ => 40 - v.toNatClampNeg) ?_ 64 _ _ _ ⟨rfl, 0, rfl, Or.inr rfl, ?_⟩ (by omega)
  · rintro v1 v2 w' K ⟨rfl, p, rfl, hp, rfl⟩ hK
    unfold vb_X2_countIsTrue_16
    rw [e6, sj_leI (by omega) (by omega)]
    refine ⟨en.1.1, fun q => ⟨en.1.1, pc_countWords hL hC hw hr hE ?_⟩, fun q => ?_⟩
    · have ep : sj_ad (sj_ls (sj_n σ r) (sj_x σ r)) lx (p + 1) = sj_ad (sj_ls (sj_n σ r) (sj_x σ r)) lx (sj_n σ r) := by
        rcases hp with z | z
        · have : p + 1 = sj_n σ r := by omega
          rw [this]
        · subst z
          have e : sj_n σ r = 0 ∨ sj_n σ r = 1 := by omega
          rcases e with e | e
          · rw [e]; rfl
          · rw [e]
      rw [ep, sj_subI (Nat.le_add_left _ _), Nat.add_sub_cancel]
      exact ⟨fun z => absurd rfl z, fun _ => h⟩
    · have e1 : nI (p + 1) - 1 = nI p := sj_m1 p
      rw [e1]
      have hp1 : p + 1 < sj_n σ r := by omega
      have hp0 : p < sj_n σ r := by omega
      have x0 := hx p hp0
      have x1 := hx (p + 1) hp1
      have b0 := (hs.1 p hp0).1
      have b1 := (hs.1 (p + 1) hp1).1
      have ht := hE.2 (lx p) (lx (p + 1)) (by omega) (by omega)
      rw [en.1.2.1, en.1.2.2.2.1, sj_clI (n := p) (by omega), sj_clI (n := p + 1) (by omega), x0, x1, sj_clI (n := lx p) (by omega), en.2.2.1 _ (by omega), sj_clI (n := lx (p + 1)) (by omega), ht]
      refine ⟨en.1.1, hL.2 _, en.1.1, hL.2 _, en.2.2.2.2.2.2.2.2.2.1.1, ?_, en.2.1.1, ?_, hL.2 _, en.1.1, hL.2 _, en.2.2.2.2.2.2.2.2.2.1.1, ?_, en.2.2.2.1 _ (by omega), ?_, hK _ _ _ ⟨rfl, p + 1, sj_s1 _, by omega, ?_⟩ ?_⟩
      · rw [en.2.2.2.2.2.2.2.2.2.1.2, sj_inI (by omega)]; omega
      · rw [en.2.1.2, sj_inI (by omega)]; omega
      · rw [en.2.2.2.2.2.2.2.2.2.1.2, sj_inI (by omega)]; omega
      · rw [en.2.2.2.2.1 _ (by omega), sj_inI (by omega)]; omega
      · rw [sj_ssI]
        congr 2
      · rw [sj_s1, sj_clI (by omega), sj_clI (by omega)]; omega
  · have e : sj_ad (sj_ls (sj_n σ r) (sj_x σ r)) lx (0 + 1) = 0 := rfl
    rw [e, sj_subI (Nat.zero_le _)]
    rfl
theorem pc_greatestDivisor {w : sj_W} {p q : Nat} (h0 : 0 < q) (hqp : q < p) (hp : p ≤ 32) {Q : Int32 → sj_W → Prop} (h : Q (nI (Nat.gcd p q)) w) : vc_X2_greatestDivisor (nI p) (nI q) w Q := by
  unfold vc_X2_greatestDivisor
  rw [if_pos (show nI q < nI p by rw [sj_ltI (by omega) (by omega)]; exact hqp)]
  have hg0 : 0 < Nat.gcd p q := Nat.gcd_pos_of_pos_right p h0
  refine sj_lp1_run (fun v w' => w' = w ∧ ∃ i, v = nI i ∧ Nat.gcd p q ≤ i ∧ i ≤ 32) (fun v _ => v.toNatClampNeg) ?_ 64 _ _ ⟨rfl, q, rfl, Nat.le_of_dvd h0 (Nat.gcd_dvd_right p q), by omega⟩ (by rw [sj_clI (by omega)]; omega)
  rintro v w' K ⟨rfl, i, rfl, h1, h2⟩ hK
  unfold vb_X2_greatestDivisor_6
  rw [sj_lits 1, sj_leI (by omega) (by omega)]
  have nx : i ≠ Nat.gcd p q → 1 < i → K (nI i + -nI 1) w' := by
    intro z hi
    obtain ⟨m, rfl⟩ : ∃ m, i = m + 1 := ⟨i - 1, by omega⟩
    rw [sj_m1n, sj_m1]
    refine hK _ _ ⟨rfl, m, rfl, by omega, by omega⟩ ?_
    rw [sj_clI (by omega), sj_clI (by omega)]; omega
  refine ⟨fun q1 => ?_, fun q1 => ?_⟩
  · have e : Nat.gcd p q = 1 := by omega
    rw [e] at h
    exact h
  · have i0 : ¬ nI i = 0 := by
      rw [sj_lits 0, sj_eqI (by omega) (by omega)]
      omega
    have m1 : p % i < i := Nat.mod_lt _ (by omega)
    have m2 : q % i < i := Nat.mod_lt _ (by omega)
    rw [pk_rem (by omega) (by omega) (by omega), pk_rem (by omega) (by omega) (by omega), sj_lits 0, sj_eqI (a := p % i) (by omega) (by omega), sj_eqI (a := q % i) (by omega) (by omega)]
    refine ⟨i0, fun z => nx (fun e => z ?_) (by omega), fun z => ⟨i0, fun z2 => nx (fun e => z2 ?_) (by omega), fun z2 => ?_⟩⟩
    · rw [e]; exact Nat.mod_eq_zero_of_dvd (Nat.gcd_dvd_left p q)
    · rw [e]; exact Nat.mod_eq_zero_of_dvd (Nat.gcd_dvd_right p q)
    · have hd : i ∣ Nat.gcd p q := Nat.dvd_gcd (Nat.dvd_of_mod_eq_zero z) (Nat.dvd_of_mod_eq_zero z2)
      have e : i = Nat.gcd p q := Nat.le_antisymm (Nat.le_of_dvd hg0 hd) h1
      rw [← e] at h
      exact h
theorem pc_divisorIsTrue {La : Nat → Nat} {σ : sj_S} {w : sj_W} (hL : sj_La La) (hC : sj_Cm La σ w) (hw : sj_wf σ) {r p q : Nat} (hr : r < 16) (h0 : 0 < q) (hqp : q < p) (hpn : p ≤ sj_n σ r) (h1 : sj_per (sj_n σ r) (sj_x σ r) p = true) (h2 : sj_per (sj_n σ r) (sj_x σ r) q = true) {Q : Int32 → sj_W → Prop} (h : Q 1 w) : vc_X2_divisorIsTrue (La (100 + r)) (nI p) (nI q) w Q := by
  have c := (hw.1 r hr).1
  have a := hC.all
  have gq : Nat.gcd p q ≤ q := Nat.le_of_dvd h0 (Nat.gcd_dvd_right p q)
  refine pc_greatestDivisor h0 hqp (by omega) ?_
  rw [sj_addI, sj_subI (by omega), a.2.2.2.2.2.2.2.2.2.1 r hr, sj_ltI (by omega) (by omega)]
  refine ⟨a.2.2.2.2.1 r hr, fun _ => h, fun z => ⟨a.2.2.2.2.1 r hr, pc_hasPeriod hL hC hw hr (by omega) (fun _ => ⟨fun y => absurd y (by decide), fun _ => h⟩) (fun y => ?_)⟩⟩
  have := sj_fw (p + q) (sj_n σ r) p q (Nat.le_refl _) h0 (by omega) (by omega) h1 h2
  rw [this] at y
  cases y
theorem pc_periodsAreTrue {La : Nat → Nat} {σ : sj_S} {w : sj_W} (hL : sj_La La) (hC : sj_Cm La σ w) (hw : sj_wf σ) {r : Nat} {u : Bool} (hr : r < 16) (hE : sj_En La σ r u w) {Q : Int32 → sj_W → Prop} (h : Q 1 w) : vc_X2_periodsAreTrue (La (100 + r)) (La 4) w Q := by
  have c := (hw.1 r hr).1
  have a := hC.all
  have en := hC.en
  refine ⟨a.2.2.2.2.1 r hr, ?_⟩
  rw [a.2.2.2.2.2.2.2.2.2.1 r hr]
  refine sj_lp1_run (fun v w' => w' = w ∧ ∃ p, v = nI p ∧ 1 ≤ p ∧ p ≤ sj_n σ r + 1) (fun v _ => 40 - v.toNatClampNeg) ?_ 64 _ _ ⟨rfl, 1, rfl, by omega, by omega⟩ (by omega)
  rintro v w' K ⟨rfl, p, rfl, hp1, hp2⟩ hK
  unfold vb_X2_periodsAreTrue_7
  rw [sj_ltI (by omega) (by omega)]
  refine ⟨fun _ => h, fun qp => ⟨en.1.1, ?_⟩⟩
  rw [sj_subI (by omega)]
  have hs := sj_per_same (u := u) (f := sj_x σ r) (show p ≤ sj_n σ r by omega)
  refine pc_compareParts (i := 0) hL hC hw hr hE (Nat.zero_le _) (by omega) (by omega) (Nat.le_refl _) ?_
  rw [Nat.sub_zero]
  refine sj_jn1_i (fun y w'' => w'' = w' ∧ y = sj_b (sj_per (sj_n σ r) (sj_x σ r) p)) (fun E hE => ⟨fun z => hE _ _ ⟨rfl, ?_⟩, fun z => hE _ _ ⟨rfl, ?_⟩⟩) ?_
  · have e : sj_per (sj_n σ r) (sj_x σ r) p = false := Bool.eq_false_iff.mpr fun y => z (hs.mpr y)
    rw [e]
    rfl
  · rw [hs.mp z]
    rfl
  rintro y w'' ⟨rfl, rfl⟩
  have nxt : K (nI p + 1) w'' := by
    refine hK _ _ ⟨rfl, p + 1, sj_s1 _, by omega, by omega⟩ ?_
    rw [sj_s1, sj_clI (by omega), sj_clI (by omega)]; omega
  have inner : sj_lp1 (vb_X2_periodsAreTrue_47 (La (100 + r)) (La 4) (nI (sj_n σ r)) (nI p) (sj_b (sj_per (sj_n σ r) (sj_x σ r) p)) Q (fun w_47 => K (nI p + 1) w_47)) 64 1 w'' := by
    refine sj_lp1_run (fun v w' => w' = w'' ∧ ∃ q, v = nI q ∧ 1 ≤ q ∧ q ≤ p) (fun v _ => 40 - v.toNatClampNeg) ?_ 64 _ _ ⟨rfl, 1, rfl, by omega, by omega⟩ (by omega)
    rintro v w' K2 ⟨rfl, q, rfl, hq1, hq2⟩ hK2
    unfold vb_X2_periodsAreTrue_47
    rw [sj_leI (by omega) (by omega), sj_b_0]
    have nx2 : q < p → K2 (nI q + 1) w' := by
      intro z
      refine hK2 _ _ ⟨rfl, q + 1, sj_s1 _, by omega, by omega⟩ ?_
      rw [sj_s1, sj_clI (by omega), sj_clI (by omega)]; omega
    refine ⟨fun _ => nxt, fun z => ⟨fun _ => nxt, fun z2 => ⟨a.2.2.2.2.1 r hr, pc_hasPeriod hL hC hw hr (by omega) (fun z3 => ⟨fun t => absurd t (by decide), fun _ => ?_⟩) (fun z3 => ⟨fun _ => nx2 (by omega), fun t => absurd rfl t⟩)⟩⟩⟩
    exact pc_divisorIsTrue hL hC hw hr (by omega) (by omega) (by omega) (by cases t : sj_per (sj_n σ r) (sj_x σ r) p with | true => rfl | false => exact absurd t z2) z3 ⟨fun _ => nx2 (by omega), fun t => absurd t (by decide)⟩
  refine ⟨a.2.2.2.2.1 r hr, pc_hasPeriod hL hC hw hr (by omega) (fun z => ⟨fun _ => inner, fun t => absurd ?_ t⟩) (fun z => ⟨fun _ => inner, fun t => absurd ?_ t⟩)⟩
  · rw [z]; rfl
  · rw [z]; rfl
/-! the factors -/
theorem sj_Sp.at {La : Nat → Nat} {σ : sj_S} {r j : Nat} {u : Bool} {w : sj_W} (h : sj_Sp La σ r u w) (hj : j < sj_cnt (sj_pm u (sj_n σ r) (sj_x σ r)) (sj_n σ r)) : sj_i w (La 8) j = nI (sj_fb u (sj_n σ r) (sj_x σ r) j) := by
  obtain ⟨b1, b2, b3⟩ := sj_fb_ok hj
  have := h.2 _ b1 b2
  rw [b3] at this
  exact this
theorem pc_factorEnd {La : Nat → Nat} {σ : sj_S} {w : sj_W} (hL : sj_La La) (hC : sj_Cm La σ w) (hw : sj_wf σ) {r j : Nat} {u : Bool} (hr : r < 16) (hE : sj_En La σ r u w) (hS : sj_Sp La σ r u w) (hj : j < sj_cnt (sj_pm u (sj_n σ r) (sj_x σ r)) (sj_n σ r)) {Q : Int32 → sj_W → Prop} (h : Q (nI (sj_fe u (sj_n σ r) (sj_x σ r) j)) w) : vc_X0_factorEnd (La 4) (nI j) w Q := by
  have en := hC.en
  have c := (hw.1 r hr).1
  have e6 := hE.1.2.1
  have cc := sj_cnt_le (sj_pm u (sj_n σ r) (sj_x σ r)) (sj_n σ r)
  unfold sj_fe at h
  unfold vc_X0_factorEnd
  rw [hS.1, sj_s1, sj_leI (by omega) (by omega), en.1.2.2.2.2]
  refine ⟨en.1.1, fun q => ⟨en.1.1, ?_⟩, fun q => ⟨en.1.1, hL.2 _, en.2.2.2.2.2.2.2.2.2.2.1, ?_, ?_⟩⟩
  · rw [if_neg (by omega)] at h
    rw [e6]
    exact h
  · rw [en.2.2.2.2.2.2.2.2.2.2.2, sj_inI (by omega)]; omega
  · rw [if_pos (by omega)] at h
    rw [sj_clI (by omega), hS.at (by omega)]
    exact h
theorem pc_isLyndon {La : Nat → Nat} {σ : sj_S} {w : sj_W} (hL : sj_La La) (hC : sj_Cm La σ w) (hw : sj_wf σ) {r a b : Nat} {u : Bool} (hr : r < 16) (hE : sj_En La σ r u w) (hab : a < b) (hb : b ≤ sj_n σ r) {Q : Int32 → sj_W → Prop} (h : sj_lyn u (sj_x σ r) a b → Q 1 w) (h0 : ¬ sj_lyn u (sj_x σ r) a b → Q 0 w) : vc_X0_isLyndon (La 4) (nI a) (nI b) w Q := by
  have en := hC.en
  have c := (hw.1 r hr).1
  unfold vc_X0_isLyndon
  rw [sj_s1]
  refine sj_lp1_run (fun v w' => w' = w ∧ ∃ i, v = nI i ∧ a < i ∧ i ≤ b ∧ ∀ l, a < l → l < i → sj_elt u b (sj_x σ r) a l) (fun v _ => 40 - v.toNatClampNeg) ?_ 64 _ _ ⟨rfl, a + 1, rfl, by omega, by omega, fun l h1 h2 => absurd h1 (by omega)⟩ (by omega)
  rintro v w' K ⟨rfl, i, rfl, hi1, hi2, hl⟩ hK
  unfold vb_X0_isLyndon_4
  rw [sj_leI (by omega) (by omega)]
  refine ⟨fun q => ?_, fun q => ⟨en.1.1, pc_compareParts hL hC hw hr hE (by omega) hb (by omega) hb ⟨fun z => hK _ _ ⟨rfl, i + 1, sj_s1 _, by omega, by omega, fun l h1 h2 => ?_⟩ ?_, fun z => h0 (fun y => ?_)⟩⟩⟩
  · rw [sj_leI (by omega) (by omega)]
    exact ⟨fun z => absurd z (by omega), fun _ => h ⟨hab, fun l h1 h2 => hl l h1 (by omega)⟩⟩
  · by_cases e : l = i
    · rw [e]
      exact sj_wcL.mp (Int32.not_le.mpr z)
    · exact hl l h1 (by omega)
  · rw [sj_s1, sj_clI (by omega), sj_clI (by omega)]; omega
  · exact z (Int32.not_le.mp (sj_wcL.mpr (y.2 i hi1 (by omega))))
abbrev sj_ge2 (u : Bool) (f : Nat → Int64) (a b c : Nat) : Prop := ¬ sj_wlt u (b - a) (sj_sf f a) (c - b) (sj_sf f b)
theorem pc_waysBehind {La : Nat → Nat} {σ : sj_S} {w : sj_W} (hL : sj_La La) (hC : sj_Cm La σ w) (hw : sj_wf σ) {r a b : Nat} {u : Bool} (hr : r < 16) (hE : sj_En La σ r u w) (hab : a < b) (hb : b ≤ sj_n σ r) (hT : ∀ t, b < t → t ≤ sj_n σ r → sj_i w (La (50 + b)) t = nI (if t = sj_nx u (sj_n σ r) (sj_x σ r) b then 1 else 0)) {Q : Int32 → sj_W → Prop}
    (h : b = sj_n σ r ∨ sj_ge2 u (sj_x σ r) a b (sj_nx u (sj_n σ r) (sj_x σ r) b) → Q 1 w) (h0 : ¬ (b = sj_n σ r ∨ sj_ge2 u (sj_x σ r) a b (sj_nx u (sj_n σ r) (sj_x σ r) b)) → Q 0 w) : vc_X0_waysBehind (La 4) (nI a) (nI b) w Q := by
  have en := hC.en
  have c := (hw.1 r hr).1
  have e6 := hE.1.2.1
  unfold vc_X0_waysBehind
  rw [e6, sj_eqI (by omega) (by omega), sj_s1]
  refine ⟨en.1.1, fun q => ?_, fun q => h (Or.inl q)⟩
  obtain ⟨n1, n2, n3, n4⟩ := sj_nx_spec (u := u) (f := sj_x σ r) (show b < sj_n σ r by omega)
  have fin : ∀ v, (sj_ge2 u (sj_x σ r) a b (sj_nx u (sj_n σ r) (sj_x σ r) b) → v = nI 1) → (¬ sj_ge2 u (sj_x σ r) a b (sj_nx u (sj_n σ r) (sj_x σ r) b) → v = nI 0) → Q v w := by
    intro v y1 y0
    by_cases z : sj_ge2 u (sj_x σ r) a b (sj_nx u (sj_n σ r) (sj_x σ r) b)
    · rw [y1 z]
      exact h (Or.inr z)
    · rw [y0 z]
      exact h0 (fun t => t.elim q z)
  refine sj_lp2_run (fun v3 v4 w' => w' = w ∧ ∃ t, v4 = nI t ∧ b < t ∧ t ≤ sj_n σ r + 1 ∧ (sj_ge2 u (sj_x σ r) a b (sj_nx u (sj_n σ r) (sj_x σ r) b) → v3 = nI (if sj_nx u (sj_n σ r) (sj_x σ r) b < t then 1 else 0)) ∧ (¬ sj_ge2 u (sj_x σ r) a b (sj_nx u (sj_n σ r) (sj_x σ r) b) → v3 = nI 0)) (fun _ v _ => 40 - v.toNatClampNeg) ?_ 64 _ _ _ ⟨rfl, b + 1, rfl, by omega, by omega, fun _ => by rw [if_neg (by omega)]; rfl, fun _ => rfl⟩ (by omega)
  rintro v3 v4 w' K ⟨rfl, t, rfl, ht1, ht2, y1, y0⟩ hK
  unfold vb_X0_waysBehind_17
  rw [e6, sj_ltI (by omega) (by omega), en.1.2.2.1]
  refine ⟨en.1.1, fun z => fin _ (fun y => ?_) y0, fun z => ?_⟩
  · rw [y1 y, if_pos (by omega)]
  · have tv := hT t ht1 (by omega)
    rw [sj_clI (n := b) (by omega), en.2.2.2.2.2.2.1 b (by omega), sj_clI (n := t) (by omega), tv]
    have s33 := en.2.2.2.2.2.2.2.2.1 b (by omega)
    refine ⟨en.1.1, hL.2 _, en.2.2.2.2.2.1.1, ?_, hL.2 _, en.2.2.2.2.2.2.2.1 b (by omega), ?_, ?_⟩
    · rw [en.2.2.2.2.2.1.2, sj_inI (by omega)]; omega
    · rw [s33, sj_inI (by omega)]; omega
    have nx : ∀ v, (sj_ge2 u (sj_x σ r) a b (sj_nx u (sj_n σ r) (sj_x σ r) b) → v = nI (if sj_nx u (sj_n σ r) (sj_x σ r) b < t + 1 then 1 else 0)) → (¬ sj_ge2 u (sj_x σ r) a b (sj_nx u (sj_n σ r) (sj_x σ r) b) → v = nI 0) → K v (nI t + 1) w' := by
      intro v z1 z0
      refine hK _ _ _ ⟨rfl, t + 1, sj_s1 _, by omega, by omega, z1, z0⟩ ?_
      rw [sj_s1, sj_clI (by omega), sj_clI (by omega)]; omega
    by_cases e : t = sj_nx u (sj_n σ r) (sj_x σ r) b
    · rw [if_pos e]
      refine ⟨fun y => absurd y (by decide), fun _ => ⟨en.1.1, pc_compareParts hL hC hw hr hE (by omega) hb (by omega) (by omega) ⟨fun y => ?_, fun y => ?_⟩⟩⟩
      · have ng : ¬ sj_ge2 u (sj_x σ r) a b (sj_nx u (sj_n σ r) (sj_x σ r) b) := fun g => g (by rw [← e]; exact sj_wcL.mp (Int32.not_le.mpr y))
        exact nx _ (fun g => absurd g ng) (fun _ => y0 ng)
      · have g : sj_ge2 u (sj_x σ r) a b (sj_nx u (sj_n σ r) (sj_x σ r) b) := fun g => y (Int32.not_le.mp (sj_wcL.mpr (by rw [← e] at g; exact g)))
        rw [en.1.2.2.1, en.2.2.2.2.2.2.1 b (by omega), tv, if_pos e]
        refine ⟨en.1.1, hL.2 _, en.2.2.2.2.2.1.1, ?_, hL.2 _, en.2.2.2.2.2.2.2.1 b (by omega), ?_, nx _ (fun _ => ?_) (fun ng => absurd g ng)⟩
        · rw [en.2.2.2.2.2.1.2, sj_inI (by omega)]; omega
        · rw [s33, sj_inI (by omega)]; omega
        · rw [y1 g, if_neg (by omega), if_pos (by omega)]
          rfl
    · rw [if_neg e]
      refine ⟨fun _ => nx _ (fun g => ?_) y0, fun y => absurd rfl y⟩
      rw [y1 g]
      congr 1
      by_cases z2 : sj_nx u (sj_n σ r) (sj_x σ r) b < t
      · rw [if_pos z2, if_pos (by omega)]
      · rw [if_neg z2, if_neg (by omega)]
def sj_XW (La : Nat → Nat) : Nat → Prop := fun a => ∃ i, i < 33 ∧ a = La (50 + i)
theorem sj_XW.x {La : Nat → Nat} {w w' : sj_W} (h : sj_fr (sj_XW La) w w') : sj_fr (so_XC La) w w' := h.mono fun a ⟨i, hi, e⟩ => ⟨50 + i, Or.inl (by omega), e⟩
theorem pc_countWays {La : Nat → Nat} {σ : sj_S} {w : sj_W} (hL : sj_La La) (hC : sj_Cm La σ w) (hw : sj_wf σ) {r : Nat} {u : Bool} (hr : r < 16) (hE : sj_En La σ r u w) {Q : Int32 → sj_W → Prop} (h : ∀ w', sj_fr (sj_XW La) w w' → sj_Cm La σ w' → Q 1 w') : vc_X0_countWays (La 4) w Q := by
  have c := (hw.1 r hr).1
  have ok : ∀ w', sj_fr (sj_XW La) w w' → sj_Cm La σ w' ∧ sj_En La σ r u w' := fun w' hf => ⟨hC.fr hf (fun i _ ⟨j, hj, e⟩ => by have := hL.1 _ _ e; omega), hE.fr hw hr hC hf (fun i hi ⟨j, hj, e⟩ => by have := hL.1 _ _ e; omega)⟩
  have en0 := hC.en
  unfold vc_X0_countWays
  rw [hE.1.2.1, sj_lits 0, sj_eqI (by omega) (by omega)]
  refine ⟨en0.1.1, fun q => ⟨en0.1.1, ?_⟩, fun q => h w sj_fr.rf hC⟩
  refine sj_lp1_run (fun v w' => ∃ i, v = nI i - nI 1 ∧ i ≤ sj_n σ r ∧ sj_fr (sj_XW La) w w' ∧ ∀ a, i ≤ a → a < sj_n σ r → ∀ t, a < t → t ≤ sj_n σ r → sj_i w' (La (50 + a)) t = nI (if t = sj_nx u (sj_n σ r) (sj_x σ r) a then 1 else 0)) (fun v _ => (v + 1).toNatClampNeg) ?_ 64 _ _ ⟨sj_n σ r, rfl, Nat.le_refl _, sj_fr.rf, fun a h1 h2 => absurd h1 (by omega)⟩ ?_
  · rintro v w1 K ⟨i, rfl, hi, hf1, hT1⟩ hK
    obtain ⟨hC1, hE1⟩ := ok w1 hf1
    have en1 := hC1.en
    unfold vb_X0_countWays_16
    rw [sj_lits 0, sj_m1z (by omega)]
    refine ⟨fun z => ?_, fun z => ?_⟩
    · subst z
      refine sj_lp2_run (fun v1 v2 w' => w' = w1 ∧ ∃ t, v2 = nI t ∧ 1 ≤ t ∧ t ≤ sj_n σ r + 1 ∧ v1 = nI (if sj_nx u (sj_n σ r) (sj_x σ r) 0 < t then 1 else 0)) (fun _ v _ => 40 - v.toNatClampNeg) ?_ 64 _ _ _ ⟨rfl, 1, rfl, by omega, by omega, ?_⟩ (by omega)
      · rintro v1 v2 w' K2 ⟨rfl, t, rfl, ht1, ht2, rfl⟩ hK2
        obtain ⟨n1, n2, n3, n4⟩ := sj_nx_spec (u := u) (f := sj_x σ r) (show 0 < sj_n σ r by omega)
        unfold vb_X0_countWays_75
        rw [hE1.1.2.1, sj_ltI (by omega) (by omega), en1.1.2.2.1]
        refine ⟨en1.1.1, fun z => ?_, fun z => ?_⟩
        · rw [if_pos (by omega)]
          exact h w' hf1 hC1
        · have z0 : (0 : Int32).toNatClampNeg = 0 := by decide
          rw [z0, en1.2.2.2.2.2.2.1 0 (by omega), sj_clI (n := t) (by omega), hT1 0 (by omega) (by omega) t (by omega) (by omega)]
          refine ⟨en1.1.1, hL.2 _, en1.2.2.2.2.2.1.1, ?_, hL.2 _, en1.2.2.2.2.2.2.2.1 0 (by omega), ?_, hK2 _ _ _ ⟨rfl, t + 1, sj_s1 _, by omega, by omega, ?_⟩ ?_⟩
          · rw [en1.2.2.2.2.2.1.2, sj_lits 0, sj_inI (by omega)]; omega
          · rw [en1.2.2.2.2.2.2.2.2.1 0 (by omega), sj_inI (by omega)]; omega
          · rw [sj_addI]
            congr 1
            by_cases e : t = sj_nx u (sj_n σ r) (sj_x σ r) 0
            · rw [if_pos e, if_neg (by omega), if_pos (by omega)]
            · rw [if_neg e, Nat.add_zero]
              by_cases z2 : sj_nx u (sj_n σ r) (sj_x σ r) 0 < t
              · rw [if_pos z2, if_pos (by omega)]
              · rw [if_neg z2, if_neg (by omega)]
          · rw [sj_s1, sj_clI (by omega), sj_clI (by omega)]; omega
      · obtain ⟨n1, n2, n3, n4⟩ := sj_nx_spec (u := u) (f := sj_x σ r) (show 0 < sj_n σ r by omega)
        rw [if_neg (by omega)]
    · obtain ⟨m, rfl⟩ : ∃ m, i = m + 1 := ⟨i - 1, by omega⟩
      rw [sj_m1, sj_s1]
      have hm : m < sj_n σ r := by omega
      refine sj_lp1_run (fun v w' => ∃ b, v = nI b ∧ m < b ∧ b ≤ sj_n σ r + 1 ∧ sj_fr (sj_XW La) w w' ∧ (∀ a, m + 1 ≤ a → a < sj_n σ r → ∀ t, a < t → t ≤ sj_n σ r → sj_i w' (La (50 + a)) t = nI (if t = sj_nx u (sj_n σ r) (sj_x σ r) a then 1 else 0)) ∧ ∀ t, m < t → t < b → sj_i w' (La (50 + m)) t = nI (if t = sj_nx u (sj_n σ r) (sj_x σ r) m then 1 else 0)) (fun v _ => 40 - v.toNatClampNeg) ?_ 64 _ _ ⟨m + 1, rfl, by omega, by omega, hf1, hT1, fun t h1 h2 => absurd h1 (by omega)⟩ (by omega)
      rintro v w2 K2 ⟨b, rfl, hb1, hb2, hf2, hT2, hR2⟩ hK2
      obtain ⟨hC2, hE2⟩ := ok w2 hf2
      have en2 := hC2.en
      unfold vb_X0_countWays_24
      rw [hE2.1.2.1, sj_ltI (by omega) (by omega), en2.1.2.2.1, sj_clI (n := m) (by omega), en2.2.2.2.2.2.2.1 m (by omega), sj_clI (n := b) (by omega)]
      refine ⟨en2.1.1, fun z => ?_, fun z => ?_⟩
      · have e1 : nI m + -1 = nI m - nI 1 := sj_m1n m
        rw [e1]
        refine hK _ _ ⟨m, rfl, by omega, hf2, fun a h1 h2 t h3 h4 => ?_⟩ ?_
        · by_cases e : a = m
          · subst e
            exact hR2 t h3 (by omega)
          · exact hT2 a (by omega) h2 t h3 h4
        · have e2 : nI m - nI 1 + 1 = nI m := by rw [sj_lits 1]; exact Int32.sub_add_cancel _ _
          have e3 : nI (m + 1) - nI 1 + 1 = nI (m + 1) := by rw [sj_lits 1]; exact Int32.sub_add_cancel _ _
          rw [e2, e3, sj_clI (by omega), sj_clI (by omega)]
          omega
      · have hbn : b ≤ sj_n σ r := by omega
        have put : ∀ v, (b = sj_nx u (sj_n σ r) (sj_x σ r) m → v = nI 1) → (¬ b = sj_nx u (sj_n σ r) (sj_x σ r) m → v = nI 0) → K2 (nI b + 1) (sj_si w2 (La (50 + m)) b v) := by
          intro v y1 y0
          have rd : ∀ a t, sj_i (sj_si w2 (La (50 + m)) b v) (La (50 + a)) t = if a = m ∧ t = b then v else sj_i w2 (La (50 + a)) t := by
            intro a t
            show (if La (50 + a) = La (50 + m) ∧ t = b then v else sj_i w2 (La (50 + a)) t) = _
            by_cases e : a = m ∧ t = b
            · rw [if_pos e, if_pos ⟨by rw [e.1], e.2⟩]
            · rw [if_neg e, if_neg (fun z => e ⟨by have := hL.1 _ _ z.1; omega, z.2⟩)]
          refine hK2 _ _ ⟨b + 1, sj_s1 _, by omega, by omega, hf2.i (Or.inl ⟨m, by omega, rfl⟩), fun a h1 h2 t h3 h4 => ?_, fun t h1 h2 => ?_⟩ ?_
          · rw [rd, if_neg (by omega)]
            exact hT2 a h1 h2 t h3 h4
          · rw [rd]
            by_cases e : t = b
            · rw [if_pos ⟨rfl, e⟩, e]
              by_cases e2 : b = sj_nx u (sj_n σ r) (sj_x σ r) m
              · rw [if_pos e2]; exact y1 e2
              · rw [if_neg e2]; exact y0 e2
            · rw [if_neg (fun z => e z.2)]
              exact hR2 t h1 (by omega)
          · rw [sj_s1, sj_clI (by omega), sj_clI (by omega)]; omega
        have s7 := en2.2.2.2.2.2.2.2.1 m (by omega)
        have s33 : vp_in (nI b) (sj_N w2 (La (50 + m))) := by
          rw [en2.2.2.2.2.2.2.2.2.1 m (by omega), sj_inI (by omega)]
          omega
        refine ⟨en2.1.1, hL.2 _, en2.2.2.2.2.2.1.1, ?_, hL.2 _, en2.1.1, pc_isLyndon hL hC2 hw hr hE2 hb1 hbn (fun y => ⟨fun t => absurd t (by decide), fun _ => ⟨en2.1.1, ?_⟩⟩) (fun y => ⟨fun _ => ⟨s7, s33, fun w3 e3 => ?_⟩, fun t => absurd rfl t⟩)⟩
        · rw [en2.2.2.2.2.2.1.2, sj_inI (by omega)]; omega
        · refine pc_waysBehind hL hC2 hw hr hE2 hb1 hbn (fun t h1 h2 => hT2 b (by omega) (by omega) t h1 h2) (fun g => ⟨s7, s33, fun w3 e3 => ?_⟩) (fun g => ⟨s7, s33, fun w3 e3 => ?_⟩)
          · rw [e3]
            exact put _ (fun _ => rfl) (fun ne => absurd (sj_ways_r y hbn g) ne)
          · rw [e3]
            refine put _ (fun e => absurd ?_ g) (fun _ => rfl)
            by_cases e2 : b = sj_n σ r
            · exact Or.inl e2
            · have t := sj_ways_g (u := u) (f := sj_x σ r) hm (by omega)
              rw [← e] at t
              exact Or.inr t
        · rw [e3]
          exact put _ (fun e => absurd (by rw [e]; exact sj_ways_l hm) y) (fun _ => rfl)
  · have e2 : nI (sj_n σ r) - 1 + 1 = nI (sj_n σ r) := Int32.sub_add_cancel _ _
    rw [e2, sj_clI (by omega)]
    omega
theorem pc_factorsAreTrue {La : Nat → Nat} {σ : sj_S} {w : sj_W} (hL : sj_La La) (hC : sj_Cm La σ w) (hw : sj_wf σ) {r : Nat} {u : Bool} (hr : r < 16) (hE : sj_En La σ r u w) (hO : sj_Or La σ r u w) (hS : sj_Sp La σ r u w) {Q : Int32 → sj_W → Prop} (h : ∀ w', sj_fr (sj_XW La) w w' → sj_Cm La σ w' → Q 1 w') : vc_X2_factorsAreTrue (La 4) w Q := by
  have c := (hw.1 r hr).1
  have en := hC.en
  have cc := sj_cnt_le (sj_pm u (sj_n σ r) (sj_x σ r)) (sj_n σ r)
  obtain ⟨lx, hs, hx⟩ := hO
  have fin : vc_X0_countWays (La 4) w (fun r34 w35 => ((¬ r34 = 1 → Q 0 w35) ∧ (r34 = 1 → Q 1 w35))) := pc_countWays hL hC hw hr hE (fun w' f' c' => ⟨fun z => absurd rfl z, fun _ => h w' f' c'⟩)
  unfold vc_X2_factorsAreTrue
  rw [hS.1]
  generalize hcn : sj_cnt (sj_pm u (sj_n σ r) (sj_x σ r)) (sj_n σ r) = cn at cc
  refine ⟨en.1.1, ?_⟩
  refine sj_lp1_run (fun v w' => w' = w ∧ ∃ j, v = nI j ∧ j ≤ cn) (fun v _ => 40 - v.toNatClampNeg) ?_ 64 _ _ ⟨rfl, 0, rfl, Nat.zero_le _⟩ (by omega)
  rintro v w' K ⟨rfl, j, rfl, hj⟩ hK
  unfold vb_X2_factorsAreTrue_9
  have lt1 : (nI cn - 1 < nI j) = (cn ≤ j) := by
    cases cn with
    | zero =>
      refine propext ⟨fun _ => Nat.zero_le _, fun _ => ?_⟩
      have e : j = 0 := by omega
      subst e
      decide
    | succ cn =>
      have e : nI (cn + 1) - 1 = nI cn := sj_m1 cn
      rw [e, sj_ltI (by omega) (by omega)]
      exact propext ⟨fun z => by omega, fun z => by omega⟩
  rw [lt1]
  refine ⟨fun q => ?_, fun q => ?_⟩
  · have e : j = cn := by omega
    subst e
    refine sj_jn1_i (fun y w'' => w'' = w' ∧ y = nI 1) (fun E hE2 => ⟨fun _ => hE2 _ _ ⟨rfl, rfl⟩, fun z => ?_⟩) ?_
    · cases j with
      | zero => exact absurd (by decide) z
      | succ cn =>
        have e : nI (cn + 1) - 1 = nI cn := sj_m1 cn
        have n0 : 0 < sj_n σ r := by omega
        have sl := sj_seg_last n0 hs
        rw [hcn, Nat.add_sub_cancel] at sl
        have z0 : (0 : Int32).toNatClampNeg = 0 := by decide
        rw [e, en.1.2.2.2.2, en.1.2.2.2.1, sj_clI (n := cn) (by omega), hS.at (by rw [hcn]; omega), sl, z0, hx 0 n0]
        refine ⟨en.1.1, hL.2 _, en.2.2.2.2.2.2.2.2.2.2.1, ?_, en.1.1, hL.2 _, en.2.2.2.2.2.2.2.2.2.1.1, ?_, fun t => absurd rfl t, fun _ => hE2 _ _ ⟨rfl, rfl⟩⟩
        · rw [en.2.2.2.2.2.2.2.2.2.2.2, sj_inI (by omega)]; omega
        · rw [en.2.2.2.2.2.2.2.2.2.1.2, sj_lits 0, sj_inI (by omega)]; omega
    · rintro y w'' ⟨rfl, rfl⟩
      exact ⟨fun t => absurd t (by decide), fun _ => ⟨en.1.1, fin⟩⟩
  · have hjc : j < sj_cnt (sj_pm u (sj_n σ r) (sj_x σ r)) (sj_n σ r) := by omega
    obtain ⟨s1, s2, s3, s4⟩ := sj_seg hjc
    have nxt : K (nI j + 1) w' := by
      refine hK _ _ ⟨rfl, j + 1, sj_s1 _, by omega⟩ ?_
      rw [sj_s1, sj_clI (by omega), sj_clI (by omega)]; omega
    rw [en.1.2.2.2.2, sj_clI (n := j) (by omega), hS.at hjc, sj_s1]
    refine ⟨en.1.1, hL.2 _, en.2.2.2.2.2.2.2.2.2.2.1, ?_, en.1.1, pc_factorEnd hL hC hw hr hE hS hjc ⟨en.1.1, pc_isLyndon hL hC hw hr hE s1 s2 (fun _ => ⟨fun _ => ?_, fun t => absurd t (by decide)⟩) (fun y => absurd (sj_seg_lyn hjc) y)⟩⟩
    · rw [en.2.2.2.2.2.2.2.2.2.2.2, sj_inI (by omega)]; omega
    · rw [sj_s1] at nxt
      refine ⟨fun _ => nxt, fun z => ?_⟩
      have hj1 : j + 1 < sj_cnt (sj_pm u (sj_n σ r) (sj_x σ r)) (sj_n σ r) := by
        refine Classical.byContradiction fun y => z ?_
        have e : cn = j + 1 := by omega
        have e2 : nI (j + 1) - 1 = nI j := sj_m1 j
        rw [e, e2]
        exact Int32.le_refl _
      obtain ⟨t1, t2, t3, t4⟩ := sj_seg hj1
      have sg := sj_seg_ge hj1
      have e : sj_fe u (sj_n σ r) (sj_x σ r) j = sj_fb u (sj_n σ r) (sj_x σ r) (j + 1) := if_pos hj1
      refine ⟨en.1.1, pc_factorEnd hL hC hw hr hE hS hj1 ⟨en.1.1, pc_compareParts hL hC hw hr hE (by omega) s2 (by rw [e]; omega) t2 ⟨fun _ => nxt, fun y => absurd (sj_wcL.mp y) sg⟩⟩⟩
theorem pc_rowIsTrue {La : Nat → Nat} {σ : sj_S} {w : sj_W} (hL : sj_La La) (hC : sj_Cm La σ w) (hw : sj_wf σ) {a1 a2 a3 : Int32} {Q : Int32 → sj_W → Prop} {QX : String → sj_W → Prop} (h : so_pX La w (ab_rowIsTrue σ a1 a2 a3) sj_en Int32.toInt64 Q QX) : vc_X6_rowIsTrue (La 0) a1 a2 a3 w Q QX := by
  have a := hC.all
  have en := hC.en
  unfold ab_rowIsTrue at h
  refine pc_kindOf (fun k hk hk4 => pc_isUnsigned (fun u hu => ⟨a.1.1, pc_rowOf hL hC hk4 (fun r hr hr4 => ?_) (fun hr => ?_)⟩) (fun hu => ?_)) (fun hk => ?_)
  · simp only [hk, hu, hr] at h
    have hr16 : k * 4 + r < 16 := by omega
    rw [a.1.2.2.2.2]
    refine ⟨a.1.1, hL.2 _, en.1.1, pc_take hL hC hw hr16 (fun w1 f1 hC1 hE1 => ?_)⟩
    have a1' := hC1.all
    have en1 := hC1.en
    rw [a1'.1.2.2.2.2]
    refine ⟨a1'.1.1, hL.2 _, en1.1.1, pc_putInOrder hL hC1 hw hr16 hE1 (fun w2 f2 hC2 hE2 hO2 => ?_)⟩
    have a2' := hC2.all
    have en2 := hC2.en
    rw [a2'.1.2.2.2.2]
    refine ⟨a2'.1.1, hL.2 _, en2.1.1, pc_split hL hC2 hw hr16 hE2 (fun w3 f3 hC3 hE3 hS3 => ?_)⟩
    have a3' := hC3.all
    have en3 := hC3.en
    have hO3 : sj_Or La σ (k * 4 + r) u w3 := by
      obtain ⟨lx, hs, hx⟩ := hO2
      refine ⟨lx, hs, fun j hj => ?_⟩
      have t := (f3 (La 7) (by rw [en2.2.2.2.2.2.2.2.2.2.1.1]; decide)).2.2.2.2 (fun z => z.elim (fun e => by have := hL.1 _ _ e; omega) (fun e => by have := hL.1 _ _ e; omega))
      exact (t.2.2.1 j).trans (hx j hj)
    have f03 := ((sj_XE.x f1).trans (sj_X7.x f2)).trans (sj_X8.x f3)
    rw [a3'.1.2.2.2.2]
    refine ⟨a3'.1.1, hL.2 _, pc_countIsTrue hL hC3 hw hr16 hE3 hO3 ⟨fun z => absurd z (by decide), fun _ => ?_⟩⟩
    rw [a3'.1.2.2.2.2]
    refine ⟨a3'.1.1, hL.2 _, pc_periodsAreTrue hL hC3 hw hr16 hE3 ⟨fun z => absurd z (by decide), fun _ => ?_⟩⟩
    rw [a3'.1.2.2.2.2]
    exact ⟨a3'.1.1, hL.2 _, pc_factorsAreTrue hL hC3 hw hr16 hE3 hO3 hS3 (fun w4 f4 hC4 => ⟨fun z => absurd z (by decide), fun _ => so_k h (f03.trans (sj_XW.x f4)) hC4 rfl⟩)⟩
  · simp only [hk, hu, hr] at h
    exact so_e h (by decide) sj_fr.rf hC
  · simp only [hk, hu] at h
    exact so_e h (by decide) sj_fr.rf hC
  · simp only [hk] at h
    exact so_e h (by decide) sj_fr.rf hC

/-! THE THEOREM OF WORDS -/
theorem sj_lcp_map {n m : Nat} {f g f' g' : Nat → Int64} (h : ∀ j, j < n → j < m → (f j = g j ↔ f' j = g' j)) : sj_lcp n f m g = sj_lcp n f' m g' := by
  obtain ⟨h1, h2, h3, h4⟩ := sj_lcp_is n f' m g'
  exact sj_lcp_eq ⟨h1, h2, fun j hj => (h j (by omega) (by omega)).mpr (h3 j hj), fun a b e => h4 a b ((h _ a b).mp e)⟩
theorem sj_wc_map {u u' : Bool} {n m : Nat} {f g f' g' : Nat → Int64} (h : ∀ j, j < n → j < m → (f j = g j ↔ f' j = g' j) ∧ (sj_key u (f j) < sj_key u (g j) ↔ sj_key u' (f' j) < sj_key u' (g' j))) : sj_wc u n f m g = sj_wc u' n f' m g' := by
  unfold sj_wc
  rw [sj_lcp_map (f' := f') (g' := g') (fun j a b => (h j a b).1)]
  by_cases c : sj_lcp n f' m g' < n ∧ sj_lcp n f' m g' < m
  · rw [if_pos c, if_pos c]
    obtain ⟨h1, h2⟩ := h _ c.1 c.2
    unfold sj_nc
    simp only [h1, h2]
  · rw [if_neg c, if_neg c]
theorem sj_bm {x : Int} (h1 : -9223372036854775808 ≤ x) (h2 : x < 9223372036854775808) : x.bmod (2 ^ 64) = x := by
  rw [Int.bmod_def]
  split <;> omega
theorem sj_leastI {k : Nat} (hk : k < 4) : (sj_least k).toInt = -sj_half k := by
  have e : k = 0 ∨ k = 1 ∨ k = 2 ∨ k = 3 := by omega
  rcases e with rfl | rfl | rfl | rfl <;> decide
theorem sj_least2 {k : Nat} (hk : k < 3) : (2 * sj_least k).toInt = -(2 * sj_half k) := by
  have e : k = 0 ∨ k = 1 ∨ k = 2 := by omega
  rcases e with rfl | rfl | rfl <;> decide
theorem sj_halfB (k : Nat) : 0 < sj_half k ∧ sj_half k ≤ 9223372036854775808 := by
  unfold sj_half
  repeat' split
  all_goals omega
theorem sj_halfS {k : Nat} (hk : k < 3) : sj_half k ≤ 2147483648 := by
  have e : k = 0 ∨ k = 1 ∨ k = 2 := by omega
  rcases e with rfl | rfl | rfl <;> decide
theorem sj_chT_int {k : Nat} (hk : k < 4) {x : Int64} (hx : sj_inK k x) : (sj_ch k 116 x).toInt = if 0 ≤ x.toInt then x.toInt - sj_half k else x.toInt + sj_half k := by
  have hb := sj_halfB k
  have hl := sj_leastI hk
  unfold sj_inK at hx
  unfold sj_ch
  rw [if_neg (by decide), if_pos rfl]
  by_cases c : 0 ≤ x.toInt
  · rw [if_pos c, if_pos c, Int64.toInt_add, hl, sj_bm (by omega) (by omega)]
    omega
  · rw [if_neg c, if_neg c, Int64.toInt_sub, hl, sj_bm (by omega) (by omega)]
    omega
theorem sj_chU_int {k : Nat} (hk : k < 3) {x : Int64} (hx : sj_inK k x) : (sj_ch k 117 x).toInt = if 0 ≤ x.toInt then x.toInt else x.toInt + 2 * sj_half k := by
  have hb := sj_halfB k
  have hs := sj_halfS hk
  have hl := sj_least2 hk
  unfold sj_inK at hx
  unfold sj_ch
  rw [if_pos rfl]
  by_cases c : 0 ≤ x.toInt
  · rw [if_pos c, if_pos c]
  · rw [if_neg c, if_neg c, Int64.toInt_sub, hl, sj_bm (by omega) (by omega)]
    omega
/-- the changed numbers' order with signs is the numbers' order without -/
theorem sj_ch_ord {k : Nat} {c : Int32} (hk : k < 4) (hc : c = 116 ∨ (c = 117 ∧ k ≠ 3)) {x y : Int64} (hx : sj_inK k x) (hy : sj_inK k y) : (x = y ↔ sj_ch k c x = sj_ch k c y) ∧ (sj_key true x < sj_key true y ↔ sj_key false (sj_ch k c x) < sj_key false (sj_ch k c y)) := by
  have hb := sj_halfB k
  have kf : ∀ z : Int64, sj_key false z = z.toInt := fun _ => rfl
  have ix := hx
  have iy := hy
  unfold sj_inK at hx hy
  rw [kf, kf, sj_keyT, sj_keyT]
  have inj : ∀ a b : Int64, a = b ↔ a.toInt = b.toInt := fun a b => ⟨fun e => by rw [e], Int64.toInt_inj.mp⟩
  rw [inj x y, inj (sj_ch k c x)]
  rcases hc with rfl | ⟨rfl, hk3⟩
  · rw [sj_chT_int hk ix, sj_chT_int hk iy]
    refine ⟨?_, ?_⟩ <;> repeat' split
    all_goals omega
  · have hs := sj_halfS (k := k) (by omega)
    rw [sj_chU_int (by omega) ix, sj_chU_int (by omega) iy]
    refine ⟨?_, ?_⟩ <;> repeat' split
    all_goals omega
theorem sj_wc_neg {u : Bool} {n m : Nat} {f g : Nat → Int64} : sj_wc u m g n f = -sj_wc u n f m g := by
  rcases sj_wc_cases u n f m g with ⟨e, h⟩ | ⟨e, h⟩ | ⟨e, h⟩
  · rw [e, sj_wc0.mpr (sj_weq_s h)]
    decide
  · rw [e]
    rcases sj_wc_cases u m g n f with ⟨e2, h2⟩ | ⟨e2, h2⟩ | ⟨e2, h2⟩
    · exact (sj_wlt_irr h (sj_weq_s h2)).elim
    · exact (sj_wlt_asym h h2).elim
    · rw [e2]; decide
  · rw [e]
    rcases sj_wc_cases u m g n f with ⟨e2, h2⟩ | ⟨e2, h2⟩ | ⟨e2, h2⟩
    · exact (sj_wlt_irr h h2).elim
    · rw [e2]
    · exact (sj_wlt_asym h h2).elim
/-- the numbers that the outer two of three words in order have alike -/
theorem sj_lcp_chain {u : Bool} {n m l : Nat} {f g h : Nat → Int64} (h1 : ¬ sj_wlt u m g n f) (h2 : ¬ sj_wlt u l h m g) : sj_lcp n f l h = min (sj_lcp n f m g) (sj_lcp m g l h) := by
  have ha := sj_lcp_is n f m g
  have hb := sj_lcp_is m g l h
  generalize sj_lcp n f m g = a at ha ⊢
  generalize sj_lcp m g l h = b at hb ⊢
  obtain ⟨a1, a2, a3, a4⟩ := ha
  obtain ⟨b1, b2, b3, b4⟩ := hb
  refine sj_lcp_eq ⟨by omega, by omega, fun j hj => (a3 j (by omega)).trans (b3 j (by omega)), fun c1 c2 => ?_⟩
  rcases Nat.lt_trichotomy a b with c | c | c
  · rw [Nat.min_eq_left (by omega)] at c1 c2 ⊢
    rw [← b3 a c]
    exact a4 c1 (by omega)
  · subst c
    rw [Nat.min_self] at c1 c2 ⊢
    by_cases cm : a < m
    · have k1 := a4 c1 cm
      have k2 := b4 cm c2
      have l1 : sj_key u (f a) < sj_key u (g a) := by
        refine Int.not_le.mp fun z => h1 ⟨a, a2, c1, fun j hj => (a3 j hj).symm, fun _ => ?_⟩
        have : sj_key u (f a) ≠ sj_key u (g a) := fun y => k1 (sj_key_inj y)
        omega
      have l2 : sj_key u (g a) < sj_key u (h a) := by
        refine Int.not_le.mp fun z => h2 ⟨a, b2, cm, fun j hj => (b3 j hj).symm, fun _ => ?_⟩
        have : sj_key u (g a) ≠ sj_key u (h a) := fun y => k2 (sj_key_inj y)
        omega
      intro e
      rw [e] at l1
      omega
    · exact absurd ⟨a, a2, c1, fun j hj => (a3 j hj).symm, fun z => absurd z cm⟩ h1
  · rw [Nat.min_eq_right (by omega)] at c1 c2 ⊢
    rw [a3 b c]
    exact b4 (by omega) c2
/-! three words -/
theorem sj_nm1 {p : Nat} (hp : p < 2147483648) : ¬ nI p = -1 := fun e => by
  have h := congrArg Int32.toInt e
  rw [nI_toInt hp] at h
  have h2 : (-1 : Int32).toInt = -1 := by decide
  omega
theorem pc_alikeIsTrue {w : sj_W} {a b n m : Nat} {f g : Nat → Int64} (ha : sj_Wo w a n f) (hb : sj_Wo w b m g) {Q : Int32 → sj_W → Prop} (h : Q 1 w) : vc_X5_alikeIsTrue a b w Q := by
  have ha32 := ha.le
  have hb32 := hb.le
  have hl := sj_lcp_is n f m g
  have hsm := sj_same_iff (n := n) (m := m) (f := f) (g := g)
  refine pc_mismatch ha hb ?_
  generalize sj_lcp n f m g = p at hl hsm ⊢
  obtain ⟨l1, l2, l3, l4⟩ := hl
  by_cases hP : n = m ∧ p = n
  · have w0 : ∀ u, sj_wc u n f m g = 0 := fun u => sj_wc0.mpr (hsm.mp hP)
    have ip : n = m ∧ sj_lcp n f m g = n := sj_same_iff.mpr (hsm.mp hP)
    rw [if_pos hP]
    obtain ⟨e1, e2⟩ := hP
    subst e2
    subst e1
    refine ⟨fun z => absurd rfl z, fun _ => ⟨fun z => absurd z (by decide), fun _ => ⟨ha.1, pc_size ha ⟨fun z => absurd z (sj_nn0 (by omega)), fun _ => ⟨ha.1, pc_size ha ⟨fun z => (Int32.lt_irrefl z).elim, fun _ => ⟨hb.1, pc_size hb ⟨fun _ => ?_, fun z => absurd (Int32.le_refl _) z⟩⟩⟩⟩⟩⟩⟩⟩
    refine sj_lp1_run (fun v w' => w' = w ∧ ∃ i, v = nI i ∧ i ≤ p) (fun v _ => 40 - v.toNatClampNeg) ?_ 64 _ _ ⟨rfl, 0, rfl, Nat.zero_le _⟩ (by omega)
    rintro v w' K ⟨rfl, i, rfl, hi⟩ hK
    unfold vb_X5_alikeIsTrue_59
    rw [sj_leI (by omega) (by omega)]
    refine ⟨fun q => ⟨ha.1, pc_size ha ⟨fun _ => ⟨ha.1, pc_size ha ⟨fun z => absurd rfl z, fun _ => ⟨hb.1, pc_size hb ⟨fun z => absurd rfl z, fun _ => ?_⟩⟩⟩⟩, fun z => absurd (Int32.le_refl _) z⟩⟩, fun q => ⟨ha.1, pc_at ha (by omega) ⟨hb.1, pc_at hb (by omega) ⟨fun _ => hK _ _ ⟨rfl, i + 1, sj_s1 _, by omega⟩ ?_, fun z => absurd ((sj_lcI _ _).mpr (l3 i (by omega))) z⟩⟩⟩⟩
    · exact ⟨fun _ => ⟨fun z => absurd rfl z, fun _ => pc_isSame ha hb (fun _ => ⟨fun z => absurd rfl z, fun _ => pc_compareWords (u := false) ha hb ⟨fun z => absurd (w0 false) z, fun _ => ⟨fun z => absurd rfl z, fun _ => pc_compareWords (u := true) ha hb ⟨fun z => absurd (w0 true) z, fun _ => ⟨fun z => absurd rfl z, fun _ => h⟩⟩⟩⟩⟩) (fun z => absurd ip z)⟩, fun z => absurd rfl z⟩
    · rw [sj_s1, sj_clI (by omega), sj_clI (by omega)]; omega
  · have w0 : ∀ u, ¬ sj_wc u n f m g = 0 := fun u z => hP (hsm.mpr (sj_wc0.mp z))
    have ip : ¬ (n = m ∧ sj_lcp n f m g = n) := fun z => hP (hsm.mpr (sj_same_iff.mp z))
    rw [if_neg hP]
    refine ⟨fun _ => ⟨fun _ => ⟨fun z => absurd z (sj_nn0 (by omega)), fun _ => ⟨ha.1, pc_size ha ⟨fun z => ?_, fun _ => ⟨hb.1, pc_size hb ⟨fun _ => ?_, fun z => ?_⟩⟩⟩⟩⟩, fun z => absurd rfl z⟩, fun z => absurd z (sj_nm1 (by omega))⟩
    · rw [sj_ltI (by omega) (by omega)] at z
      omega
    · refine sj_lp1_run (fun v w' => w' = w ∧ ∃ i, v = nI i ∧ i ≤ p) (fun v _ => 40 - v.toNatClampNeg) ?_ 64 _ _ ⟨rfl, 0, rfl, Nat.zero_le _⟩ (by omega)
      rintro v w' K ⟨rfl, i, rfl, hi⟩ hK
      unfold vb_X5_alikeIsTrue_59
      rw [sj_leI (by omega) (by omega)]
      refine ⟨fun q => ⟨ha.1, pc_size ha ?_⟩, fun q => ⟨ha.1, pc_at ha (by omega) ⟨hb.1, pc_at hb (by omega) ⟨fun _ => hK _ _ ⟨rfl, i + 1, sj_s1 _, by omega⟩ ?_, fun z => absurd ((sj_lcI _ _).mpr (l3 i (by omega))) z⟩⟩⟩⟩
      · refine sj_jn1_i (fun y w'' => w'' = w' ∧ y = if p < n ∧ p < m then nI 1 else nI 0) (fun E hE => ⟨fun z => hE _ _ ⟨rfl, ?_⟩, fun z => ⟨hb.1, pc_size hb ⟨fun z2 => hE _ _ ⟨rfl, ?_⟩, fun z2 => hE _ _ ⟨rfl, ?_⟩⟩⟩⟩) ?_
        · rw [sj_leI (by omega) (by omega)] at z
          rw [if_neg (by omega)]
          rfl
        · rw [sj_leI (by omega) (by omega)] at z2
          rw [if_neg (by omega)]
          rfl
        · rw [sj_leI (by omega) (by omega)] at z z2
          rw [if_pos (by omega)]
          rfl
        · rintro y w'' ⟨rfl, rfl⟩
          refine ⟨ha.1, pc_size ha ?_⟩
          refine sj_jn1_i (fun y w' => w' = w'' ∧ y = nI 0) (fun E hE => ⟨fun _ => hE _ _ ⟨rfl, rfl⟩, fun z => ⟨hb.1, pc_size hb ⟨fun _ => hE _ _ ⟨rfl, rfl⟩, fun z2 => ?_⟩⟩⟩) ?_
          · rw [sj_eqI (by omega) (by omega)] at z z2
            exact absurd ⟨z.symm.trans z2, z⟩ hP
          · rintro y w' ⟨rfl, rfl⟩
            by_cases c : p < n ∧ p < m
            · rw [if_pos c]
              exact ⟨fun z => absurd z (by decide), fun _ => ⟨ha.1, pc_at ha c.1 ⟨hb.1, pc_at hb c.2 ⟨fun z => absurd ((sj_lcI _ _).mp z) (l4 c.1 c.2), fun _ => ⟨fun z => absurd rfl z, fun _ => pc_isSame ha hb (fun z => absurd z ip) (fun _ => ⟨fun z => absurd rfl z, fun _ => pc_compareWords (u := false) ha hb ⟨fun _ => ⟨fun z => absurd rfl z, fun _ => pc_compareWords (u := true) ha hb ⟨fun _ => ⟨fun z => absurd rfl z, fun _ => h⟩, fun z => absurd z (w0 true)⟩⟩, fun z => absurd z (w0 false)⟩⟩)⟩⟩⟩⟩⟩
            · rw [if_neg c]
              exact ⟨fun _ => ⟨fun z => absurd rfl z, fun _ => pc_isSame ha hb (fun z => absurd z ip) (fun _ => ⟨fun z => absurd rfl z, fun _ => pc_compareWords (u := false) ha hb ⟨fun _ => ⟨fun z => absurd rfl z, fun _ => pc_compareWords (u := true) ha hb ⟨fun _ => ⟨fun z => absurd rfl z, fun _ => h⟩, fun z => absurd z (w0 true)⟩⟩, fun z => absurd z (w0 false)⟩⟩)⟩, fun z => absurd rfl z⟩
      · rw [sj_s1, sj_clI (by omega), sj_clI (by omega)]; omega
    · rw [sj_leI (by omega) (by omega)] at z
      omega
theorem pc_orderIsTrue {w : sj_W} {a b n m : Nat} {f g : Nat → Int64} (u : Bool) (ha : sj_Wo w a n f) (hb : sj_Wo w b m g) {Q : Int32 → sj_W → Prop} (h : Q 1 w) : vc_X5_orderIsTrue a b (sj_b u) w Q := by
  have ha32 := ha.le
  have hb32 := hb.le
  have hl := sj_lcp_is n f m g
  have hl1 := hl.1
  have hl2 := hl.2.1
  have key : sj_wc u n f m g = if sj_lcp n f m g < n ∧ sj_lcp n f m g < m then sj_nc u (f (sj_lcp n f m g)) (g (sj_lcp n f m g)) else sj_nc false (nI n).toInt64 (nI m).toInt64 := by
    by_cases c : sj_lcp n f m g < n ∧ sj_lcp n f m g < m
    · rw [if_pos c]
      unfold sj_wc
      rw [if_pos c]
    · rw [if_neg c]
      exact sj_wc_n c (by omega) (by omega)
  refine pc_compareWords ha hb (pc_alike ha hb ⟨ha.1, pc_size ha ?_⟩)
  generalize sj_lcp n f m g = p at key hl1 hl2 ⊢
  refine sj_jn1_i (fun y w'' => w'' = w ∧ y = if p < n ∧ p < m then nI 1 else nI 0) (fun E hE => ⟨fun z => hE _ _ ⟨rfl, ?_⟩, fun z => ⟨hb.1, pc_size hb ⟨fun z2 => hE _ _ ⟨rfl, ?_⟩, fun z2 => hE _ _ ⟨rfl, ?_⟩⟩⟩⟩) ?_
  · rw [sj_leI (by omega) (by omega)] at z
    rw [if_neg (by omega)]
    rfl
  · rw [sj_leI (by omega) (by omega)] at z2
    rw [if_neg (by omega)]
    rfl
  · rw [sj_leI (by omega) (by omega)] at z z2
    rw [if_pos (by omega)]
    rfl
  · rintro y w' ⟨rfl, rfl⟩
    refine sj_jn1_i (fun y w'' => w'' = w' ∧ y = sj_wc u n f m g) (fun E hE => ⟨fun z => ⟨ha.1, pc_size ha ⟨hb.1, pc_size hb (pc_compareNumbers (u := false) (hE _ _ ⟨rfl, ?_⟩))⟩⟩, fun z => ?_⟩) ?_
    · by_cases c : p < n ∧ p < m
      · rw [if_pos c] at z
        exact absurd z (by decide)
      · rw [key, if_neg c]
    · by_cases c : p < n ∧ p < m
      · exact ⟨ha.1, pc_at ha c.1 ⟨hb.1, pc_at hb c.2 (pc_compareNumbers (hE _ _ ⟨rfl, by rw [key, if_pos c]⟩))⟩⟩
      · rw [if_neg c] at z
        exact absurd rfl z
    · rintro y w'' ⟨rfl, rfl⟩
      exact ⟨fun z => absurd rfl z, fun _ => pc_compareWords hb ha ⟨fun z => absurd sj_wc_neg z, fun _ => h⟩⟩
theorem pc_isUnsignedOf {w : sj_W} {a b c d n m : Nat} {f g f' g' : Nat → Int64} (ha : sj_Wo w a n f) (hb : sj_Wo w b m g) (hc : sj_Wo w c n f') (hd : sj_Wo w d m g') (e : sj_wc true n f m g = sj_wc false n f' m g') {Q : Int32 → sj_W → Prop} (h : Q 1 w) : vc_X5_isUnsignedOf a b c d w Q :=
  pc_compareWords (u := true) ha hb (pc_compareWords (u := false) hc hd ⟨fun z => absurd e z, fun _ => h⟩)
theorem sj_wle {u : Bool} {n m : Nat} {f g : Nat → Int64} (h : ¬ 0 < sj_wc u n f m g) : ¬ sj_wlt u m g n f := fun z => h (Int32.not_le.mp (sj_wcG.mpr z))
theorem pc_chainIsTrue {w : sj_W} {a b c n m l : Nat} {f g h : Nat → Int64} (u : Bool) (ha : sj_Wo w a n f) (hb : sj_Wo w b m g) (hc : sj_Wo w c l h) {Q : Int32 → sj_W → Prop} (hQ : Q 1 w) : vc_X5_chainIsTrue a b c (sj_b u) w Q := by
  have ha32 := ha.le
  have hb32 := hb.le
  have l1 := (sj_lcp_is n f m g).1
  have l2 := (sj_lcp_is m g l h).1
  refine pc_compareWords ha hb (pc_compareWords hb hc ⟨fun _ => hQ, fun z => ⟨fun z2 => ?_, fun _ => hQ⟩⟩)
  have k1 := sj_wle z
  have k2 := sj_wle (u := u) (n := m) (f := g) (m := l) (g := h) (fun y => absurd z2 (Int32.not_le.mpr y))
  refine sj_jn1_i (fun y w' => w' = w ∧ y = nI 1) (fun E hE => ⟨fun _ => hE _ _ ⟨rfl, rfl⟩, fun y1 => ⟨fun _ => hE _ _ ⟨rfl, rfl⟩, fun y2 => pc_compareWords ha hc ⟨fun y3 => ?_, fun _ => hE _ _ ⟨rfl, rfl⟩⟩⟩⟩) ?_
  · have t1 : sj_wlt u n f m g := by
      rcases sj_w_tot u n f m g with y | y | y
      · exact absurd (sj_wc0.mpr y) y1
      · exact y
      · exact absurd y k1
    have t2 : sj_wlt u m g l h := by
      rcases sj_w_tot u m g l h with y | y | y
      · exact absurd (sj_wc0.mpr y) y2
      · exact y
      · exact absurd y k2
    exact absurd y3 (sj_wcL.mpr (sj_wlt_tr t1 t2))
  · rintro y w' ⟨rfl, rfl⟩
    refine ⟨fun z => absurd z (by decide), fun _ => pc_alike ha hc (pc_alike ha hb (pc_alike hb hc ?_))⟩
    have e : (if nI (sj_lcp m g l h) < nI (sj_lcp n f m g) then nI (sj_lcp m g l h) else nI (sj_lcp n f m g)) = nI (sj_lcp n f l h) := by
      rw [sj_lcp_chain k1 k2]
      by_cases c : sj_lcp m g l h < sj_lcp n f m g
      · rw [if_pos (by rw [sj_ltI (by omega) (by omega)]; exact c)]
        congr 1
        omega
      · rw [if_neg (by rw [sj_ltI (by omega) (by omega)]; exact c)]
        congr 1
        omega
    rw [e]
    exact ⟨fun z => absurd rfl z, fun _ => hQ⟩
/-! arrays of three words -/
def sj_Wa (w : sj_W) (p : Nat) (N : Nat → Nat) (X : Nat → Nat → Int64) : Prop := sj_T w p = 12 ∧ sj_N w p = 3 ∧ ∀ i, i < 3 → sj_r w p i ≠ 0 ∧ sj_Wo w (sj_r w p i) (N i) (X i)
theorem sj_Wa.no {w w' : sj_W} {p : Nat} {N : Nat → Nat} {X : Nat → Nat → Int64} (h : sj_Wa w p N X) (g : sj_fr sj_no w w') : sj_Wa w' p N X := by
  obtain ⟨h1, h2, h3⟩ := h
  have t := g p (by omega)
  refine ⟨t.1.trans h1, t.2.1.trans h2, fun i hi => ?_⟩
  rw [t.2.2.2.1 i]
  exact ⟨(h3 i hi).1, (h3 i hi).2.no g⟩
theorem sj_Wa.a {w : sj_W} {p : Nat} {N : Nat → Nat} {X : Nat → Nat → Int64} (h : sj_Wa w p N X) : 7 ≤ sj_T w p ∧ sj_T w p ≤ 13 := by
  rw [h.1]; exact ⟨by decide, by decide⟩
theorem sj_Wa.t {w : sj_W} {p : Nat} {N : Nat → Nat} {X : Nat → Nat → Int64} (h : sj_Wa w p N X) : sj_T w p = 10 ∨ sj_T w p = 11 ∨ sj_T w p = 12 := Or.inr (Or.inr h.1)
theorem sj_Wa.v {w : sj_W} {p i : Nat} {N : Nat → Nat} {X : Nat → Nat → Int64} (h : sj_Wa w p N X) (hi : i < 3) : vp_in (nI i) (sj_N w p) := by
  rw [h.2.1, sj_inI (by omega)]
  exact hi
theorem sj_Wa.z {w : sj_W} {p i : Nat} {N : Nat → Nat} {X : Nat → Nat → Int64} (h : sj_Wa w p N X) (hi : i < 3) : sj_r w p (nI i).toNatClampNeg ≠ 0 := by
  rw [sj_clI (by omega)]
  exact (h.2.2 i hi).1
theorem sj_Wa.w {w : sj_W} {p i : Nat} {N : Nat → Nat} {X : Nat → Nat → Int64} (h : sj_Wa w p N X) (hi : i < 3) : sj_Wo w (sj_r w p (nI i).toNatClampNeg) (N i) (X i) := by
  rw [sj_clI (by omega)]
  exact (h.2.2 i hi).2
theorem pc_changedBy {w : sj_W} {a n k : Nat} {c : Int32} {f : Nat → Int64} (hk : k < 4) (ha : sj_Wo w a n f) {Q : Nat → sj_W → Prop} (h : ∀ q w', q ≠ 0 → sj_fr sj_no w w' → sj_Wo w' q n (fun j => sj_ch k c (f j)) → Q q w') : vc_X4_changedBy a (nI k) c w Q := by
  have ha32 := ha.le
  refine ⟨ha.1, pc_size ha ⟨sj_nn0 (by omega), by rw [sj_clI (by omega)]; exact ha32, fun q hq0 hqT w5 e5 => ?_⟩⟩
  rw [sj_clI (by omega)] at e5
  have f5 : sj_fr sj_no w w5 := by rw [e5]; exact sj_fr.rf.nw hqT
  refine sj_lp1_run (fun v w' => ∃ i, v = nI i ∧ i ≤ n ∧ sj_fr sj_no w w' ∧ sj_T w' q = 8 ∧ sj_N w' q = n ∧ ∀ j, j < i → sj_l w' q j = sj_ch k c (f j)) (fun v _ => 40 - v.toNatClampNeg) ?_ 64 _ _ ⟨0, rfl, Nat.zero_le _, f5, by rw [e5]; exact if_pos rfl, by rw [e5]; exact if_pos rfl, fun j hj => absurd hj (Nat.not_lt_zero _)⟩ (by omega)
  rintro v w' K ⟨i, rfl, hi, hfr, qT, qN, ql⟩ hK
  have ha' := ha.no hfr
  unfold vb_X4_changedBy_10
  rw [qT, qN, sj_leI (by omega) (by omega)]
  refine ⟨⟨by decide, by decide⟩, fun q1 => ?_, fun q1 => ⟨ha'.1, pc_at ha' (by omega) (pc_changed hk ⟨qT, by rw [qN, sj_inI (by omega)]; omega, fun w7 e7 => hK _ _ ⟨i + 1, sj_s1 _, by omega, ?_, ?_, ?_, fun j hj => ?_⟩ ?_⟩)⟩⟩
  · have ei : i = n := by omega
    subst ei
    intro q20 hq20 hT20 w21 e21
    have n20 : q ≠ q20 := fun e => by rw [← e, qT] at hT20; cases hT20
    have eT : sj_T w21 q = 8 := by rw [e21]; exact (if_neg n20).trans qT
    have eN : sj_N w21 q = i := by rw [e21]; exact (if_neg n20).trans qN
    rw [eT, eN]
    refine ⟨⟨by decide, by decide⟩, ?_⟩
    have pw := pc_word (x := fun j => sj_ch k c (f j)) (f := 0) (t := i) hT20 e21 hq0 qT (by omega) (Nat.zero_le _) (by omega) (fun j hj => by rw [Nat.zero_add]; exact ql j (by omega)) (Q := fun w' => Q q20 w') (fun w2 g2 o2 => h q20 w2 hq20 (hfr.trans g2) (by rw [Nat.sub_zero] at o2; exact o2))
    exact pw
  · rw [e7]; exact hfr.l (Or.inr hqT)
  · rw [e7]; exact qT
  · rw [e7]; exact qN
  · rw [e7, sj_clI (by omega)]
    show (if q = q ∧ j = i then _ else sj_l w' q j) = _
    by_cases e : j = i
    · subst e
      rw [if_pos ⟨rfl, rfl⟩]
    · rw [if_neg (fun z => e z.2)]
      exact ql j (by omega)
  · rw [sj_s1, sj_clI (by omega), sj_clI (by omega)]; omega
theorem pc_changedWords {w : sj_W} {p k : Nat} {c : Int32} {N : Nat → Nat} {X : Nat → Nat → Int64} (hk : k < 4) (hp : sj_Wa w p N X) {Q : Nat → sj_W → Prop} (h : ∀ q w', sj_fr sj_no w w' → sj_Wa w' q N (fun i j => sj_ch k c (X i j)) → Q q w') : vc_X5_changedWords (nI k) c p w Q := by
  unfold vc_X5_changedWords
  rw [hp.2.1]
  refine ⟨hp.a, by decide, by decide, fun q hq0 hqT w2 e2 => ?_⟩
  have e3 : (nI 3).toNatClampNeg = 3 := by decide
  rw [e3] at e2
  have f2 : sj_fr sj_no w w2 := by rw [e2]; exact sj_fr.rf.nw hqT
  refine sj_lp1_run (fun v w' => ∃ i, v = nI i ∧ i ≤ 3 ∧ sj_fr sj_no w w' ∧ sj_T w' q = 12 ∧ sj_N w' q = 3 ∧ ∀ j, j < i → sj_r w' q j ≠ 0 ∧ sj_Wo w' (sj_r w' q j) (N j) (fun t => sj_ch k c (X j t))) (fun v _ => 4 - v.toNatClampNeg) ?_ 5 _ _ ⟨0, rfl, Nat.zero_le _, f2, by rw [e2]; exact if_pos rfl, by rw [e2]; exact if_pos rfl, fun j hj => absurd hj (Nat.not_lt_zero _)⟩ (by omega)
  rintro v w' K ⟨i, rfl, hi, hfr, qT, qN, ql⟩ hK
  have hp' := hp.no hfr
  unfold vb_X5_changedWords_9
  refine ⟨hp'.a, ?_⟩
  rw [hp'.2.1, sj_leI (by omega) (by omega)]
  refine ⟨fun q1 => ?_, fun q1 => ⟨hp'.t, by rw [sj_inI (by omega)]; omega, hp'.z (by omega), (hp'.w (by omega)).1, pc_changedBy hk (hp'.w (by omega)) (fun r w3 hr f3 o3 => ?_)⟩⟩
  · have ei : i = 3 := by omega
    subst ei
    exact h q w' hfr ⟨qT, qN, ql⟩
  · have t3 := f3 q (by omega)
    have qT3 := t3.1.trans qT
    have qN3 := t3.2.1.trans qN
    refine ⟨qT3, o3.1, by rw [qN3, sj_inI (by omega)]; omega, hr, fun w5 e5 => ?_⟩
    rw [sj_clI (by omega)] at e5
    refine hK _ _ ⟨i + 1, sj_s1 _, by omega, ?_, ?_, ?_, fun j hj => ?_⟩ ?_
    · rw [e5]; exact (hfr.trans f3).r hqT
    · rw [e5]; exact qT3
    · rw [e5]; exact qN3
    · have er : sj_r w5 q j = if j = i then r else sj_r w3 q j := by
        rw [e5]
        show (if q = q ∧ j = i then r else sj_r w3 q j) = _
        by_cases e : j = i
        · rw [if_pos ⟨rfl, e⟩, if_pos e]
        · rw [if_neg (fun z => e z.2), if_neg e]
      rw [er]
      by_cases e : j = i
      · rw [if_pos e]
        subst e
        refine ⟨hr, ?_⟩
        rw [e5]
        exact o3
      · rw [if_neg e, t3.2.2.2.1 j]
        obtain ⟨z1, z2⟩ := ql j (by omega)
        refine ⟨z1, ?_⟩
        have z3 := z2.no f3
        rw [e5]
        exact z3
    · rw [sj_s1, sj_clI (by omega), sj_clI (by omega)]; omega
theorem pc_threeAreTrue {w : sj_W} {p : Nat} {N : Nat → Nat} {X : Nat → Nat → Int64} (u : Bool) (hp : sj_Wa w p N X) {Q : Int32 → sj_W → Prop} (h : Q 1 w) : vc_X5_threeAreTrue p (sj_b u) w Q := by
  refine sj_lp1_run (fun v w' => w' = w ∧ ∃ i, v = nI i ∧ i ≤ 3) (fun v _ => 4 - v.toNatClampNeg) ?_ 64 _ _ ⟨rfl, 0, rfl, Nat.zero_le _⟩ (by omega)
  rintro v w' K ⟨rfl, i, rfl, hi⟩ hK
  unfold vb_X5_threeAreTrue_2
  refine ⟨hp.a, ?_⟩
  rw [hp.2.1, sj_leI (by omega) (by omega)]
  refine ⟨fun _ => h, fun qi => ?_⟩
  refine sj_lp1_run (fun v w'' => w'' = w' ∧ ∃ i, v = nI i ∧ i ≤ 3) (fun v _ => 4 - v.toNatClampNeg) ?_ 64 _ _ ⟨rfl, 0, rfl, Nat.zero_le _⟩ (by omega)
  rintro v w'' K2 ⟨rfl, j, rfl, hj⟩ hK2
  unfold vb_X5_threeAreTrue_10
  refine ⟨hp.a, ?_⟩
  rw [hp.2.1, sj_leI (by omega) (by omega)]
  refine ⟨fun _ => hK _ _ ⟨rfl, i + 1, sj_s1 _, by omega⟩ ?_, fun qj => ?_⟩
  · rw [sj_s1, sj_clI (by omega), sj_clI (by omega)]; omega
  refine sj_lp1_run (fun v w' => w' = w'' ∧ ∃ i, v = nI i ∧ i ≤ 3) (fun v _ => 4 - v.toNatClampNeg) ?_ 64 _ _ ⟨rfl, 0, rfl, Nat.zero_le _⟩ (by omega)
  rintro v w' K3 ⟨rfl, l, rfl, hl⟩ hK3
  unfold vb_X5_threeAreTrue_19
  refine ⟨hp.a, ?_⟩
  rw [hp.2.1, sj_leI (by omega) (by omega)]
  refine ⟨fun _ => hK2 _ _ ⟨rfl, j + 1, sj_s1 _, by omega⟩ ?_, fun ql => ?_⟩
  · rw [sj_s1, sj_clI (by omega), sj_clI (by omega)]; omega
  have nx : K3 (nI l + 1) w' := by
    refine hK3 _ _ ⟨rfl, l + 1, sj_s1 _, by omega⟩ ?_
    rw [sj_s1, sj_clI (by omega), sj_clI (by omega)]; omega
  refine sj_jn1_i (fun y w'' => w'' = w') (fun E hE => ⟨fun _ => hE _ _ rfl, fun _ => ⟨fun _ => hE _ _ rfl, fun _ => ⟨fun _ => hE _ _ rfl, fun _ => hE _ _ rfl⟩⟩⟩) ?_
  rintro y w'' rfl
  refine ⟨fun _ => nx, fun _ => ⟨hp.t, hp.v (by omega), hp.z (by omega), hp.t, hp.v (by omega), hp.z (by omega), hp.t, hp.v (by omega), hp.z (by omega), pc_chainIsTrue u (hp.w (by omega)) (hp.w (by omega)) (hp.w (by omega)) ⟨fun _ => nx, fun z => absurd z (by decide)⟩⟩⟩
theorem pc_holds {w : sj_W} {p k : Nat} {N : Nat → Nat} {X : Nat → Nat → Int64} (hk : k < 4) (hp : sj_Wa w p N X) (hX : ∀ i j, i < 3 → j < N i → sj_inK k (X i j)) {Q : Int32 → sj_W → Prop} (h : ∀ w', sj_fr sj_no w w' → Q 1 w') : vc_X5_holds (nI k) p w Q := by
  have cor : ∀ c : Int32, (c = 116 ∨ (c = 117 ∧ k ≠ 3)) → ∀ i j, i < 3 → j < 3 → sj_wc true (N i) (X i) (N j) (X j) = sj_wc false (N i) (fun t => sj_ch k c (X i t)) (N j) (fun t => sj_ch k c (X j t)) := fun c hc i j hi hj => sj_wc_map (fun t h1 h2 => sj_ch_ord hk hc (hX i t hi h1) (hX j t hj h2))
  refine pc_changedWords hk hp (fun r1 w2 f2 h2 => ?_)
  refine sj_jn1_i (fun y w' => sj_fr sj_no w2 w' ∧ ∃ c : Int32, (c = 116 ∨ (c = 117 ∧ k ≠ 3)) ∧ sj_Wa w' y N (fun i j => sj_ch k c (X i j))) (fun E hE => ⟨fun z => pc_changedWords hk (hp.no f2) (fun r11 w12 f12 h12 => hE _ _ ⟨f12, 117, Or.inr ⟨rfl, fun e => z (by rw [e]; rfl)⟩, h12⟩), fun _ => hE _ _ ⟨sj_fr.rf, 116, Or.inl rfl, h2⟩⟩) ?_
  rintro y w3 ⟨f3, c, hc, h3⟩
  have ht := h2.no f3
  have hw := (hp.no f2).no f3
  have hQ := fun w' g => h w' ((f2.trans f3).trans g)
  refine sj_lp1_run (fun v w' => w' = w3 ∧ ∃ i, v = nI i ∧ i ≤ 3) (fun v _ => 4 - v.toNatClampNeg) ?_ 64 _ _ ⟨rfl, 0, rfl, Nat.zero_le _⟩ (by omega)
  rintro v w' K ⟨rfl, i, rfl, hi⟩ hK
  unfold vb_X5_holds_28
  refine ⟨hw.a, ?_⟩
  rw [hw.2.1, sj_leI (by omega) (by omega)]
  refine ⟨fun _ => pc_threeAreTrue false hw ⟨fun z => absurd z (by decide), fun _ => pc_threeAreTrue true hw ⟨fun z => absurd z (by decide), fun _ => hQ _ sj_fr.rf⟩⟩, fun qi => ?_⟩
  refine sj_lp1_run (fun v w'' => w'' = w' ∧ ∃ i, v = nI i ∧ i ≤ 3) (fun v _ => 4 - v.toNatClampNeg) ?_ 64 _ _ ⟨rfl, 0, rfl, Nat.zero_le _⟩ (by omega)
  rintro v w'' K2 ⟨rfl, j, rfl, hj⟩ hK2
  unfold vb_X5_holds_38
  refine ⟨hw.a, ?_⟩
  rw [hw.2.1, sj_leI (by omega) (by omega)]
  refine ⟨fun _ => hK _ _ ⟨rfl, i + 1, sj_s1 _, by omega⟩ ?_, fun qj => ?_⟩
  · rw [sj_s1, sj_clI (by omega), sj_clI (by omega)]; omega
  have hi3 : i < 3 := by omega
  have hj3 : j < 3 := by omega
  refine sj_jn1_i (fun y w' => w' = w'' ∧ y = nI 1) (fun E hE => ⟨fun _ => hE _ _ ⟨rfl, rfl⟩, fun _ => ?_⟩) ?_
  · have v3 : ∀ {t : Nat}, t < 3 → vp_in (nI t) 3 := fun ht => by rw [sj_inI (by omega)]; exact ht
    refine ⟨hw.t, v3 hi3, hw.z hi3, hw.t, v3 hj3, hw.z hj3, pc_alikeIsTrue (hw.w hi3) (hw.w hj3) ⟨fun z => absurd z (by decide), fun _ => ?_⟩⟩
    refine ⟨hw.t, hw.v hi3, hw.z hi3, hw.t, hw.v hj3, hw.z hj3, pc_orderIsTrue false (hw.w hi3) (hw.w hj3) ⟨fun z => absurd z (by decide), fun _ => ?_⟩⟩
    refine ⟨hw.t, hw.v hi3, hw.z hi3, hw.t, hw.v hj3, hw.z hj3, pc_orderIsTrue true (hw.w hi3) (hw.w hj3) ⟨fun z => absurd z (by decide), fun _ => ?_⟩⟩
    refine ⟨hw.t, hw.v hi3, hw.z hi3, hw.t, hw.v hj3, hw.z hj3, ht.t, ht.v hi3, ht.z hi3, ht.t, ht.v hj3, ht.z hj3, pc_isUnsignedOf (hw.w hi3) (hw.w hj3) (ht.w hi3) (ht.w hj3) (cor 116 (Or.inl rfl) i j hi3 hj3) ⟨fun z => absurd z (by decide), fun _ => ?_⟩⟩
    exact ⟨hw.t, hw.v hi3, hw.z hi3, hw.t, hw.v hj3, hw.z hj3, h3.t, h3.v hi3, h3.z hi3, h3.t, h3.v hj3, h3.z hj3, pc_isUnsignedOf (hw.w hi3) (hw.w hj3) (h3.w hi3) (h3.w hj3) (cor c hc i j hi3 hj3) ⟨fun z => absurd z (by decide), fun _ => hE _ _ ⟨rfl, rfl⟩⟩⟩
  · rintro y w' ⟨rfl, rfl⟩
    refine ⟨fun _ => hK2 _ _ ⟨rfl, j + 1, sj_s1 _, by omega⟩ ?_, fun z => absurd z (by decide)⟩
    rw [sj_s1, sj_clI (by omega), sj_clI (by omega)]; omega
theorem pc_wordOf0 {La : Nat → Nat} {σ : sj_S} {w : sj_W} (hL : sj_La La) (hC : sj_Cm La σ w) (hw : sj_wf σ) {k j : Nat} (hk : k < 4) (hj : j < 12) (hf : sj_fit σ k j) {Q : Nat → sj_W → Prop} (h : ∀ q w', q ≠ 0 → sj_fr sj_no w w' → sj_Wo w' q (sj_wn σ j) (sj_wx σ k j) → Q q w') : vc_X6_wordOf (La 0) (nI k) (La (140 + j)) w Q := by
  intro q hq0 hq w2 e2
  have b := hw.2.1 j hj
  have c := (hw.1 (k * 4 + sj_pr σ j) (by omega)).1
  have a0 := hC.all
  have a := (hC.no (w' := w2) (by rw [e2]; exact sj_fr.rf.nw hq)).all
  unfold sj_fit at hf
  simp (disch := omega) only [ne_eq, and_self, not_false_eq_true, not_true_eq_false, true_and, and_true, true_or, or_true, false_or, or_false, forall_eq, forall_const, true_implies, false_implies, if_true, if_false, sj_lits, sj_addI, sj_mulI, sj_clI, sj_inI, sj_ltI, sj_leI, sj_eqI, sj_lcI, a, hL.nz]
  refine ⟨by omega, pc_word hq e2 (fun z => hL.2 _ z) (a0.2.2.2.2.2.2.1 _ (by omega)) (by simp (disch := omega) only [ne_eq, and_self, not_false_eq_true, not_true_eq_false, true_and, and_true, true_or, or_true, false_or, or_false, forall_eq, forall_const, true_implies, false_implies, if_true, if_false, sj_lits, sj_addI, sj_mulI, sj_clI, sj_inI, sj_ltI, sj_leI, sj_eqI, sj_lcI, a0]; omega) b.2.1 (by simp (disch := omega) only [ne_eq, and_self, not_false_eq_true, not_true_eq_false, true_and, and_true, true_or, or_true, false_or, or_false, forall_eq, forall_const, true_implies, false_implies, if_true, if_false, sj_lits, sj_addI, sj_mulI, sj_clI, sj_inI, sj_ltI, sj_leI, sj_eqI, sj_lcI, a0]; omega) (fun i hi => ?_) (fun w' h1 h2 => h q w' hq0 h1 h2)⟩
  exact a0.2.2.2.2.2.2.2.2.2.2.1 _ _ (by omega) (by omega)
theorem pc_fittingWord0 {La : Nat → Nat} {σ : sj_S} {w : sj_W} (hL : sj_La La) (hC : sj_Cm La σ w) (hw : sj_wf σ) {k j : Nat} (hk : k < 4) (hj : j < 12) {Q : Nat → sj_W → Prop} {QX : String → sj_W → Prop} (h : ∀ q w', q ≠ 0 → sj_fit σ k j → sj_fr sj_no w w' → sj_Wo w' q (sj_wn σ j) (sj_wx σ k j) → Q q w') (h0 : ¬ sj_fit σ k j → QX "java/lang/IllegalStateException" w) : vc_X6_fittingWord (La 0) (nI k) (La (140 + j)) w Q QX := by
  refine ⟨hC.all.1.1, pc_isFitting hL hC hw hk hj (fun hf => ⟨fun _ => ⟨hC.all.1.1, pc_wordOf0 hL hC hw hk hj hf (fun q w' z => h q w' z hf)⟩, fun e => absurd e (by decide)⟩) (fun hf => ⟨fun e => absurd rfl e, fun _ => h0 hf⟩)⟩
theorem pc_isTrue {La : Nat → Nat} {σ : sj_S} {w : sj_W} (hL : sj_La La) (hC : sj_Cm La σ w) (hw : sj_wf σ) {a1 a2 a3 a4 : Int32} {Q : Int32 → sj_W → Prop} {QX : String → sj_W → Prop} (h : so_pX La w (ab_isTrue σ a1 a2 a3 a4) sj_en Int32.toInt64 Q QX) : vc_X6_isTrue (La 0) a1 a2 a3 a4 w Q QX := by
  have a := hC.all
  unfold ab_isTrue at h
  refine pc_kindOf (fun k hk hk4 => ⟨a.1.1, pc_spanOf hL hC (fun i hi hi12 => ⟨a.1.1, pc_spanOf hL hC (fun j hj hj12 => ⟨a.1.1, pc_spanOf hL hC (fun l hl hl12 => ?_) (fun hl => ?_)⟩) (fun hj => ?_)⟩) (fun hi => ?_)⟩) (fun hk => ?_)
  · simp only [hk, hi, hj, hl] at h
    intro q hq0 hqT w1 e1
    have f1 : sj_fr sj_no w w1 := by rw [e1]; exact sj_fr.rf.nw hqT
    have qT1 : sj_T w1 q = 12 := by rw [e1]; exact if_pos rfl
    have qN1 : sj_N w1 q = 3 := by rw [e1]; exact if_pos rfl
    clear e1
    have hC1 := hC.no f1
    have hin : ∀ i, i < 12 → sj_fit σ k i → ∀ t, t < sj_wn σ i → sj_inK k (sj_wx σ k i t) := by
      intro i hi fi t ht
      have b := hw.2.1 i hi
      have c := (hw.1 (k * 4 + sj_pr σ i) (by omega)).2 (sj_pf σ i + t) (by unfold sj_wn at ht; unfold sj_fit at fi; omega)
      have e : (k * 4 + sj_pr σ i) / 4 = k := by omega
      rw [e] at c
      exact c
    refine ⟨hC1.1.1.1, pc_fittingWord0 hL hC1 hw hk4 hi12 (fun p1 w2 p10 fi f2 o1 => ?_) (fun nf => ?_)⟩
    · have t2 := f2 q (by omega)
      refine ⟨t2.1.trans qT1, o1.1, by rw [t2.2.1, qN1]; exact sj_in (n := 0) (by decide) (by decide), p10, fun w3 e3 => ?_⟩
      have z0 : (0 : Int32).toNatClampNeg = 0 := by decide
      rw [z0] at e3
      have f3 : sj_fr sj_no w w3 := by rw [e3]; exact (f1.trans f2).r hqT
      have qT3 : sj_T w3 q = 12 := by rw [e3]; exact t2.1.trans qT1
      have qN3 : sj_N w3 q = 3 := by rw [e3]; exact t2.2.1.trans qN1
      have qr3 : sj_r w3 q 0 = p1 := by rw [e3]; exact if_pos ⟨rfl, rfl⟩
      have o13 : sj_Wo w3 p1 (sj_wn σ i) (sj_wx σ k i) := by rw [e3]; exact o1
      clear e3
      have hC3 := hC.no f3
      refine ⟨hC3.1.1.1, pc_fittingWord0 hL hC3 hw hk4 hj12 (fun p2 w4 p20 fj f4 o2 => ?_) (fun nf => ?_)⟩
      · have t4 := f4 q (by omega)
        have o14 := o13.no f4
        refine ⟨t4.1.trans qT3, o2.1, by rw [t4.2.1, qN3]; exact sj_in (n := 1) (by decide) (by decide), p20, fun w5 e5 => ?_⟩
        have z1 : (1 : Int32).toNatClampNeg = 1 := by decide
        rw [z1] at e5
        have f5 : sj_fr sj_no w w5 := by rw [e5]; exact (f3.trans f4).r hqT
        have qT5 : sj_T w5 q = 12 := by rw [e5]; exact t4.1.trans qT3
        have qN5 : sj_N w5 q = 3 := by rw [e5]; exact t4.2.1.trans qN3
        have qr50 : sj_r w5 q 0 = p1 := by rw [e5]; exact (if_neg (fun z => absurd z.2 (by decide))).trans ((t4.2.2.2.1 0).trans qr3)
        have qr51 : sj_r w5 q 1 = p2 := by rw [e5]; exact if_pos ⟨rfl, rfl⟩
        have o15 : sj_Wo w5 p1 (sj_wn σ i) (sj_wx σ k i) := by rw [e5]; exact o14
        have o25 : sj_Wo w5 p2 (sj_wn σ j) (sj_wx σ k j) := by rw [e5]; exact o2
        clear e5
        have hC5 := hC.no f5
        refine ⟨hC5.1.1.1, pc_fittingWord0 hL hC5 hw hk4 hl12 (fun p3 w6 p30 fl f6 o3 => ?_) (fun nf => ?_)⟩
        · have t6 := f6 q (by omega)
          have o16 := o15.no f6
          have o26 := o25.no f6
          refine ⟨t6.1.trans qT5, o3.1, by rw [t6.2.1, qN5]; exact sj_in (n := 2) (by decide) (by decide), p30, fun w7 e7 => ?_⟩
          have z2 : (2 : Int32).toNatClampNeg = 2 := by decide
          rw [z2] at e7
          have f7 : sj_fr sj_no w w7 := by rw [e7]; exact (f5.trans f6).r hqT
          have qT7 : sj_T w7 q = 12 := by rw [e7]; exact t6.1.trans qT5
          have qN7 : sj_N w7 q = 3 := by rw [e7]; exact t6.2.1.trans qN5
          have qr70 : sj_r w7 q 0 = p1 := by rw [e7]; exact (if_neg (fun z => absurd z.2 (by decide))).trans ((t6.2.2.2.1 0).trans qr50)
          have qr71 : sj_r w7 q 1 = p2 := by rw [e7]; exact (if_neg (fun z => absurd z.2 (by decide))).trans ((t6.2.2.2.1 1).trans qr51)
          have qr72 : sj_r w7 q 2 = p3 := by rw [e7]; exact if_pos ⟨rfl, rfl⟩
          have o17 : sj_Wo w7 p1 (sj_wn σ i) (sj_wx σ k i) := by rw [e7]; exact o16
          have o27 : sj_Wo w7 p2 (sj_wn σ j) (sj_wx σ k j) := by rw [e7]; exact o26
          have o37 : sj_Wo w7 p3 (sj_wn σ l) (sj_wx σ k l) := by rw [e7]; exact o3
          clear e7
          rw [if_pos ⟨fi, fj, fl⟩] at h
          have hWa : sj_Wa w7 q (fun t => if t = 0 then sj_wn σ i else if t = 1 then sj_wn σ j else sj_wn σ l) (fun t => if t = 0 then sj_wx σ k i else if t = 1 then sj_wx σ k j else sj_wx σ k l) := by
            refine ⟨qT7, qN7, fun t ht => ?_⟩
            have e : t = 0 ∨ t = 1 ∨ t = 2 := by omega
            rcases e with rfl | rfl | rfl
            · rw [qr70]; exact ⟨p10, o17⟩
            · rw [qr71]; exact ⟨p20, o27⟩
            · rw [qr72]; exact ⟨p30, o37⟩
          refine pc_holds hk4 hWa (fun t s ht hs => ?_) (fun w8 f8 => ⟨Or.inr rfl, so_k h (f7.trans f8).no (hC.no (f7.trans f8)) rfl⟩)
          have e : t = 0 ∨ t = 1 ∨ t = 2 := by omega
          rcases e with rfl | rfl | rfl
          · exact hin i hi12 fi s hs
          · exact hin j hj12 fj s hs
          · exact hin l hl12 fl s hs
        · rw [if_neg (fun z => nf z.2.2)] at h
          exact so_e h (by decide) f5.no hC5
      · rw [if_neg (fun z => nf z.2.1)] at h
        exact so_e h (by decide) f3.no hC3
    · rw [if_neg (fun z => nf z.1)] at h
      exact so_e h (by decide) f1.no hC1
  · simp only [hk, hi, hj, hl] at h
    exact so_e h (by decide) sj_fr.rf hC
  · simp only [hk, hi, hj] at h
    exact so_e h (by decide) sj_fr.rf hC
  · simp only [hk, hi] at h
    exact so_e h (by decide) sj_fr.rf hC
  · simp only [hk] at h
    exact so_e h (by decide) sj_fr.rf hC

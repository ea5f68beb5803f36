/-! THE THEOREM OF A ROW, (4): what endings in order have alike -/
theorem sj_elt_chain {u : Bool} {n a b c : Nat} {f : Nat → Int64} (h1 : sj_elt u n f a b) (h2 : sj_elt u n f b c) : sj_ls n f a c = min (sj_ls n f a b) (sj_ls n f b c) := sj_lcp_chain (u := u) (fun z => sj_elt_as h1 z) (fun z => sj_elt_as h2 z)
theorem sj_ls_comm {n i j : Nat} {f : Nat → Int64} : sj_ls n f i j = sj_ls n f j i := sj_lcp_comm _ _ _ _
theorem sj_le_mx {f : Nat → Nat} {i : Nat} : ∀ n, i < n → f i ≤ sj_mx f n
  | 0, h => absurd h (Nat.not_lt_zero _)
  | n + 1, h => by
    show f i ≤ if _ then _ else _
    by_cases e : i = n
    · subst e
      split <;> omega
    · have := sj_le_mx (f := f) n (show i < n by omega)
      split <;> omega
/-- the sum over neighbours -/
def sj_adB (g : Nat → Nat → Nat) (lx : Nat → Nat) (k : Nat) : Nat := if k = 0 then 0 else g (lx (k - 1)) (lx k)
def sj_ad (g : Nat → Nat → Nat) (lx : Nat → Nat) : Nat → Nat := sj_sum (sj_adB g lx)
theorem sj_ad_s (g : Nat → Nat → Nat) (lx : Nat → Nat) (k : Nat) : sj_ad g lx (k + 1) = sj_ad g lx k + sj_adB g lx k := rfl
theorem sj_ad_congr {g : Nat → Nat → Nat} {lx ly : Nat → Nat} : ∀ m, (∀ j, j < m → lx j = ly j) → sj_ad g lx m = sj_ad g ly m
  | 0, _ => rfl
  | m + 1, h => by
    rw [sj_ad_s, sj_ad_s, sj_ad_congr m (fun j hj => h j (by omega))]
    congr 1
    unfold sj_adB
    by_cases e : m = 0
    · rw [if_pos e, if_pos e]
    · rw [if_neg e, if_neg e, h m (by omega), h (m - 1) (by omega)]
def sj_ins (lx : Nat → Nat) (p m : Nat) : Nat → Nat := fun j => if j < p then lx j else if j = p then m else lx (j - 1)
theorem sj_ins_lt {lx : Nat → Nat} {p m j : Nat} (h : j < p) : sj_ins lx p m j = lx j := if_pos h
theorem sj_ins_eq {lx : Nat → Nat} {p m : Nat} : sj_ins lx p m p = m := (if_neg (Nat.lt_irrefl _)).trans (if_pos rfl)
theorem sj_ins_gt {lx : Nat → Nat} {p m j : Nat} (h : p < j) : sj_ins lx p m j = lx (j - 1) := (if_neg (by omega)).trans (if_neg (by omega))
theorem sj_ad_pre {g : Nat → Nat → Nat} {lx : Nat → Nat} {p m : Nat} : sj_ad g (sj_ins lx p m) (p + 1) = sj_ad g lx p + (if p = 0 then 0 else g (lx (p - 1)) m) := by
  rw [sj_ad_s, sj_ad_congr (ly := lx) p (fun j hj => sj_ins_lt hj)]
  congr 1
  unfold sj_adB
  by_cases e : p = 0
  · rw [if_pos e, if_pos e]
  · rw [if_neg e, if_neg e, sj_ins_eq, sj_ins_lt (by omega)]
theorem sj_ad_ins {g : Nat → Nat → Nat} {lx : Nat → Nat} {p m : Nat} : ∀ d, sj_ad g (sj_ins lx p m) (p + 2 + d) + sj_adB g lx p = sj_ad g lx (p + 1 + d) + (if p = 0 then 0 else g (lx (p - 1)) m) + g m (lx p)
  | 0 => by
    have e1 : sj_adB g (sj_ins lx p m) (p + 1) = g m (lx p) := by
      unfold sj_adB
      rw [if_neg (by omega), Nat.add_sub_cancel, sj_ins_eq, sj_ins_gt (by omega), Nat.add_sub_cancel]
    show sj_ad g (sj_ins lx p m) (p + 1 + 1) + _ = sj_ad g lx (p + 1) + _ + _
    rw [sj_ad_s, sj_ad_pre, e1, sj_ad_s]
    omega
  | d + 1 => by
    have ih := sj_ad_ins (g := g) (lx := lx) (p := p) (m := m) d
    have e1 : sj_adB g (sj_ins lx p m) (p + 2 + d) = sj_adB g lx (p + 1 + d) := by
      unfold sj_adB
      rw [if_neg (by omega), if_neg (by omega), sj_ins_gt (by omega), sj_ins_gt (by omega)]
      have a1 : p + 2 + d - 1 - 1 = p + 1 + d - 1 := by omega
      have a2 : p + 2 + d - 1 = p + 1 + d := by omega
      rw [a1, a2]
    show sj_ad g (sj_ins lx p m) (p + 2 + d + 1) + _ = sj_ad g lx (p + 1 + d + 1) + _ + _
    rw [sj_ad_s, sj_ad_s, e1]
    omega
/-- by how much a new one raises the sum -/
theorem sj_ma_ins {u : Bool} {n m p : Nat} {f : Nat → Int64} {lx : Nat → Nat} (hs : sj_isSort sj_tt (sj_elt u n f) m m lx) (hp : p ≤ m) (hlt : 0 < p → sj_elt u n f (lx (p - 1)) m) (hgt : ∀ j, p ≤ j → j < m → sj_elt u n f m (lx j)) :
    sj_ma n f m = max (if p = 0 then 0 else sj_ls n f (lx (p - 1)) m) (if p = m then 0 else sj_ls n f m (lx p)) := by
  refine Nat.le_antisymm (sj_mx_le m fun a ha => ?_) ?_
  · obtain ⟨j, hj, e⟩ := hs.2.2 a ha trivial
    subst e
    show sj_ls n f (lx j) m ≤ _
    by_cases c : j < p
    · rw [if_neg (show ¬ p = 0 by omega)]
      by_cases c2 : j = p - 1
      · subst c2
        omega
      · have h1 := hs.2.1 j (p - 1) (by omega) (by omega)
        have h2 := sj_elt_chain h1 (hlt (by omega))
        omega
    · rw [if_neg (show ¬ p = m by omega), sj_ls_comm]
      by_cases c2 : j = p
      · subst c2
        omega
      · have h1 := hs.2.1 p j (by omega) hj
        have h2 := sj_elt_chain (hgt p (Nat.le_refl _) (by omega)) h1
        omega
  · by_cases c : p = 0
    · rw [if_pos c]
      by_cases c2 : p = m
      · rw [if_pos c2]
        omega
      · rw [if_neg c2]
        have h1 : sj_ls n f (lx p) m ≤ sj_ma n f m := sj_le_mx (f := fun a => sj_ls n f a m) m (hs.1 p (by omega)).1
        rw [sj_ls_comm] at h1
        omega
    · rw [if_neg c]
      have h0 : sj_ls n f (lx (p - 1)) m ≤ sj_ma n f m := sj_le_mx (f := fun a => sj_ls n f a m) m (hs.1 (p - 1) (by omega)).1
      by_cases c2 : p = m
      · rw [if_pos c2]
        omega
      · rw [if_neg c2]
        have h1 : sj_ls n f (lx p) m ≤ sj_ma n f m := sj_le_mx (f := fun a => sj_ls n f a m) m (hs.1 p (by omega)).1
        rw [sj_ls_comm] at h1
        omega
theorem sj_ad_ma (u : Bool) (n : Nat) (f : Nat → Int64) : ∀ m, m ≤ n → ∃ lx, sj_isSort sj_tt (sj_elt u n f) m m lx ∧ sj_ad (sj_ls n f) lx m = sj_sum (sj_ma n f) m
  | 0, _ => ⟨fun _ => 0, ⟨fun j hj => absurd hj (Nat.not_lt_zero _), fun i j _ hj => absurd hj (Nat.not_lt_zero _), fun k hk => absurd hk (Nat.not_lt_zero _)⟩, rfl⟩
  | m + 1, hm => by
    obtain ⟨lx, hs, hsum⟩ := sj_ad_ma u n f m (by omega)
    obtain ⟨p, p1, p2, p3⟩ := sj_ins_at (lt := sj_elt u n f) (m := m) (ln := m) (lx := lx) (fun j hj => sj_elt_tot (by have := (hs.1 j hj).1; omega) (by omega) (by have := (hs.1 j hj).1; omega)) m (Nat.le_refl _) (fun j a b => by omega)
    refine ⟨sj_ins lx p m, sj_sort_ins hs p1 trivial (fun a b c => sj_elt_tr a b c) p2 p3, ?_⟩
    have e := sj_ma_ins hs p1 p2 p3
    show sj_ad (sj_ls n f) (sj_ins lx p m) (m + 1) = sj_sum (sj_ma n f) m + sj_ma n f m
    rw [← hsum, e]
    by_cases c : p = m
    · subst c
      rw [sj_ad_pre, if_pos rfl]
      omega
    · rw [if_neg c]
      have h1 := sj_ad_ins (g := sj_ls n f) (lx := lx) (p := p) (m := m) (m - p - 1)
      have e1 : p + 2 + (m - p - 1) = m + 1 := by omega
      have e2 : p + 1 + (m - p - 1) = m := by omega
      rw [e1, e2] at h1
      unfold sj_adB at h1
      by_cases c0 : p = 0
      · rw [if_pos c0] at h1 ⊢
        rw [if_pos c0] at h1
        omega
      · rw [if_neg c0] at h1 ⊢
        rw [if_neg c0] at h1
        have h2 := sj_elt_chain (p2 (by omega)) (p3 p (Nat.le_refl _) (by omega))
        omega
theorem sj_sort_uniq {u : Bool} {n m : Nat} {f : Nat → Int64} {lx ly : Nat → Nat} (h : sj_isSort sj_tt (sj_elt u n f) m m lx) (h2 : sj_isSort sj_tt (sj_elt u n f) m m ly) : ∀ j, j < m → lx j = ly j := by
  intro j hj
  obtain ⟨b, hb, e⟩ := h2.2.2 (lx j) (h.1 j hj).1 trivial
  have r1 := sj_sort_rank h (fun i _ => sj_elt_irr) (fun i j _ _ => sj_elt_as) hj (p := fun i => sj_eltB u n f i (lx j)) (fun i _ => ⟨fun z => ⟨trivial, sj_eltB_iff.mp z⟩, fun z => sj_eltB_iff.mpr z.2⟩)
  have r2 := sj_sort_rank h2 (fun i _ => sj_elt_irr) (fun i j _ _ => sj_elt_as) hb (p := fun i => sj_eltB u n f i (ly b)) (fun i _ => ⟨fun z => ⟨trivial, sj_eltB_iff.mp z⟩, fun z => sj_eltB_iff.mpr z.2⟩)
  rw [e, r1] at r2
  subst r2
  exact e.symm
theorem sj_sum_sub {g h : Nat → Nat} : ∀ m, (∀ i, i < m → h i ≤ g i) → sj_sum (fun i => g i - h i) m + sj_sum h m = sj_sum g m
  | 0, _ => rfl
  | m + 1, hl => by
    have ih := sj_sum_sub m (fun i hi => hl i (by omega))
    have e := hl m (by omega)
    show sj_sum (fun i => g i - h i) m + (g m - h m) + (sj_sum h m + h m) = sj_sum g m + g m
    omega
theorem sj_tri : ∀ n, n < 33 → sj_sum (fun i => n - i) n = n * (n + 1) / 2 := by decide +kernel
/-- (4) -/
theorem sj_four {u : Bool} {n : Nat} {f : Nat → Int64} {lx : Nat → Nat} (hn : n ≤ 32) (hs : sj_isSort sj_tt (sj_elt u n f) n n lx) : sj_dis n f + sj_ad (sj_ls n f) lx n = n * (n + 1) / 2 := by
  obtain ⟨ly, hy, e⟩ := sj_ad_ma u n f n (Nat.le_refl _)
  rw [sj_ad_congr n (sj_sort_uniq hs hy), e, ← sj_tri n (by omega)]
  exact sj_sum_sub (g := fun i => n - i) (h := sj_ma n f) n (fun i _ => sj_ma_le)
/-! (5): two periods -/
theorem sj_per_mod {n p : Nat} {f : Nat → Int64} (hp : 0 < p) : sj_per n f p = true ↔ ∀ i, i < n → f i = f (i % p) := by
  rw [sj_per_iff]
  constructor
  · intro h i
    induction i using Nat.strongRecOn with
    | ind i ih =>
      intro hi
      by_cases c : i < p
      · rw [Nat.mod_eq_of_lt c]
      · rw [h i (by omega) hi, ih (i - p) (by omega) (by omega), ← Nat.mod_eq_sub_mod (by omega)]
  · intro h j h1 h2
    rw [h j h2, h (j - p) (by omega), ← Nat.mod_eq_sub_mod h1]
theorem sj_fw {f : Nat → Int64} : ∀ (s n p q : Nat), p + q ≤ s → 0 < q → q ≤ p → p + q - Nat.gcd p q ≤ n → sj_per n f p = true → sj_per n f q = true → sj_per n f (Nat.gcd p q) = true
  | 0, n, p, q, hs, h0, _, _, _, _ => absurd hs (by omega)
  | s + 1, n, p, q, hs, h0, hqp, hn, h1, h2 => by
    by_cases c : p = q
    · subst c
      rw [Nat.gcd_self]
      exact h1
    · have hg1 : Nat.gcd p q ∣ q := Nat.gcd_dvd_right p q
      have hgp : Nat.gcd p q ∣ p := Nat.gcd_dvd_left p q
      have hgpq : Nat.gcd p q ∣ p - q := Nat.dvd_sub hgp hg1
      have g0 : 0 < Nat.gcd p q := Nat.gcd_pos_of_pos_right p h0
      have gq : Nat.gcd p q ≤ q := Nat.le_of_dvd h0 hg1
      have gpq : Nat.gcd p q ≤ p - q := Nat.le_of_dvd (by omega) hgpq
      have e : Nat.gcd (p - q) q = Nat.gcd p q := by
        have t : p = (p - q) + q := by omega
        conv => rhs; rw [t]
        exact (Nat.gcd_add_self_left _ _).symm
      have w1 : sj_per (n - q) f (p - q) = true := sj_per_iff.mpr fun j a b => by
        have y1 := sj_per_iff.mp h2 (j + q) (by omega) (by omega)
        have y2 := sj_per_iff.mp h1 (j + q) (by omega) (by omega)
        rw [Nat.add_sub_cancel] at y1
        rw [← y1, y2]
        congr 1
        omega
      have w2 : sj_per (n - q) f q = true := sj_per_iff.mpr fun j a b => sj_per_iff.mp h2 j a (by omega)
      have key : sj_per (n - q) f (Nat.gcd p q) = true := by
        by_cases c2 : q ≤ p - q
        · have r := sj_fw (f := f) s (n - q) (p - q) q (by omega) h0 c2 (by rw [e]; omega) w1 w2
          rw [e] at r
          exact r
        · have r := sj_fw (f := f) s (n - q) q (p - q) (by omega) (by omega) (by omega) (by rw [Nat.gcd_comm, e]; omega) w2 w1
          rw [Nat.gcd_comm, e] at r
          exact r
      rw [sj_per_mod g0] at key ⊢
      rw [sj_per_mod h0] at h2
      intro i hi
      have r1 : i % q < q := Nat.mod_lt _ h0
      rw [h2 i hi, key (i % q) (by omega), Nat.mod_mod_of_dvd _ hg1]
theorem sj_per_same {u : Bool} {n p : Nat} {f : Nat → Int64} (hp : p ≤ n) : sj_wc u (n - p) (sj_sf f 0) (n - p) (sj_sf f p) = nI 0 ↔ sj_per n f p = true := by
  rw [sj_wc0, sj_per_iff]
  constructor
  · rintro ⟨_, h⟩ j h1 h2
    have t : f (0 + (j - p)) = f (p + (j - p)) := h (j - p) (by omega)
    have e : p + (j - p) = j := by omega
    rw [Nat.zero_add, e] at t
    exact t.symm
  · intro h
    refine ⟨rfl, fun j hj => ?_⟩
    show f (0 + j) = f (p + j)
    rw [h (p + j) (by omega) (by omega), Nat.add_sub_cancel_left, Nat.zero_add]
/-! (6): the factors -/
def sj_lyn (u : Bool) (f : Nat → Int64) (a b : Nat) : Prop := a < b ∧ ∀ l, a < l → l < b → sj_elt u b f a l
theorem sj_find_spec {p : Nat → Bool} : ∀ d c, c ≤ sj_find p d c ∧ sj_find p d c ≤ c + d ∧ (∀ j, c ≤ j → j < sj_find p d c → p j = false) ∧ (sj_find p d c < c + d → p (sj_find p d c) = true)
  | 0, c => (show c ≤ c ∧ c ≤ c + 0 ∧ (∀ j, c ≤ j → j < c → p j = false) ∧ (c < c + 0 → p c = true) from ⟨Nat.le_refl _, Nat.le_refl _, fun j a b => absurd a (by omega), fun z => absurd z (Nat.lt_irrefl _)⟩)
  | d + 1, c => by
    unfold sj_find
    by_cases e : p c = true
    · rw [if_pos e]
      exact ⟨Nat.le_refl _, by omega, fun j a b => absurd a (by omega), fun _ => e⟩
    · rw [if_neg e]
      obtain ⟨h1, h2, h3, h4⟩ := sj_find_spec (p := p) d (c + 1)
      refine ⟨by omega, by omega, fun j a b => ?_, fun z => h4 (by omega)⟩
      by_cases e2 : j = c
      · rw [e2]; exact Bool.eq_false_iff.mpr e
      · exact h3 j (by omega) b
/-- the next lesser ending -/
def sj_nx (u : Bool) (n : Nat) (f : Nat → Int64) (i : Nat) : Nat := sj_find (fun q => sj_eltB u n f q i) (n - (i + 1)) (i + 1)
theorem sj_elt_n {u : Bool} {n i : Nat} {f : Nat → Int64} (h : i < n) : sj_elt u n f n i := ⟨0, by omega, by omega, fun j hj => absurd hj (Nat.not_lt_zero _), fun z => absurd z (by omega)⟩
theorem sj_nx_spec {u : Bool} {n i : Nat} {f : Nat → Int64} (h : i < n) : i < sj_nx u n f i ∧ sj_nx u n f i ≤ n ∧ (∀ j, i < j → j < sj_nx u n f i → sj_elt u n f i j) ∧ sj_elt u n f (sj_nx u n f i) i := by
  obtain ⟨h1, h2, h3, h4⟩ := sj_find_spec (p := fun q => sj_eltB u n f q i) (n - (i + 1)) (i + 1)
  change i + 1 ≤ sj_nx u n f i at h1
  change sj_nx u n f i ≤ i + 1 + (n - (i + 1)) at h2
  change ∀ j, i + 1 ≤ j → j < sj_nx u n f i → sj_eltB u n f j i = false at h3
  change sj_nx u n f i < i + 1 + (n - (i + 1)) → sj_eltB u n f (sj_nx u n f i) i = true at h4
  generalize sj_nx u n f i = r at h1 h2 h3 h4 ⊢
  refine ⟨by omega, by omega, fun j a b => ?_, ?_⟩
  · have e := h3 j (by omega) b
    rcases sj_elt_tot (u := u) (n := n) (f := f) (i := i) (j := j) (by omega) (by omega) (by omega) with z | z
    · exact z
    · rw [sj_eltB_iff.mpr z] at e
      cases e
  · by_cases c : r = n
    · rw [c]
      exact sj_elt_n h
    · exact sj_eltB_iff.mp (h4 (by omega))
theorem sj_nx_uniq {u : Bool} {n i r : Nat} {f : Nat → Int64} (h1 : i < r) (h2 : r ≤ n) (h3 : ∀ j, i < j → j < r → sj_elt u n f i j) (h4 : sj_elt u n f r i) : r = sj_nx u n f i := by
  obtain ⟨k1, k2, k3, k4⟩ := sj_nx_spec (u := u) (f := f) (show i < n by omega)
  rcases Nat.lt_trichotomy r (sj_nx u n f i) with c | c | c
  · exact (sj_elt_as h4 (k3 r h1 c)).elim
  · exact c
  · exact (sj_elt_as k4 (h3 _ k1 c)).elim
theorem sj_ways_l {u : Bool} {n a : Nat} {f : Nat → Int64} (h : a < n) : sj_lyn u f a (sj_nx u n f a) := by
  obtain ⟨k1, k2, k3, k4⟩ := sj_nx_spec (u := u) (f := f) h
  generalize sj_nx u n f a = q at k1 k2 k3 k4 ⊢
  refine ⟨k1, fun l h1 h2 => ?_⟩
  rcases sj_elt_tot (u := u) (f := f) (n := q) (i := a) (j := l) (by omega) (by omega) (by omega) with z | z
  · exact z
  · exfalso
    have hal := k3 l h1 h2
    obtain ⟨d, d1, d2, d3, d4⟩ := z
    by_cases c : d < q - l
    · exact sj_elt_as hal ⟨d, by omega, by omega, d3, fun _ => d4 c⟩
    · have ed : d = q - l := by omega
      have s := sj_elt_strip (d := d) hal (fun j hj => (d3 j hj).symm) (by omega) (by omega)
      have e2 : l + d = q := by omega
      rw [e2] at s
      exact sj_elt_as (sj_elt_tr _ _ _ (k3 (a + d) (by omega) (by omega)) s) k4
theorem sj_ways_g {u : Bool} {n a : Nat} {f : Nat → Int64} (h : a < n) (hq : sj_nx u n f a < n) : ¬ sj_wlt u (sj_nx u n f a - a) (sj_sf f a) (sj_nx u n f (sj_nx u n f a) - sj_nx u n f a) (sj_sf f (sj_nx u n f a)) := by
  obtain ⟨k1, k2, k3, k4⟩ := sj_nx_spec (u := u) (f := f) h
  obtain ⟨r1, r2, r3, r4⟩ := sj_nx_spec (u := u) (f := f) hq
  generalize sj_nx u n f (sj_nx u n f a) = r at r1 r2 r3 r4 ⊢
  generalize sj_nx u n f a = q at k1 k2 k3 k4 r1 r2 r3 r4 hq ⊢
  rintro ⟨d, d1, d2, d3, d4⟩
  by_cases c : d < q - a
  · exact sj_elt_as k4 ⟨d, by omega, by omega, d3, fun _ => d4 c⟩
  · have ed : d = q - a := by omega
    have s := sj_elt_strip (d := d) k4 (fun j hj => (d3 j hj).symm) (by omega) (by omega)
    have e2 : a + d = q := by omega
    rw [e2] at s
    exact sj_elt_as s (r3 (q + d) (by omega) (by omega))
theorem sj_lyn_elt {u : Bool} {n a b : Nat} {f : Nat → Int64} (h : sj_lyn u f a b) (hb : b ≤ n) : ∀ l, a < l → l < b → sj_elt u n f a l := by
  intro l h1 h2
  obtain ⟨d, d1, d2, d3, d4⟩ := h.2 l h1 h2
  exact ⟨d, by omega, by omega, d3, fun _ => d4 (by omega)⟩
/-- no ending inside is less than the one behind the next part -/
theorem sj_ways_no {u : Bool} {n a b r : Nat} {f : Nat → Int64} (hl : sj_lyn u f a b) (hb : b < r) (hr : r ≤ n) (hrb : sj_elt u n f r b) (hw : ¬ sj_wlt u (b - a) (sj_sf f a) (r - b) (sj_sf f b)) : ∀ s p, b - p ≤ s → a < p → p < b → ¬ sj_elt u n f p r
  | 0, p, h0, _, h2 => absurd h0 (by omega)
  | s + 1, p, h0, h1, h2 => by
    intro hpr
    have hpb := sj_elt_tr _ _ _ hpr hrb
    have h3 : sj_wlt u (b - a) (sj_sf f a) (b - p) (sj_sf f p) := hl.2 p h1 h2
    have h4 : sj_wlt u (r - b) (sj_sf f b) (b - p) (sj_sf f p) := by
      rcases sj_w_tot u (b - a) (sj_sf f a) (r - b) (sj_sf f b) with z | z | z
      · exact sj_wlt_l (sj_weq_s z) h3
      · exact absurd z hw
      · exact sj_wlt_tr z h3
    obtain ⟨e, e1, e2, e3, e4⟩ := h4
    by_cases c : e < r - b
    · exact sj_elt_as hpb ⟨e, by omega, by omega, e3, fun _ => e4 c⟩
    · have ee : e = r - b := by omega
      have t := sj_elt_strip (d := e) hpb (fun j hj => (e3 j hj).symm) (by omega) (by omega)
      have e5 : b + e = r := by omega
      rw [e5] at t
      exact sj_ways_no hl hb hr hrb hw s (p + e) (by omega) (by omega) (by omega) t
theorem sj_ways_r {u : Bool} {n a b : Nat} {f : Nat → Int64} (hl : sj_lyn u f a b) (hb : b ≤ n) (hw : b = n ∨ ¬ sj_wlt u (b - a) (sj_sf f a) (sj_nx u n f b - b) (sj_sf f b)) : b = sj_nx u n f a := by
  have hab := hl.1
  refine sj_nx_uniq hab hb (sj_lyn_elt hl hb) ?_
  rcases hw with e | hw
  · rw [e]
    exact sj_elt_n (by omega)
  · by_cases c0 : b = n
    · rw [c0]
      exact sj_elt_n (by omega)
    · obtain ⟨r1, r2, r3, r4⟩ := sj_nx_spec (u := u) (f := f) (show b < n by omega)
      generalize sj_nx u n f b = r at r1 r2 r3 r4 hw
      rcases sj_elt_tot (u := u) (f := f) (n := n) (i := b) (j := a) (by omega) (by omega) (by omega) with z | z
      · exact z
      · exfalso
        obtain ⟨d, d1, d2, d3, d4⟩ := id z
        have hv : r - b ≤ d ∧ r - b ≤ b - a := by
          refine ⟨Nat.le_of_not_lt fun y => ?_, Nat.le_of_not_lt fun y => ?_⟩
          · by_cases c : d < b - a
            · exact hw ⟨d, by omega, by omega, d3, fun _ => d4 (by omega)⟩
            · exact hw ⟨b - a, by omega, by omega, fun j hj => d3 j (by omega), fun z => absurd z (by omega)⟩
          · by_cases c : d < b - a
            · exact hw ⟨d, by omega, by omega, d3, fun _ => d4 (by omega)⟩
            · exact hw ⟨b - a, by omega, by omega, fun j hj => d3 j (by omega), fun z => absurd z (by omega)⟩
        have t := sj_elt_strip (d := r - b) z (fun j hj => d3 j (by omega)) (by omega) (by omega)
        have e5 : b + (r - b) = r := by omega
        rw [e5] at t
        by_cases c : a + (r - b) = b
        · rw [c] at t
          exact sj_elt_as t r4
        · exact sj_ways_no hl r1 r2 r4 hw _ (a + (r - b)) (Nat.le_refl _) (by omega) (by omega) t
/-- the end of a factor -/
def sj_fe (u : Bool) (n : Nat) (f : Nat → Int64) (j : Nat) : Nat := if j + 1 < sj_cnt (sj_pm u n f) n then sj_fb u n f (j + 1) else n
theorem sj_seg {u : Bool} {n j : Nat} {f : Nat → Int64} (h : j < sj_cnt (sj_pm u n f) n) : sj_fb u n f j < sj_fe u n f j ∧ sj_fe u n f j ≤ n ∧ sj_cut u n f (sj_fe u n f j) ∧ ∀ k, k < sj_fe u n f j → k ≠ sj_fb u n f j → sj_elt u n f (sj_fb u n f j) k := by
  obtain ⟨b1, b2, b3⟩ := sj_fb_ok h
  have he : sj_fe u n f j ≤ n ∧ (sj_fe u n f j = n ∨ sj_pm u n f (sj_fe u n f j) = true) ∧ sj_cnt (sj_pm u n f) (sj_fe u n f j) = j + 1 := by
    unfold sj_fe
    by_cases c : j + 1 < sj_cnt (sj_pm u n f) n
    · rw [if_pos c]
      obtain ⟨c1, c2, c3⟩ := sj_fb_ok c
      exact ⟨by omega, Or.inr c2, c3⟩
    · rw [if_neg c]
      exact ⟨Nat.le_refl _, Or.inl rfl, by omega⟩
  generalize sj_fe u n f j = x at he ⊢
  obtain ⟨e1, e2, e3⟩ := he
  have x0 : 0 < x := by
    rcases Nat.eq_zero_or_pos x with z | z
    · rw [z] at e3
      exact absurd e3 (by show ¬ 0 = j + 1; omega)
    · exact z
  have hcut : sj_cut u n f x := by
    by_cases e : x = n
    · exact Or.inl e
    · exact Or.inr (sj_pm_cut (by omega) (e2.elim (fun z => absurd z e) id))
  obtain ⟨m, rfl⟩ : ∃ m, x = m + 1 := ⟨x - 1, by omega⟩
  obtain ⟨h1, h2⟩ := sj_pm_best (u := u) (n := n) (f := f) m
  have h3 := sj_best_le (sj_eltB u n f) m
  have eb : sj_best (sj_eltB u n f) m = sj_fb u n f j := by
    rcases Nat.lt_trichotomy (sj_best (sj_eltB u n f) m) (sj_fb u n f j) with z | z | z
    · have := sj_cnt_lt h1 _ z; omega
    · exact z
    · have := sj_cnt_lt b2 _ z; omega
  rw [← eb]
  exact ⟨by omega, e1, hcut, fun k hk hne => sj_best_min m (by omega) k (by omega) hne⟩
theorem sj_seg_lyn {u : Bool} {n j : Nat} {f : Nat → Int64} (h : j < sj_cnt (sj_pm u n f) n) : sj_lyn u f (sj_fb u n f j) (sj_fe u n f j) := by
  obtain ⟨s1, s2, s3, s4⟩ := sj_seg h
  exact ⟨s1, fun l h1 h2 => sj_cut_min s2 s3 s1 s4 l h2 (by omega)⟩
theorem sj_seg_ge {u : Bool} {n j : Nat} {f : Nat → Int64} (h : j + 1 < sj_cnt (sj_pm u n f) n) : ¬ sj_wlt u (sj_fe u n f j - sj_fb u n f j) (sj_sf f (sj_fb u n f j)) (sj_fe u n f (j + 1) - sj_fe u n f j) (sj_sf f (sj_fe u n f j)) := by
  obtain ⟨s1, s2, s3, s4⟩ := sj_seg (u := u) (f := f) (show j < sj_cnt (sj_pm u n f) n by omega)
  obtain ⟨t1, t2, t3, t4⟩ := sj_seg h
  obtain ⟨b1, b2, b3⟩ := sj_fb_ok h
  have e : sj_fe u n f j = sj_fb u n f (j + 1) := if_pos h
  rw [e] at s1 s2 s3 s4 ⊢
  have hcut : ∀ k, k < sj_fb u n f (j + 1) → sj_elt u n f (sj_fb u n f (j + 1)) k := sj_pm_cut b1 b2
  generalize sj_fb u n f (j + 1) = q at *
  generalize sj_fb u n f j = p at *
  generalize sj_fe u n f (j + 1) = r at *
  rintro ⟨d, d1, d2, d3, d4⟩
  have hqp := hcut p s1
  by_cases c : d < q - p
  · exact sj_elt_as hqp ⟨d, by omega, by omega, d3, fun _ => d4 c⟩
  · have ed : d = q - p := by omega
    have s := sj_elt_strip (d := d) hqp (fun j hj => (d3 j hj).symm) (by omega) (by omega)
    have e2 : p + d = q := by omega
    rw [e2] at s
    exact sj_elt_as s (t4 (q + d) (by omega) (by omega))
theorem sj_seg_last {u : Bool} {n : Nat} {f : Nat → Int64} {lx : Nat → Nat} (hn : 0 < n) (hs : sj_isSort sj_tt (sj_elt u n f) n n lx) : sj_fb u n f (sj_cnt (sj_pm u n f) n - 1) = lx 0 := by
  have hc : 0 < sj_cnt (sj_pm u n f) n := by
    have h1 := sj_cnt_up (p := sj_pm u n f) (a := 1) n hn
    have h2 : sj_cnt (sj_pm u n f) 1 = 1 := rfl
    omega
  obtain ⟨s1, s2, s3, s4⟩ := sj_seg (u := u) (f := f) (show sj_cnt (sj_pm u n f) n - 1 < sj_cnt (sj_pm u n f) n by omega)
  have e : sj_fe u n f (sj_cnt (sj_pm u n f) n - 1) = n := if_neg (by omega)
  rw [e] at s1 s4
  refine Classical.byContradiction fun ne => ?_
  have h1 := s4 (lx 0) (hs.1 0 hn).1 (fun z => ne z.symm)
  obtain ⟨b, hb, eb⟩ := hs.2.2 _ s1 trivial
  have b0 : b ≠ 0 := fun z => ne (by rw [← eb, z])
  have h2 := hs.2.1 0 b (by omega) hb
  rw [eb] at h2
  exact sj_elt_as h1 h2

/-! THE ORDER OF WORDS -/
def sj_wlt (u : Bool) (n : Nat) (f : Nat → Int64) (m : Nat) (g : Nat → Int64) : Prop := ∃ p, p ≤ n ∧ p < m ∧ (∀ j, j < p → f j = g j) ∧ (p < n → sj_key u (f p) < sj_key u (g p))
def sj_weq (n : Nat) (f : Nat → Int64) (m : Nat) (g : Nat → Int64) : Prop := n = m ∧ ∀ j, j < n → f j = g j
theorem sj_wlt_irr {u : Bool} {n m : Nat} {f g : Nat → Int64} (h : sj_wlt u n f m g) (e : sj_weq n f m g) : False := by
  obtain ⟨p, h1, h2, h3, h4⟩ := h
  obtain ⟨rfl, e2⟩ := e
  have := h4 h2
  rw [e2 p h2] at this
  omega
theorem sj_wlt_asym {u : Bool} {n m : Nat} {f g : Nat → Int64} (h : sj_wlt u n f m g) (k : sj_wlt u m g n f) : False := by
  obtain ⟨p, h1, h2, h3, h4⟩ := h
  obtain ⟨q, k1, k2, k3, k4⟩ := k
  rcases Nat.lt_trichotomy p q with c | c | c
  · have a := h4 (by omega)
    rw [k3 p c] at a
    omega
  · subst c
    have a := h4 (by omega)
    have b := k4 (by omega)
    omega
  · have a := k4 (by omega)
    rw [h3 q c] at a
    omega
theorem sj_wlt_tr {u : Bool} {n m l : Nat} {f g h : Nat → Int64} (a : sj_wlt u n f m g) (b : sj_wlt u m g l h) : sj_wlt u n f l h := by
  obtain ⟨p, h1, h2, h3, h4⟩ := a
  obtain ⟨q, k1, k2, k3, k4⟩ := b
  rcases Nat.lt_trichotomy p q with c | c | c
  · refine ⟨p, h1, by omega, fun j hj => (h3 j hj).trans (k3 j (by omega)), fun z => ?_⟩
    rw [← k3 p c]; exact h4 z
  · subst c
    refine ⟨p, h1, k2, fun j hj => (h3 j hj).trans (k3 j hj), fun z => ?_⟩
    have a := h4 z
    have b := k4 (by omega)
    omega
  · refine ⟨q, by omega, k2, fun j hj => (h3 j (by omega)).trans (k3 j hj), fun z => ?_⟩
    rw [h3 q c]; exact k4 (by omega)
theorem sj_weq_r {n : Nat} {f : Nat → Int64} : sj_weq n f n f := ⟨rfl, fun _ _ => rfl⟩
theorem sj_weq_s {n m : Nat} {f g : Nat → Int64} (h : sj_weq n f m g) : sj_weq m g n f := by
  obtain ⟨rfl, e⟩ := h
  exact ⟨rfl, fun j hj => (e j hj).symm⟩
theorem sj_weq_t {n m l : Nat} {f g h : Nat → Int64} (a : sj_weq n f m g) (b : sj_weq m g l h) : sj_weq n f l h := by
  obtain ⟨rfl, e⟩ := a
  obtain ⟨rfl, e2⟩ := b
  exact ⟨rfl, fun j hj => (e j hj).trans (e2 j hj)⟩
theorem sj_wlt_l {u : Bool} {n m l : Nat} {f g h : Nat → Int64} (e : sj_weq n f m g) (a : sj_wlt u m g l h) : sj_wlt u n f l h := by
  obtain ⟨rfl, e⟩ := e
  obtain ⟨p, h1, h2, h3, h4⟩ := a
  refine ⟨p, h1, h2, fun j hj => (e j (by omega)).trans (h3 j hj), fun z => ?_⟩
  rw [e p z]; exact h4 z
theorem sj_wlt_r {u : Bool} {n m l : Nat} {f g h : Nat → Int64} (a : sj_wlt u n f m g) (e : sj_weq m g l h) : sj_wlt u n f l h := by
  obtain ⟨rfl, e⟩ := e
  obtain ⟨p, h1, h2, h3, h4⟩ := a
  refine ⟨p, h1, h2, fun j hj => (h3 j hj).trans (e j (by omega)), fun z => ?_⟩
  rw [← e p h2]; exact h4 z
theorem sj_nc_lt {u : Bool} {x y : Int64} : (sj_nc u x y < nI 0) ↔ sj_key u x < sj_key u y := by
  unfold sj_nc
  by_cases e : x = y
  · subst e
    rw [if_pos rfl]
    exact ⟨fun z => absurd z (by decide), fun z => absurd z (Int.lt_irrefl _)⟩
  · rw [if_neg e]
    split
    · rename_i h
      exact ⟨fun _ => h, fun _ => by decide⟩
    · rename_i h
      exact ⟨fun z => absurd z (by decide), fun z => absurd z h⟩
theorem sj_nc_gt {u : Bool} {x y : Int64} : (nI 0 < sj_nc u x y) ↔ sj_key u y < sj_key u x := by
  unfold sj_nc
  by_cases e : x = y
  · subst e
    rw [if_pos rfl]
    exact ⟨fun z => absurd z (by decide), fun z => absurd z (Int.lt_irrefl _)⟩
  · rw [if_neg e]
    split
    · rename_i h
      exact ⟨fun z => absurd z (by decide), fun z => by omega⟩
    · rename_i h
      have : sj_key u x ≠ sj_key u y := fun z => e (sj_key_inj z)
      exact ⟨fun _ => by omega, fun _ => by decide⟩
/-- what compare() tells -/
theorem sj_wc_cases (u : Bool) (n : Nat) (f : Nat → Int64) (m : Nat) (g : Nat → Int64) : (sj_wc u n f m g = nI 0 ∧ sj_weq n f m g) ∨ (sj_wc u n f m g = -nI 1 ∧ sj_wlt u n f m g) ∨ (sj_wc u n f m g = nI 1 ∧ sj_wlt u m g n f) := by
  have h := sj_lcp_is n f m g
  unfold sj_wc
  generalize sj_lcp n f m g = p at h ⊢
  obtain ⟨h1, h2, h3, h4⟩ := h
  by_cases c : p < n ∧ p < m
  · rw [if_pos c]
    have hne := h4 c.1 c.2
    unfold sj_nc
    rw [if_neg hne]
    by_cases k : sj_key u (f p) < sj_key u (g p)
    · rw [if_pos k]
      exact Or.inr (Or.inl ⟨rfl, p, h1, c.2, h3, fun _ => k⟩)
    · rw [if_neg k]
      have : sj_key u (f p) ≠ sj_key u (g p) := fun z => hne (sj_key_inj z)
      exact Or.inr (Or.inr ⟨rfl, p, h2, c.1, fun j hj => (h3 j hj).symm, fun _ => by omega⟩)
  · rw [if_neg c]
    by_cases e : n = m
    · subst e
      rw [if_pos rfl]
      exact Or.inl ⟨rfl, rfl, fun j hj => h3 j (by omega)⟩
    · rw [if_neg e]
      by_cases k : n < m
      · rw [if_pos k]
        exact Or.inr (Or.inl ⟨rfl, n, Nat.le_refl _, k, fun j hj => h3 j (by omega), fun z => absurd z (Nat.lt_irrefl _)⟩)
      · rw [if_neg k]
        exact Or.inr (Or.inr ⟨rfl, m, Nat.le_refl _, by omega, fun j hj => (h3 j (by omega)).symm, fun z => absurd z (Nat.lt_irrefl _)⟩)
theorem sj_wc0 {u : Bool} {n m : Nat} {f g : Nat → Int64} : sj_wc u n f m g = nI 0 ↔ sj_weq n f m g := by
  rcases sj_wc_cases u n f m g with ⟨e, h⟩ | ⟨e, h⟩ | ⟨e, h⟩
  · exact ⟨fun _ => h, fun _ => e⟩
  · rw [e]; exact ⟨fun z => absurd z (by decide), fun z => (sj_wlt_irr h z).elim⟩
  · rw [e]; exact ⟨fun z => absurd z (by decide), fun z => (sj_wlt_irr h (sj_weq_s z)).elim⟩
theorem sj_wcL {u : Bool} {n m : Nat} {f g : Nat → Int64} : ¬ nI 0 ≤ sj_wc u n f m g ↔ sj_wlt u n f m g := by
  rcases sj_wc_cases u n f m g with ⟨e, h⟩ | ⟨e, h⟩ | ⟨e, h⟩
  · rw [e]; exact ⟨fun z => absurd (by decide) z, fun z => (sj_wlt_irr z h).elim⟩
  · rw [e]; exact ⟨fun _ => h, fun _ => by decide⟩
  · rw [e]; exact ⟨fun z => absurd (by decide) z, fun z => (sj_wlt_asym h z).elim⟩
theorem sj_wcG {u : Bool} {n m : Nat} {f g : Nat → Int64} : ¬ sj_wc u n f m g ≤ nI 0 ↔ sj_wlt u m g n f := by
  rcases sj_wc_cases u n f m g with ⟨e, h⟩ | ⟨e, h⟩ | ⟨e, h⟩
  · rw [e]; exact ⟨fun z => absurd (by decide) z, fun z => (sj_wlt_irr z (sj_weq_s h)).elim⟩
  · rw [e]; exact ⟨fun z => absurd (by decide) z, fun z => (sj_wlt_asym h z).elim⟩
  · rw [e]; exact ⟨fun _ => h, fun _ => by decide⟩
theorem sj_w_tot (u : Bool) (n : Nat) (f : Nat → Int64) (m : Nat) (g : Nat → Int64) : sj_weq n f m g ∨ sj_wlt u n f m g ∨ sj_wlt u m g n f := by
  rcases sj_wc_cases u n f m g with ⟨_, h⟩ | ⟨_, h⟩ | ⟨_, h⟩
  · exact Or.inl h
  · exact Or.inr (Or.inl h)
  · exact Or.inr (Or.inr h)
/-! LISTS IN ORDER: of 0 .. N less 1 those that P holds of, by a strict total order -/
def sj_isSort (P : Nat → Prop) (lt : Nat → Nat → Prop) (N ln : Nat) (lx : Nat → Nat) : Prop := (∀ j, j < ln → lx j < N ∧ P (lx j)) ∧ (∀ i j, i < j → j < ln → lt (lx i) (lx j)) ∧ ∀ k, k < N → P k → ∃ j, j < ln ∧ lx j = k
theorem sj_cnt_split (p : Nat → Bool) (x : Nat) : ∀ N, x < N → p x = true → sj_cnt p N = sj_cnt (fun i => p i && decide (i ≠ x)) N + 1
  | 0, h, _ => absurd h (Nat.not_lt_zero _)
  | N + 1, h, hp => by
    unfold sj_cnt
    by_cases e : x = N
    · subst e
      have h1 : ∀ M, M ≤ x → sj_cnt p M = sj_cnt (fun i => p i && decide (i ≠ x)) M := by
        intro M
        induction M with
        | zero => intro _; rfl
        | succ M ih =>
          intro hM
          unfold sj_cnt
          rw [ih (by omega), decide_eq_true (show M ≠ x by omega), Bool.and_true]
      rw [h1 x (Nat.le_refl _), hp, decide_eq_false (fun z => z rfl), Bool.and_false, if_pos rfl, if_neg (by decide)]
    · rw [sj_cnt_split p x N (by omega) hp, decide_eq_true (show N ≠ x by omega), Bool.and_true]
      omega
theorem sj_cnt_congr {p q : Nat → Bool} : ∀ N, (∀ i, i < N → p i = q i) → sj_cnt p N = sj_cnt q N
  | 0, _ => rfl
  | N + 1, h => by
    unfold sj_cnt
    rw [sj_cnt_congr N (fun i hi => h i (by omega)), h N (by omega)]
theorem sj_cnt_none {p : Nat → Bool} : ∀ N, (∀ i, i < N → p i = false) → sj_cnt p N = 0
  | 0, _ => rfl
  | N + 1, h => by
    unfold sj_cnt
    rw [sj_cnt_none N (fun i hi => h i (by omega)), h N (by omega)]
    rfl
/-- as many as a list without a double that tells them all -/
theorem sj_cnt_list (N : Nat) (lx : Nat → Nat) : ∀ (c : Nat) (p : Nat → Bool), (∀ i j, i < j → j < c → lx i ≠ lx j) → (∀ j, j < c → lx j < N) → (∀ i, i < N → (p i = true ↔ ∃ j, j < c ∧ lx j = i)) → sj_cnt p N = c
  | 0, p, _, _, h => sj_cnt_none N (fun i hi => Bool.eq_false_iff.mpr fun z => by
    obtain ⟨j, hj, _⟩ := (h i hi).mp z
    omega)
  | c + 1, p, hd, hl, h => by
    rw [sj_cnt_split p (lx c) N (hl c (by omega)) ((h _ (hl c (by omega))).mpr ⟨c, by omega, rfl⟩)]
    rw [sj_cnt_list N lx c _ (fun i j hi hj => hd i j hi (by omega)) (fun j hj => hl j (by omega)) (fun i hi => ?_)]
    rw [Bool.and_eq_true, h i hi]
    constructor
    · rintro ⟨⟨j, hj, e⟩, z⟩
      refine ⟨j, ?_, e⟩
      have : j ≠ c := fun y => of_decide_eq_true z (by rw [← e, y])
      omega
    · rintro ⟨j, hj, e⟩
      exact ⟨⟨j, by omega, e⟩, decide_eq_true fun y => hd j c hj (by omega) (by rw [e, y])⟩
theorem sj_sort_rank {P : Nat → Prop} {lt : Nat → Nat → Prop} {N ln : Nat} {lx : Nat → Nat} (h : sj_isSort P lt N ln lx) (hirr : ∀ i, P i → ¬ lt i i) (htr : ∀ i j, P i → P j → lt i j → ¬ lt j i) {p : Nat → Bool} {j : Nat} (hj : j < ln) (hp : ∀ i, i < N → (p i = true ↔ P i ∧ lt i (lx j))) : sj_cnt p N = j := by
  obtain ⟨h1, h2, h3⟩ := h
  refine sj_cnt_list N lx j p (fun a b hab hb e => ?_) (fun a ha => (h1 a (by omega)).1) (fun i hi => ?_)
  · have := h2 a b hab (by omega)
    rw [e] at this
    exact hirr _ (h1 b (by omega)).2 this
  · rw [hp i hi]
    constructor
    · rintro ⟨hP, hl⟩
      obtain ⟨b, hb, e⟩ := h3 i hi hP
      refine ⟨b, ?_, e⟩
      rcases Nat.lt_trichotomy b j with c | c | c
      · exact c
      · subst c
        rw [e] at hl
        exact (hirr i hP hl).elim
      · have := h2 j b c hb
        rw [e] at this
        exact (htr _ _ hP (h1 j hj).2 hl this).elim
    · rintro ⟨b, hb, e⟩
      subst e
      exact ⟨(h1 b (by omega)).2, h2 b j hb hj⟩
theorem sj_sort_num {P : Nat → Prop} {lt : Nat → Nat → Prop} {N ln : Nat} {lx : Nat → Nat} (h : sj_isSort P lt N ln lx) (hirr : ∀ i, P i → ¬ lt i i) {p : Nat → Bool} (hp : ∀ i, i < N → (p i = true ↔ P i)) : sj_cnt p N = ln := by
  obtain ⟨h1, h2, h3⟩ := h
  refine sj_cnt_list N lx ln p (fun a b hab hb e => ?_) (fun a ha => (h1 a ha).1) (fun i hi => ?_)
  · have := h2 a b hab hb
    rw [e] at this
    exact hirr _ (h1 b hb).2 this
  · rw [hp i hi]
    exact ⟨fun z => h3 i hi z, fun ⟨b, hb, e⟩ => e ▸ (h1 b hb).2⟩

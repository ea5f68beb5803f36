/-! counting, finding, choosing -/
def sj_cnt (p : Nat → Bool) : Nat → Nat
  | 0 => 0
  | n + 1 => sj_cnt p n + (if p n then 1 else 0)
theorem sj_cnt_le (p : Nat → Bool) : ∀ n, sj_cnt p n ≤ n
  | 0 => Nat.le_refl _
  | n + 1 => by
    have := sj_cnt_le p n
    unfold sj_cnt
    split <;> omega
def sj_find (p : Nat → Bool) : Nat → Nat → Nat
  | 0, c => c
  | d + 1, c => if p c then c else sj_find p d (c + 1)
theorem sj_find_eq {p : Nat → Bool} {r : Nat} : ∀ d c, c ≤ r → r ≤ c + d → (∀ j, c ≤ j → j < r → p j = false) → (r < c + d → p r = true) → sj_find p d c = r
  | 0, c, h1, h2, _, _ => by
    have : c = r := by omega
    subst this
    rfl
  | d + 1, c, h1, h2, h3, h4 => by
    unfold sj_find
    by_cases e : c = r
    · subst e
      rw [if_pos (h4 (by omega))]
    · rw [h3 c (Nat.le_refl _) (by omega), if_neg (by decide)]
      exact sj_find_eq d (c + 1) (by omega) (by omega) (fun j a b => h3 j (by omega) b) (fun z => h4 (by omega))
/-- the last one that is less than the best so far, of 0 .. m -/
def sj_best (lt : Nat → Nat → Bool) : Nat → Nat
  | 0 => 0
  | m + 1 => if lt (m + 1) (sj_best lt m) then m + 1 else sj_best lt m
theorem sj_best_s (lt : Nat → Nat → Bool) (m : Nat) : sj_best lt (m + 1) = if lt (m + 1) (sj_best lt m) then m + 1 else sj_best lt m := rfl
theorem sj_best_le (lt : Nat → Nat → Bool) : ∀ m, sj_best lt m ≤ m
  | 0 => Nat.le_refl _
  | m + 1 => by
    have := sj_best_le lt m
    unfold sj_best
    split <;> omega
/-! rank -/
def sj_rankB (σ : sj_S) (k : Nat) (u : Bool) (j i : Nat) : Bool := decide (sj_fit σ k i ∧ ¬ (nI 0 ≤ sj_wc u (sj_wn σ i) (sj_wx σ k i) (sj_wn σ j) (sj_wx σ k j)))
def ab_rank (σ : sj_S) (a1 a2 a3 : Int32) : sj_O := match sj_kd a1 with
  | none => (1, 0, σ)
  | some k => match sj_od a2 with
    | none => (1, 0, σ)
    | some u => match sj_ix 12 a3 with
      | none => (2, 0, σ)
      | some j => if sj_fit σ k j then (0, (nI (sj_cnt (sj_rankB σ k u j) 12)).toInt64, σ) else (3, 0, σ)
theorem pc_rank {La : Nat → Nat} {σ : sj_S} {w : sj_W} (hL : sj_La La) (hC : sj_Cm La σ w) (hw : sj_wf σ) {a1 a2 a3 : Int32} {Q : Int32 → sj_W → Prop} {QX : String → sj_W → Prop} (h : so_pX La w (ab_rank σ a1 a2 a3) sj_en Int32.toInt64 Q QX) : vc_X6_rank (La 0) a1 a2 a3 w Q QX := by
  have a := hC.all
  unfold ab_rank at h
  refine pc_kindOf (fun k hk hk4 => pc_isUnsigned (fun u hu => ⟨a.1.1, pc_spanOf hL hC (fun j hj hj12 => ⟨a.1.1, pc_fittingWord hL hC hw hk4 hj12 (fun p w1 hf1 hw1 hp => ?_) (fun hf1 => ?_)⟩) (fun hj => ?_)⟩) (fun hu => ?_)) (fun hk => ?_)
  · simp only [hk, hu, hj, if_pos hf1] at h
    have a1 := (hC.no hw1).all
    simp (disch := omega) only [ne_eq, and_self, not_false_eq_true, not_true_eq_false, true_and, and_true, true_or, or_true, false_or, or_false, forall_eq, forall_const, true_implies, false_implies, if_true, if_false, sj_lits, sj_addI, sj_mulI, sj_clI, sj_inI, sj_ltI, sj_leI, sj_eqI, sj_lcI, a1, hL.nz]
    refine ⟨by decide, ?_⟩
    refine sj_lp2_run (fun v7 v10 w' => ∃ i, v10 = nI i ∧ i ≤ 12 ∧ v7 = nI (sj_cnt (sj_rankB σ k u j) i) ∧ sj_fr sj_no w w' ∧ sj_Wo w' p (sj_wn σ j) (sj_wx σ k j)) (fun _ v _ => 13 - v.toNatClampNeg) ?_ 14 _ _ _ ⟨0, rfl, by omega, rfl, hw1, hp⟩ (by omega)
    rintro v7 v10 w' K ⟨i, rfl, hi, rfl, hfr, hp'⟩ hK
    have hC' := hC.no hfr
    have a' := hC'.all
    have hcl := sj_cnt_le (sj_rankB σ k u j) i
    unfold vb_X6_rank_42
    simp (disch := omega) only [ne_eq, and_self, not_false_eq_true, not_true_eq_false, true_and, and_true, true_or, or_true, false_or, or_false, forall_eq, forall_const, true_implies, false_implies, if_true, if_false, sj_lits, sj_addI, sj_mulI, sj_clI, sj_inI, sj_ltI, sj_leI, sj_eqI, sj_lcI, a', hL.nz]
    refine ⟨fun q => ?_, fun q => ⟨by omega, ?_⟩⟩
    · have e : i = 12 := by omega
      subst e
      exact so_k h hfr.no hC' rfl
    · have step : ∀ w2 b, sj_fr sj_no w w2 → sj_Wo w2 p (sj_wn σ j) (sj_wx σ k j) → sj_rankB σ k u j i = b → K (nI (sj_cnt (sj_rankB σ k u j) i + (if b then 1 else 0))) (nI (i + 1)) w2 := by
        intro w2 b h1 h2 h3
        refine hK _ _ _ ⟨i + 1, rfl, by omega, by rw [← h3]; rfl, h1, h2⟩ ?_
        rw [sj_clI (by omega), sj_clI (by omega)]
        omega
      have hi12 : i < 12 := by omega
      simp (disch := omega) only [a'.2.2.1]
      refine ⟨fun z => hL.2 _ z, pc_isFitting hL hC' hw hk4 hi12 (fun hf => ⟨fun e => absurd e (by decide), fun _ => ⟨a'.1.1, ?_⟩⟩) (fun hf => ⟨fun _ => ?_, fun e => absurd rfl e⟩)⟩
      · refine pc_wordOf hL hC' hw hk4 hi12 hf (fun p2 w2 hw2 hp2 => ?_)
        refine pc_compareWords hp2 (hp'.no hw2) ?_
        refine ⟨fun z => ?_, fun z => ?_⟩
        · exact step w2 false (hfr.trans hw2) (hp'.no hw2) (decide_eq_false fun y => y.2 z)
        · exact step w2 true (hfr.trans hw2) (hp'.no hw2) (decide_eq_true ⟨hf, z⟩)
      · exact step w' false hfr hp' (decide_eq_false fun y => hf y.1)
  · simp only [hk, hu, hj, if_neg hf1] at h
    exact so_e h (by decide) sj_fr.rf hC
  · simp only [hk, hu, hj] at h
    exact so_e h (by decide) sj_fr.rf hC
  · simp only [hk, hu] at h
    exact so_e h (by decide) sj_fr.rf hC
  · simp only [hk] at h
    exact so_e h (by decide) sj_fr.rf hC
/-! periods -/
def sj_per (n : Nat) (f : Nat → Int64) (p : Nat) : Bool := (List.range n).all (fun j => decide (p ≤ j → f j = f (j - p)))
theorem sj_per_iff {n p : Nat} {f : Nat → Int64} : sj_per n f p = true ↔ ∀ j, p ≤ j → j < n → f j = f (j - p) := by
  unfold sj_per
  rw [List.all_eq_true]
  exact ⟨fun h j h1 h2 => of_decide_eq_true (h j (List.mem_range.mpr h2)) h1, fun h j hj => decide_eq_true fun h1 => h j h1 (List.mem_range.mp hj)⟩
theorem sj_per_n {n p : Nat} {f : Nat → Int64} (h : n ≤ p) : sj_per n f p = true := sj_per_iff.mpr fun j h1 h2 => by omega
theorem pc_hasPeriod {La : Nat → Nat} {σ : sj_S} {w : sj_W} (hL : sj_La La) (hC : sj_Cm La σ w) (hw : sj_wf σ) {r p : Nat} (hr : r < 16) (hp : p ≤ 32) {Q : Int32 → sj_W → Prop} (h : sj_per (sj_n σ r) (sj_x σ r) p = true → Q 1 w) (h0 : sj_per (sj_n σ r) (sj_x σ r) p = false → Q 0 w) : vc_X1_hasPeriod (La (100 + r)) (nI p) w Q := by
  have a := hC.all
  have c := (hw.1 r hr).1
  refine sj_lp1_run (fun v w' => w' = w ∧ ∃ i, v = nI i ∧ p ≤ i ∧ i ≤ 32 ∧ ∀ j, p ≤ j → j < i → j < sj_n σ r → sj_x σ r j = sj_x σ r (j - p)) (fun v _ => 40 - v.toNatClampNeg) ?_ 64 _ _ ⟨rfl, p, rfl, Nat.le_refl _, hp, fun j h1 h2 => by omega⟩ (by omega)
  rintro v w' K ⟨rfl, i, rfl, h1, h2, h3⟩ hK
  unfold vb_X1_hasPeriod_2
  rw [sj_subI h1]
  simp (disch := omega) only [ne_eq, and_self, not_false_eq_true, not_true_eq_false, true_and, and_true, true_or, or_true, false_or, or_false, forall_eq, forall_const, true_implies, false_implies, if_true, if_false, sj_lits, sj_addI, sj_mulI, sj_clI, sj_inI, sj_ltI, sj_leI, sj_eqI, sj_lcI, a, hL.nz]
  refine ⟨fun q => h (sj_per_iff.mpr fun j y1 y2 => h3 j y1 (by omega) y2), fun q => ?_⟩
  simp (disch := omega) only [a]
  refine ⟨by omega, by omega, fun z => hK _ _ ⟨rfl, i + 1, rfl, by omega, by omega, fun j y1 y2 y3 => ?_⟩ ?_, fun z => h0 ?_⟩
  · by_cases e : j = i
    · subst e; exact z
    · exact h3 j y1 (by omega) y3
  · rw [sj_clI (by omega), sj_clI (by omega)]; omega
  · exact Bool.eq_false_iff.mpr fun y => z (sj_per_iff.mp y i h1 (by omega))
def ab_isPeriod (σ : sj_S) (a1 a2 a3 : Int32) : sj_O := match sj_kd a1 with
  | none => (1, 0, σ)
  | some k => match sj_ix 4 a2 with
    | none => (2, 0, σ)
    | some r => if 1 ≤ a3.toInt ∧ a3.toInt ≤ sj_n σ (k * 4 + r) then (0, (if sj_per (sj_n σ (k * 4 + r)) (sj_x σ (k * 4 + r)) a3.toInt.toNat = true then 1 else 0), σ) else (2, 0, σ)
theorem pc_isPeriod {La : Nat → Nat} {σ : sj_S} {w : sj_W} (hL : sj_La La) (hC : sj_Cm La σ w) (hw : sj_wf σ) {a1 a2 a3 : Int32} {Q : Int32 → sj_W → Prop} {QX : String → sj_W → Prop} (h : so_pX La w (ab_isPeriod σ a1 a2 a3) sj_en Int32.toInt64 Q QX) : vc_X6_isPeriod (La 0) a1 a2 a3 w Q QX := by
  have a := hC.all
  unfold ab_isPeriod at h
  have e1 : (nI 1).toInt = 1 := rfl
  refine pc_kindOf (fun k hk hk4 => ⟨a.1.1, pc_rowOf hL hC hk4 (fun r hr hr4 => ?_) (fun hr => ?_)⟩) (fun hk => ?_)
  · simp only [hk, hr] at h
    have c := (hw.1 (k * 4 + r) (by omega)).1
    have eN : (nI (sj_n σ (k * 4 + r))).toInt = sj_n σ (k * 4 + r) := nI_toInt (by omega)
    simp (disch := omega) only [a, true_and, sj_lits 1, sj_ltXX, sj_leXX, e1, eN]
    refine ⟨fun q => ?_, fun q => ⟨fun q2 => ?_, fun q2 => ?_⟩⟩
    · rw [if_neg (by omega)] at h
      exact so_e h (by decide) sj_fr.rf hC
    · rw [if_pos (by omega)] at h
      have e3 := sj_asN (x := a3) (by omega)
      generalize h3 : a3.toInt.toNat = p at h e3
      subst e3
      refine pc_hasPeriod hL hC hw (by omega) (by omega) (fun z => ⟨Or.inr rfl, ?_⟩) (fun z => ⟨Or.inl rfl, ?_⟩)
      · rw [if_pos z] at h
        exact so_k h sj_fr.rf hC rfl
      · rw [if_neg (by rw [z]; decide)] at h
        exact so_k h sj_fr.rf hC rfl
    · rw [if_neg (by omega)] at h
      exact so_e h (by decide) sj_fr.rf hC
  · simp only [hk, hr] at h
    exact so_e h (by decide) sj_fr.rf hC
  · simp only [hk] at h
    exact so_e h (by decide) sj_fr.rf hC
def sj_perd (n : Nat) (p : Nat → Bool) : Nat := if n = 0 then 0 else sj_find p (n - 1) 1
theorem sj_perd_eq {n r : Nat} {p : Nat → Bool} (hn : n ≠ 0) (h1 : 1 ≤ r) (h2 : r ≤ n) (h3 : ∀ j, 1 ≤ j → j < r → p j = false) (h4 : r < n → p r = true) : sj_perd n p = r := by
  unfold sj_perd
  rw [if_neg hn]
  exact sj_find_eq _ _ h1 (by omega) h3 (fun z => h4 (by omega))
def ab_period (σ : sj_S) (a1 a2 : Int32) : sj_O := match sj_kd a1 with
  | none => (1, 0, σ)
  | some k => match sj_ix 4 a2 with
    | none => (2, 0, σ)
    | some r => (0, (nI (sj_perd (sj_n σ (k * 4 + r)) (sj_per (sj_n σ (k * 4 + r)) (sj_x σ (k * 4 + r))))).toInt64, σ)
theorem pc_period {La : Nat → Nat} {σ : sj_S} {w : sj_W} (hL : sj_La La) (hC : sj_Cm La σ w) (hw : sj_wf σ) {a1 a2 : Int32} {Q : Int32 → sj_W → Prop} {QX : String → sj_W → Prop} (h : so_pX La w (ab_period σ a1 a2) sj_en Int32.toInt64 Q QX) : vc_X6_period (La 0) a1 a2 w Q QX := by
  have a := hC.all
  unfold ab_period at h
  refine pc_kindOf (fun k hk hk4 => ⟨a.1.1, pc_rowOf hL hC hk4 (fun r hr hr4 => ?_) (fun hr => ?_)⟩) (fun hk => ?_)
  · simp only [hk, hr] at h
    have c := (hw.1 (k * 4 + r) (by omega)).1
    have hr16 : k * 4 + r < 16 := by omega
    generalize k * 4 + r = y at h c hr16
    refine sj_lp1_run (fun v w' => w' = w ∧ ∃ i, v = nI i ∧ 1 ≤ i ∧ i ≤ 1 + sj_n σ y ∧ ∀ j, 1 ≤ j → j < i → j < sj_n σ y → sj_per (sj_n σ y) (sj_x σ y) j = false) (fun v _ => 40 - v.toNatClampNeg) ?_ 64 _ _ ⟨rfl, 1, rfl, by omega, by omega, fun j h1 h2 => by omega⟩ (by omega)
    rintro v w' K ⟨rfl, i, rfl, h1, h2, h3⟩ hK
    unfold vb_X6_period_13
    simp (disch := omega) only [ne_eq, and_self, not_false_eq_true, not_true_eq_false, true_and, and_true, true_or, or_true, false_or, or_false, forall_eq, forall_const, true_implies, false_implies, if_true, if_false, sj_lits, sj_addI, sj_mulI, sj_clI, sj_inI, sj_ltI, sj_leI, sj_eqI, sj_lcI, a]
    refine ⟨fun q => ?_, fun q => pc_hasPeriod hL hC hw hr16 (by omega) (fun z => ⟨fun e => absurd e (by decide), fun _ => ?_⟩) (fun z => ⟨fun _ => ?_, fun e => absurd rfl e⟩)⟩
    · refine so_k h sj_fr.rf hC ?_
      congr 2
      by_cases e : sj_n σ y = 0
      · rw [e]; rfl
      · exact (sj_perd_eq e (by omega) (Nat.le_refl _) (fun j y1 y2 => h3 j y1 (by omega) y2) (fun z => by omega)).symm
    · refine so_k h sj_fr.rf hC ?_
      congr 2
      exact (sj_perd_eq (by omega) h1 (by omega) (fun j y1 y2 => h3 j y1 y2 (by omega)) (fun _ => z)).symm
    · refine hK _ _ ⟨rfl, i + 1, rfl, by omega, by omega, fun j y1 y2 y3 => ?_⟩ ?_
      · by_cases e : j = i
        · subst e; exact z
        · exact h3 j y1 (by omega) y3
      · rw [sj_clI (by omega), sj_clI (by omega)]; omega
  · simp only [hk, hr] at h
    exact so_e h (by decide) sj_fr.rf hC
  · simp only [hk] at h
    exact so_e h (by decide) sj_fr.rf hC
def sj_rooB (n : Nat) (f : Nat → Int64) (p : Nat) : Bool := decide (n % p = 0) && sj_per n f p
def ab_root (σ : sj_S) (a1 a2 : Int32) : sj_O := match sj_kd a1 with
  | none => (1, 0, σ)
  | some k => match sj_ix 4 a2 with
    | none => (2, 0, σ)
    | some r => (0, (nI (sj_perd (sj_n σ (k * 4 + r)) (sj_rooB (sj_n σ (k * 4 + r)) (sj_x σ (k * 4 + r))))).toInt64, σ)
theorem pc_root {La : Nat → Nat} {σ : sj_S} {w : sj_W} (hL : sj_La La) (hC : sj_Cm La σ w) (hw : sj_wf σ) {a1 a2 : Int32} {Q : Int32 → sj_W → Prop} {QX : String → sj_W → Prop} (h : so_pX La w (ab_root σ a1 a2) sj_en Int32.toInt64 Q QX) : vc_X6_root (La 0) a1 a2 w Q QX := by
  have a := hC.all
  unfold ab_root at h
  refine pc_kindOf (fun k hk hk4 => ⟨a.1.1, pc_rowOf hL hC hk4 (fun r hr hr4 => ?_) (fun hr => ?_)⟩) (fun hk => ?_)
  · simp only [hk, hr] at h
    have c := (hw.1 (k * 4 + r) (by omega)).1
    have hr16 : k * 4 + r < 16 := by omega
    generalize k * 4 + r = y at h c hr16
    refine sj_lp1_run (fun v w' => w' = w ∧ ∃ i, v = nI i ∧ 1 ≤ i ∧ i ≤ 1 + sj_n σ y ∧ ∀ j, 1 ≤ j → j < i → j < sj_n σ y → sj_rooB (sj_n σ y) (sj_x σ y) j = false) (fun v _ => 40 - v.toNatClampNeg) ?_ 64 _ _ ⟨rfl, 1, rfl, by omega, by omega, fun j h1 h2 => by omega⟩ (by omega)
    rintro v w' K ⟨rfl, i, rfl, h1, h2, h3⟩ hK
    unfold vb_X6_root_13
    have aI := a.2.2.2.2.2.2.2.2.2.1 y hr16
    rw [aI, pk_rem (by omega) h1 (by omega)]
    have hm : sj_n σ y % i < 2147483648 := Nat.lt_of_lt_of_le (Nat.mod_lt _ h1) (by omega)
    simp (disch := omega) only [ne_eq, and_self, not_false_eq_true, not_true_eq_false, true_and, and_true, true_or, or_true, false_or, or_false, forall_eq, forall_const, true_implies, false_implies, if_true, if_false, sj_lits, sj_addI, sj_mulI, sj_clI, sj_inI, sj_ltI, sj_leI, sj_eqI, sj_lcI, a]
    have nxt : i < sj_n σ y → sj_rooB (sj_n σ y) (sj_x σ y) i = false → K (nI (i + 1)) w' := by
      intro zi z
      refine hK _ _ ⟨rfl, i + 1, rfl, by omega, by omega, fun j y1 y2 y3 => ?_⟩ ?_
      · by_cases e : j = i
        · subst e; exact z
        · exact h3 j y1 (by omega) y3
      · rw [sj_clI (by omega), sj_clI (by omega)]; omega
    refine ⟨fun q => ?_, fun q => ⟨by omega, fun q2 => nxt (by omega) ?_, fun q2 => pc_hasPeriod hL hC hw hr16 (by omega) (fun z => ⟨fun e => absurd e (by decide), fun _ => ?_⟩) (fun z => ⟨fun _ => nxt (by omega) ?_, fun e => absurd rfl e⟩)⟩⟩
    · refine so_k h sj_fr.rf hC ?_
      congr 2
      by_cases e : sj_n σ y = 0
      · rw [e]; rfl
      · exact (sj_perd_eq e (by omega) (Nat.le_refl _) (fun j y1 y2 => h3 j y1 (by omega) y2) (fun z => by omega)).symm
    · unfold sj_rooB
      rw [decide_eq_false q2, Bool.false_and]
    · refine so_k h sj_fr.rf hC ?_
      congr 2
      refine (sj_perd_eq (by omega) h1 (by omega) (fun j y1 y2 => h3 j y1 y2 (by omega)) (fun _ => ?_)).symm
      unfold sj_rooB
      rw [decide_eq_true q2, z]
      rfl
    · unfold sj_rooB
      rw [z, Bool.and_false]
  · simp only [hk, hr] at h
    exact so_e h (by decide) sj_fr.rf hC
  · simp only [hk] at h
    exact so_e h (by decide) sj_fr.rf hC
/-! rotations -/
def sj_ro (n : Nat) (f : Nat → Int64) (a s : Nat) : Int64 := if a + s < n then f (a + s) else f (a + s - n)
theorem pc_atRound {La : Nat → Nat} {σ : sj_S} {w : sj_W} (hL : sj_La La) (hC : sj_Cm La σ w) (hw : sj_wf σ) {r a s : Nat} (hr : r < 16) (ha : a < sj_n σ r) (hs : s < sj_n σ r) {Q : Int64 → sj_W → Prop} (h : Q (sj_ro (sj_n σ r) (sj_x σ r) a s) w) : vc_X1_atRound (La (100 + r)) (nI (a + s)) w Q := by
  have b := hC.all
  have c := (hw.1 r hr).1
  unfold vc_X1_atRound
  unfold sj_ro at h
  simp (disch := omega) only [ne_eq, and_self, not_false_eq_true, not_true_eq_false, true_and, and_true, true_or, or_true, false_or, or_false, forall_eq, forall_const, true_implies, false_implies, if_true, if_false, sj_lits, sj_addI, sj_mulI, sj_clI, sj_inI, sj_ltI, sj_leI, sj_eqI, sj_lcI, b, hL.nz]
  refine ⟨fun q => ?_, fun q => ⟨by omega, ?_⟩⟩
  · rw [if_neg (by omega)] at h
    rw [sj_subI q]
    simp (disch := omega) only [ne_eq, and_self, not_false_eq_true, not_true_eq_false, true_and, and_true, true_or, or_true, false_or, or_false, forall_eq, forall_const, true_implies, false_implies, if_true, if_false, sj_lits, sj_addI, sj_mulI, sj_clI, sj_inI, sj_ltI, sj_leI, sj_eqI, sj_lcI, b]
    exact ⟨by omega, h⟩
  · rw [if_pos (by omega)] at h
    simp (disch := omega) only [b]
    exact h
/-- two rotations compared -/
def sj_rc (u : Bool) (n : Nat) (f : Nat → Int64) (a b : Nat) : Int32 := sj_wc u n (sj_ro n f a) n (sj_ro n f b)
theorem sj_wc_at {u : Bool} {n : Nat} {f g : Nat → Int64} {i : Nat} (hi : i < n) (h : ∀ j, j < i → f j = g j) (hne : f i ≠ g i) : sj_wc u n f n g = sj_nc u (f i) (g i) := by
  have e : sj_lcp n f n g = i := sj_lcp_eq ⟨by omega, by omega, h, fun _ _ => hne⟩
  unfold sj_wc
  rw [e, if_pos ⟨hi, hi⟩]
theorem sj_wc_same {u : Bool} {n : Nat} {f g : Nat → Int64} (h : ∀ j, j < n → f j = g j) : sj_wc u n f n g = nI 0 := by
  have e : sj_lcp n f n g = n := sj_lcp_eq ⟨by omega, by omega, h, fun z _ => absurd z (Nat.lt_irrefl _)⟩
  unfold sj_wc
  rw [e, if_neg (by omega), if_pos rfl]
theorem sj_nc_0 {u : Bool} {x y : Int64} : sj_nc u x y = nI 0 ↔ x = y := by
  unfold sj_nc
  refine ⟨fun h => ?_, fun h => if_pos h⟩
  by_cases e : x = y
  · exact e
  · rw [if_neg e] at h
    split at h
    · exact absurd h (by decide)
    · exact absurd h (by decide)
theorem pc_compareRotations {La : Nat → Nat} {σ : sj_S} {w : sj_W} (hL : sj_La La) (hC : sj_Cm La σ w) (hw : sj_wf σ) {r a b : Nat} {u : Bool} (hr : r < 16) (ha : a < sj_n σ r) (hb : b < sj_n σ r) {Q : Int32 → sj_W → Prop} (h : Q (sj_rc u (sj_n σ r) (sj_x σ r) a b) w) : vc_X1_compareRotations (La (100 + r)) (nI a) (nI b) (sj_b u) w Q := by
  have t := hC.all
  have c := (hw.1 r hr).1
  refine sj_lp1_run (fun v w' => w' = w ∧ ∃ i, v = nI i ∧ i ≤ sj_n σ r ∧ ∀ j, j < i → sj_ro (sj_n σ r) (sj_x σ r) a j = sj_ro (sj_n σ r) (sj_x σ r) b j) (fun v _ => 40 - v.toNatClampNeg) ?_ 64 _ _ ⟨rfl, 0, rfl, Nat.zero_le _, fun j hj => absurd hj (Nat.not_lt_zero _)⟩ (by omega)
  rintro v w' K ⟨rfl, i, rfl, h1, h2⟩ hK
  unfold vb_X1_compareRotations_3
  unfold sj_rc at h
  simp (disch := omega) only [ne_eq, and_self, not_false_eq_true, not_true_eq_false, true_and, and_true, true_or, or_true, false_or, or_false, forall_eq, forall_const, true_implies, false_implies, if_true, if_false, sj_lits, sj_addI, sj_mulI, sj_clI, sj_inI, sj_ltI, sj_leI, sj_eqI, sj_lcI, t]
  refine ⟨fun q => ?_, fun q => pc_atRound hL hC hw hr ha (by omega) ⟨t.2.2.2.2.1 r hr, pc_atRound hL hC hw hr hb (by omega) (pc_compareNumbers ⟨fun z => ?_, fun z => ?_⟩)⟩⟩
  · rw [sj_wc_same (fun j hj => h2 j (by omega))] at h
    exact h
  · rw [sj_nc_0] at z
    refine hK _ _ ⟨rfl, i + 1, rfl, by omega, fun j y2 => ?_⟩ ?_
    · by_cases e : j = i
      · subst e; exact z
      · exact h2 j (by omega)
    · rw [sj_clI (by omega), sj_clI (by omega)]; omega
  · rw [sj_nc_0] at z
    rw [sj_wc_at (by omega) h2 z] at h
    exact h
def sj_rotB (u : Bool) (n : Nat) (f : Nat → Int64) (a b : Nat) : Bool := decide (¬ nI 0 ≤ sj_rc u n f a b)
def ab_rotation (σ : sj_S) (a1 a2 a3 : Int32) : sj_O := match sj_kd a1 with
  | none => (1, 0, σ)
  | some k => match sj_od a2 with
    | none => (1, 0, σ)
    | some u => match sj_ix 4 a3 with
      | none => (2, 0, σ)
      | some r => (0, (if sj_n σ (k * 4 + r) = 0 then -nI 1 else nI (sj_best (sj_rotB u (sj_n σ (k * 4 + r)) (sj_x σ (k * 4 + r))) (sj_n σ (k * 4 + r) - 1))).toInt64, σ)
theorem pc_rotation {La : Nat → Nat} {σ : sj_S} {w : sj_W} (hL : sj_La La) (hC : sj_Cm La σ w) (hw : sj_wf σ) {a1 a2 a3 : Int32} {Q : Int32 → sj_W → Prop} {QX : String → sj_W → Prop} (h : so_pX La w (ab_rotation σ a1 a2 a3) sj_en Int32.toInt64 Q QX) : vc_X6_rotation (La 0) a1 a2 a3 w Q QX := by
  have a := hC.all
  unfold ab_rotation at h
  refine pc_kindOf (fun k hk hk4 => pc_isUnsigned (fun u hu => ⟨a.1.1, pc_rowOf hL hC hk4 (fun r hr hr4 => ?_) (fun hr => ?_)⟩) (fun hu => ?_)) (fun hk => ?_)
  · simp only [hk, hu, hr] at h
    have c := (hw.1 (k * 4 + r) (by omega)).1
    have hr16 : k * 4 + r < 16 := by omega
    generalize k * 4 + r = y at h c hr16
    simp (disch := omega) only [ne_eq, and_self, not_false_eq_true, not_true_eq_false, true_and, and_true, true_or, or_true, false_or, or_false, forall_eq, forall_const, true_implies, false_implies, if_true, if_false, sj_lits, sj_addI, sj_mulI, sj_clI, sj_inI, sj_ltI, sj_leI, sj_eqI, sj_lcI, a]
    refine ⟨fun q => ?_, fun q => ?_⟩
    · rw [if_neg q] at h
      refine sj_lp2_run (fun v7 v8 w' => w' = w ∧ ∃ i, v8 = nI (i + 1) ∧ i + 1 ≤ sj_n σ y ∧ v7 = nI (sj_best (sj_rotB u (sj_n σ y) (sj_x σ y)) i)) (fun _ v _ => 40 - v.toNatClampNeg) ?_ 64 _ _ _ ⟨rfl, 0, rfl, by omega, rfl⟩ (by omega)
      rintro v7 v8 w' K ⟨rfl, i, rfl, h1, rfl⟩ hK
      have hb := sj_best_le (sj_rotB u (sj_n σ y) (sj_x σ y)) i
      unfold vb_X6_rotation_37
      simp (disch := omega) only [ne_eq, and_self, not_false_eq_true, not_true_eq_false, true_and, and_true, true_or, or_true, false_or, or_false, forall_eq, forall_const, true_implies, false_implies, if_true, if_false, sj_lits, sj_addI, sj_mulI, sj_clI, sj_inI, sj_ltI, sj_leI, sj_eqI, sj_lcI, a]
      refine ⟨fun q2 => ?_, fun q2 => pc_compareRotations hL hC hw hr16 (by omega) (by omega) ⟨fun z => ?_, fun z => ?_⟩⟩
      · have e : sj_n σ y - 1 = i := by omega
        rw [e] at h
        exact so_k h sj_fr.rf hC rfl
      · refine hK _ _ _ ⟨rfl, i + 1, rfl, by omega, ?_⟩ ?_
        · have e : sj_rotB u (sj_n σ y) (sj_x σ y) (i + 1) (sj_best (sj_rotB u (sj_n σ y) (sj_x σ y)) i) = false := decide_eq_false fun y => y z
          rw [sj_best_s, e, if_neg (by decide)]
        · rw [sj_clI (by omega), sj_clI (by omega)]; omega
      · refine hK _ _ _ ⟨rfl, i + 1, rfl, by omega, ?_⟩ ?_
        · have e : sj_rotB u (sj_n σ y) (sj_x σ y) (i + 1) (sj_best (sj_rotB u (sj_n σ y) (sj_x σ y)) i) = true := decide_eq_true z
          rw [sj_best_s, e, if_pos rfl]
        · rw [sj_clI (by omega), sj_clI (by omega)]; omega
    · rw [if_pos q] at h
      exact so_k h sj_fr.rf hC rfl
  · simp only [hk, hu, hr] at h
    exact so_e h (by decide) sj_fr.rf hC
  · simp only [hk, hu] at h
    exact so_e h (by decide) sj_fr.rf hC
  · simp only [hk] at h
    exact so_e h (by decide) sj_fr.rf hC

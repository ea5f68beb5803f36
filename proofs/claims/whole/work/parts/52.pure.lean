/-! WORDS: n numbers, f 0, f 1 .. How many two of them have alike from the first on -/
def sj_al (f g : Nat → Int64) : Nat → Nat → Nat
  | 0, p => p
  | d + 1, p => if f p = g p then sj_al f g d (p + 1) else p
def sj_lcp (n : Nat) (f : Nat → Int64) (m : Nat) (g : Nat → Int64) : Nat := sj_al f g (min n m) 0
def sj_isL (n : Nat) (f : Nat → Int64) (m : Nat) (g : Nat → Int64) (p : Nat) : Prop := p ≤ n ∧ p ≤ m ∧ (∀ j, j < p → f j = g j) ∧ (p < n → p < m → f p ≠ g p)
theorem sj_al_is {n m : Nat} {f g : Nat → Int64} : ∀ d p, p + d = min n m → (∀ j, j < p → f j = g j) → sj_isL n f m g (sj_al f g d p)
  | 0, p, h, ha => (show sj_isL n f m g p from ⟨by omega, by omega, ha, fun _ _ => by omega⟩)
  | d + 1, p, h, ha => by
    unfold sj_al
    split
    · rename_i hc
      exact sj_al_is d (p + 1) (by omega) (fun j hj => by
        rcases Nat.lt_succ_iff_lt_or_eq.mp hj with q | rfl
        · exact ha j q
        · exact hc)
    · rename_i hc
      exact ⟨by omega, by omega, ha, fun _ _ => hc⟩
theorem sj_lcp_is (n : Nat) (f : Nat → Int64) (m : Nat) (g : Nat → Int64) : sj_isL n f m g (sj_lcp n f m g) := sj_al_is _ 0 (by omega) (fun j hj => absurd hj (Nat.not_lt_zero _))
theorem sj_isL_uniq {n m : Nat} {f g : Nat → Int64} {p q : Nat} (h : sj_isL n f m g p) (k : sj_isL n f m g q) : p = q := by
  rcases Nat.lt_trichotomy p q with c | c | c
  · exact absurd (k.2.2.1 p c) (h.2.2.2 (by have := k.1; omega) (by have := k.2.1; omega))
  · exact c
  · exact absurd (h.2.2.1 q c) (k.2.2.2 (by have := h.1; omega) (by have := h.2.1; omega))
theorem sj_lcp_eq {n m : Nat} {f g : Nat → Int64} {p : Nat} (h : sj_isL n f m g p) : sj_lcp n f m g = p := sj_isL_uniq (sj_lcp_is n f m g) h
theorem sj_lcp_congr {n m : Nat} {f g f' g' : Nat → Int64} (hf : ∀ j, j < n → f j = f' j) (hg : ∀ j, j < m → g j = g' j) : sj_lcp n f m g = sj_lcp n f' m g' := by
  have h := sj_lcp_is n f' m g'
  refine sj_lcp_eq ⟨h.1, h.2.1, fun j hj => ?_, fun a b => ?_⟩
  · rw [hf j (by have := h.1; omega), hg j (by have := h.2.1; omega)]; exact h.2.2.1 j hj
  · rw [hf _ a, hg _ b]; exact h.2.2.2 a b
theorem sj_lcp_comm (n : Nat) (f : Nat → Int64) (m : Nat) (g : Nat → Int64) : sj_lcp n f m g = sj_lcp m g n f := by
  have h := sj_lcp_is m g n f
  exact sj_lcp_eq ⟨h.2.1, h.1, fun j hj => (h.2.2.1 j hj).symm, fun a b e => h.2.2.2 b a e.symm⟩
/-! orders: by the numbers as they are, and without their signs -/
def sj_key (u : Bool) (x : Int64) : Int := if u then (x.toUInt64.toNat : Int) else x.toInt
theorem sj_key_inj {u : Bool} {x y : Int64} (h : sj_key u x = sj_key u y) : x = y := by
  unfold sj_key at h
  cases u with
  | false => exact Int64.toInt_inj.mp h
  | true =>
    have h1 : x.toUInt64.toNat = y.toUInt64.toNat := Int.ofNat.inj h
    have h2 : x.toUInt64 = y.toUInt64 := UInt64.toNat_inj.mp h1
    cases x; cases y; exact congrArg _ h2
def sj_nc (u : Bool) (x y : Int64) : Int32 := if x = y then nI 0 else if sj_key u x < sj_key u y then -nI 1 else nI 1
def sj_wc (u : Bool) (n : Nat) (f : Nat → Int64) (m : Nat) (g : Nat → Int64) : Int32 := if sj_lcp n f m g < n ∧ sj_lcp n f m g < m then sj_nc u (f (sj_lcp n f m g)) (g (sj_lcp n f m g)) else if n = m then nI 0 else if n < m then -nI 1 else nI 1
theorem sj_wc_congr {u : Bool} {n m : Nat} {f g f' g' : Nat → Int64} (hf : ∀ j, j < n → f j = f' j) (hg : ∀ j, j < m → g j = g' j) : sj_wc u n f m g = sj_wc u n f' m g' := by
  unfold sj_wc
  rw [sj_lcp_congr hf hg]
  split
  · rename_i h; rw [hf _ h.1, hg _ h.2]
  · rfl
theorem sj_xor63 {y : Nat} (h : y < 9223372036854775808) : y ^^^ 9223372036854775808 = 9223372036854775808 + y := by
  have e : (9223372036854775808 : Nat) = 2 ^ 63 := by decide
  rw [e] at h ⊢
  apply Nat.eq_of_testBit_eq
  intro i
  rw [Nat.testBit_xor, Nat.testBit_two_pow]
  rcases Nat.lt_trichotomy i 63 with c | c | c
  · rw [Nat.testBit_two_pow_add_gt c, decide_eq_false (by omega), Bool.xor_false]
  · subst c
    rw [Nat.testBit_two_pow_add_eq, Nat.testBit_lt_two_pow h]
    rfl
  · have h1 : y.testBit i = false := Nat.testBit_lt_two_pow (Nat.lt_of_lt_of_le h (Nat.pow_le_pow_right (by decide) (by omega)))
    have h2 : (2 ^ 63 + y).testBit i = false := Nat.testBit_lt_two_pow (Nat.lt_of_lt_of_le (by omega : 2 ^ 63 + y < 2 ^ 64) (Nat.pow_le_pow_right (by decide) (by omega)))
    rw [h1, h2, decide_eq_false (by omega)]
    rfl
/-- the top bit turned: the order without signs becomes the order with them -/
theorem sj_top (x : Int64) : (x ^^^ -9223372036854775808).toInt = sj_key true x - 9223372036854775808 := by
  have h1 : (x ^^^ -9223372036854775808).toInt = (x.toBitVec ^^^ (-9223372036854775808 : Int64).toBitVec).toInt := by rw [← Int64.toBitVec_xor]; rfl
  have h2 : sj_key true x = (x.toBitVec.toNat : Int) := rfl
  have h3 : (-9223372036854775808 : Int64).toBitVec.toNat = 9223372036854775808 := by decide
  have h6 := x.toBitVec.isLt
  rw [h1, h2, BitVec.toInt_eq_toNat_cond, BitVec.toNat_xor, h3]
  by_cases c : x.toBitVec.toNat < 9223372036854775808
  · rw [sj_xor63 c]
    split <;> omega
  · have h4 : x.toBitVec.toNat = (x.toBitVec.toNat - 9223372036854775808) ^^^ 9223372036854775808 := by
      rw [sj_xor63 (by omega)]
      omega
    have h5 : x.toBitVec.toNat ^^^ 9223372036854775808 = x.toBitVec.toNat - 9223372036854775808 := by
      generalize x.toBitVec.toNat - 9223372036854775808 = z at h4 ⊢
      rw [h4, Nat.xor_assoc, Nat.xor_self, Nat.xor_zero]
    rw [h5]
    split <;> omega

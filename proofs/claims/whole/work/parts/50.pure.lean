/-! THE PURE PART. Numbers first: plain facts -/
theorem sj_lit (n : Nat) : (OfNat.ofNat n : Int32) = nI n := rfl
theorem sj_n0 : (0 : Int32) = nI 0 := rfl
theorem sj_nI_inj {a b : Nat} (ha : a < 2147483648) (hb : b < 2147483648) : nI a = nI b ↔ a = b := nI_eq ha hb
theorem sj_nI_lt {a b : Nat} (ha : a < 2147483648) (hb : b < 2147483648) : nI a < nI b ↔ a < b := nI_ltI ha hb
theorem sj_nI_le {a b : Nat} (ha : a < 2147483648) (hb : b < 2147483648) : nI a ≤ nI b ↔ a ≤ b := nI_leI ha hb
theorem sj_cl {n : Nat} (h : n < 2147483648) : (nI n).toNatClampNeg = n := nI_clamp h
theorem sj_in {n N : Nat} (h : n < N) (hN : N ≤ 4096) : vp_in (nI n) N := vp_in_nI h (by omega)
/-- an index below n that an argument is, if it is one -/
def sj_ix (n : Nat) (x : Int32) : Option Nat := if 0 ≤ x.toInt ∧ x.toInt < n then some x.toInt.toNat else none
theorem sj_ix_some {n j : Nat} {x : Int32} (h : sj_ix n x = some j) : x = nI j ∧ j < n := by
  unfold sj_ix at h
  split at h
  · rename_i hc
    cases h
    refine ⟨Int32.toInt_inj.mp ?_, by omega⟩
    have h1 : x.toInt < 2147483648 := Int32.toInt_lt x
    rw [nI_toInt (by omega)]
    omega
  · cases h
theorem sj_ix_none {n : Nat} {x : Int32} (h : sj_ix n x = none) : x.toInt < 0 ∨ (n : Int) ≤ x.toInt := by
  unfold sj_ix at h
  split at h
  · cases h
  · omega
theorem sj_ix_nI {n j : Nat} (h : j < n) (hn : n ≤ 2147483647) : sj_ix n (nI j) = some j := by
  unfold sj_ix
  rw [nI_toInt (by omega), if_pos ⟨by omega, by omega⟩]
  rfl
theorem sj_lt_i (a b : Int32) : a < b ↔ a.toInt < b.toInt := Int32.lt_iff_toInt_lt
theorem sj_le_i (a b : Int32) : a ≤ b ↔ a.toInt ≤ b.toInt := Int32.le_iff_toInt_le
theorem sj_ix_neg {n : Nat} {x : Int32} (hn : n < 2147483648) (h : sj_ix n x = none) : x < 0 ∨ (¬ x < 0 ∧ nI n ≤ x) := by
  have h1 := sj_ix_none h
  rw [sj_lt_i, sj_le_i, nI_toInt hn]
  have h2 : (0 : Int32).toInt = 0 := rfl
  rw [h2]
  omega
theorem sj_ix_pos {n j : Nat} {x : Int32} (hn : n < 2147483648) (h : sj_ix n x = some j) : ¬ x < 0 ∧ ¬ nI n ≤ x ∧ x < nI n := by
  obtain ⟨rfl, hj⟩ := sj_ix_some h
  rw [sj_lt_i, sj_le_i, sj_lt_i, nI_toInt hn, nI_toInt (by omega)]
  have h2 : (0 : Int32).toInt = 0 := rfl
  rw [h2]
  omega
/-! kinds, orders, questions -/
def sj_kd (a : Int32) : Option Nat := if a = 98 then some 0 else if a = 115 then some 1 else if a = 105 then some 2 else if a = 108 then some 3 else none
def sj_od (a : Int32) : Option Bool := if a = 115 then some false else if a = 117 then some true else none
theorem sj_kd_lt {a : Int32} {k : Nat} (h : sj_kd a = some k) : k < 4 := by
  unfold sj_kd at h
  repeat' split at h
  all_goals first | (cases h; omega) | cases h
/-! the abstract state: sixteen rows (4 times the kind and the row: size, numbers), twelve spans (row, from, to), the list (size, numbers) -/
abbrev sj_S : Type := (Nat → Nat) × (Nat → Nat → Int64) × (Nat → Nat) × (Nat → Nat) × (Nat → Nat) × Nat × (Nat → Nat)
def sj_n (σ : sj_S) : Nat → Nat := σ.1
def sj_x (σ : sj_S) : Nat → Nat → Int64 := σ.2.1
def sj_pr (σ : sj_S) : Nat → Nat := σ.2.2.1
def sj_pf (σ : sj_S) : Nat → Nat := σ.2.2.2.1
def sj_pt (σ : sj_S) : Nat → Nat := σ.2.2.2.2.1
def sj_ln (σ : sj_S) : Nat := σ.2.2.2.2.2.1
def sj_lx (σ : sj_S) : Nat → Nat := σ.2.2.2.2.2.2
def sj_S0 : sj_S := (fun _ => 0, fun _ _ => 0, fun _ => 0, fun _ => 0, fun _ => 0, 0, fun _ => 0)
def sj_setR (σ : sj_S) (k n : Nat) (f : Nat → Int64) : sj_S := (fun j => if j = k then n else σ.1 j, fun j => if j = k then f else σ.2.1 j, σ.2.2)
def sj_setP (σ : sj_S) (k r f t : Nat) : sj_S := (σ.1, σ.2.1, fun j => if j = k then r else σ.2.2.1 j, fun j => if j = k then f else σ.2.2.2.1 j, fun j => if j = k then t else σ.2.2.2.2.1 j, σ.2.2.2.2.2)
def sj_setL (σ : sj_S) (n : Nat) (l : Nat → Nat) : sj_S := (σ.1, σ.2.1, σ.2.2.1, σ.2.2.2.1, σ.2.2.2.2.1, n, l)
def sj_half (k : Nat) : Int := if k = 0 then 128 else if k = 1 then 32768 else if k = 2 then 2147483648 else 9223372036854775808
abbrev sj_inK (k : Nat) (x : Int64) : Prop := -sj_half k ≤ x.toInt ∧ x.toInt < sj_half k
def sj_wf (σ : sj_S) : Prop := (∀ k, k < 16 → sj_n σ k ≤ 32 ∧ ∀ j, j < sj_n σ k → sj_inK (k / 4) (sj_x σ k j)) ∧ (∀ k, k < 12 → sj_pr σ k < 4 ∧ sj_pf σ k ≤ sj_pt σ k ∧ sj_pt σ k ≤ 32) ∧ sj_ln σ ≤ 12 ∧ ∀ j, j < sj_ln σ → sj_lx σ j < 12
/-! addresses: La i, all apart, none 0 -/
def sj_La (La : Nat → Nat) : Prop := (∀ i j, La i = La j → i = j) ∧ ∀ i, La i ≠ 0
/-- what a world keeps at an address -/
def sj_eq (w w' : sj_W) (a : Nat) : Prop := (∀ f, sj_I w' f a = sj_I w f a) ∧ (∀ f, sj_A w' f a = sj_A w f a) ∧ (∀ j, sj_i w' a j = sj_i w a j) ∧ (∀ j, sj_l w' a j = sj_l w a j) ∧ (∀ j, sj_r w' a j = sj_r w a j) ∧ ∀ j, sj_d w' a j = sj_d w a j
/-- nothing that was there has changed, but what stands at X; and there no reference but that of field 5 -/
def sj_fr (X : Nat → Prop) (w w' : sj_W) : Prop := ∀ a, sj_T w a ≠ 0 → sj_T w' a = sj_T w a ∧ sj_N w' a = sj_N w a ∧ (∀ f, f ≠ 5 → sj_A w' f a = sj_A w f a) ∧ (∀ j, sj_r w' a j = sj_r w a j) ∧ (¬ X a → sj_eq w w' a)
theorem sj_eq.rfl' {w : sj_W} {a : Nat} : sj_eq w w a := ⟨fun _ => rfl, fun _ => rfl, fun _ => rfl, fun _ => rfl, fun _ => rfl, fun _ => rfl⟩
theorem sj_eq.trans {w1 w2 w3 : sj_W} {a : Nat} (h : sj_eq w1 w2 a) (g : sj_eq w2 w3 a) : sj_eq w1 w3 a := ⟨fun f => (g.1 f).trans (h.1 f), fun f => (g.2.1 f).trans (h.2.1 f), fun f => (g.2.2.1 f).trans (h.2.2.1 f), fun f => (g.2.2.2.1 f).trans (h.2.2.2.1 f), fun f => (g.2.2.2.2.1 f).trans (h.2.2.2.2.1 f), fun f => (g.2.2.2.2.2 f).trans (h.2.2.2.2.2 f)⟩
theorem sj_fr.rf {X : Nat → Prop} {w : sj_W} : sj_fr X w w := fun _ _ => ⟨rfl, rfl, fun _ _ => rfl, fun _ => rfl, fun _ => sj_eq.rfl'⟩
theorem sj_fr.trans {X : Nat → Prop} {w1 w2 w3 : sj_W} (h : sj_fr X w1 w2) (g : sj_fr X w2 w3) : sj_fr X w1 w3 := by
  intro a ha
  obtain ⟨h1, h2, h3, h4, h5⟩ := h a ha
  obtain ⟨g1, g2, g3, g4, g5⟩ := g a (by rw [h1]; exact ha)
  exact ⟨g1.trans h1, g2.trans h2, fun f hf => (g3 f hf).trans (h3 f hf), fun j => (g4 j).trans (h4 j), fun hx => (h5 hx).trans (g5 hx)⟩
theorem sj_fr.mono {X Y : Nat → Prop} {w w' : sj_W} (h : sj_fr X w w') (hXY : ∀ a, X a → Y a) : sj_fr Y w w' := fun a ha => ⟨(h a ha).1, (h a ha).2.1, (h a ha).2.2.1, (h a ha).2.2.2.1, fun hy => (h a ha).2.2.2.2 fun hx => hy (hXY a hx)⟩
def sj_no : Nat → Prop := fun _ => False
theorem sj_fr.no {X : Nat → Prop} {w w' : sj_W} (h : sj_fr sj_no w w') : sj_fr X w w' := h.mono fun _ q => q.elim
theorem sj_fr.T {X : Nat → Prop} {w w' : sj_W} (h : sj_fr X w w') {q : Nat} (hq : sj_T w' q = 0) : sj_T w q = 0 := Classical.byContradiction fun z => z ((h q z).1.symm.trans hq)
/-- a writing at X, or at what was not there at first -/
theorem sj_fr.I {X : Nat → Prop} {w0 w : sj_W} {f a : Nat} {v : Int32} (h : sj_fr X w0 w) (hx : X a ∨ sj_T w0 a = 0) : sj_fr X w0 (sj_sI w f a v) := fun b hb => ⟨(h b hb).1, (h b hb).2.1, (h b hb).2.2.1, (h b hb).2.2.2.1, fun z => sj_eq.trans ((h b hb).2.2.2.2 z) ⟨fun g => if_neg (fun q : g = f ∧ b = a => hx.elim (fun t => z (q.2 ▸ t)) (fun t => hb (q.2 ▸ t))), fun _ => rfl, fun _ => rfl, fun _ => rfl, fun _ => rfl, fun _ => rfl⟩⟩
theorem sj_fr.A {X : Nat → Prop} {w0 w : sj_W} {f a v : Nat} (h : sj_fr X w0 w) (hx : (X a ∧ f = 5) ∨ sj_T w0 a = 0) : sj_fr X w0 (sj_sA w f a v) := fun b hb => ⟨(h b hb).1, (h b hb).2.1, fun g hg => (show (if g = f ∧ b = a then v else sj_A w g b) = _ from (if_neg (fun q : g = f ∧ b = a => hx.elim (fun t => hg (q.1.trans t.2)) (fun t => hb (q.2 ▸ t)))).trans ((h b hb).2.2.1 g hg)), (h b hb).2.2.2.1, fun z => sj_eq.trans ((h b hb).2.2.2.2 z) ⟨fun _ => rfl, fun g => if_neg (fun q : g = f ∧ b = a => hx.elim (fun t => z (q.2 ▸ t.1)) (fun t => hb (q.2 ▸ t))), fun _ => rfl, fun _ => rfl, fun _ => rfl, fun _ => rfl⟩⟩
theorem sj_fr.i {X : Nat → Prop} {w0 w : sj_W} {a j : Nat} {v : Int32} (h : sj_fr X w0 w) (hx : X a ∨ sj_T w0 a = 0) : sj_fr X w0 (sj_si w a j v) := fun b hb => ⟨(h b hb).1, (h b hb).2.1, (h b hb).2.2.1, (h b hb).2.2.2.1, fun z => sj_eq.trans ((h b hb).2.2.2.2 z) ⟨fun _ => rfl, fun _ => rfl, fun g => if_neg (fun q : b = a ∧ g = j => hx.elim (fun t => z (q.1 ▸ t)) (fun t => hb (q.1 ▸ t))), fun _ => rfl, fun _ => rfl, fun _ => rfl⟩⟩
theorem sj_fr.l {X : Nat → Prop} {w0 w : sj_W} {a j : Nat} {v : Int64} (h : sj_fr X w0 w) (hx : X a ∨ sj_T w0 a = 0) : sj_fr X w0 (sj_sl w a j v) := fun b hb => ⟨(h b hb).1, (h b hb).2.1, (h b hb).2.2.1, (h b hb).2.2.2.1, fun z => sj_eq.trans ((h b hb).2.2.2.2 z) ⟨fun _ => rfl, fun _ => rfl, fun _ => rfl, fun g => if_neg (fun q : b = a ∧ g = j => hx.elim (fun t => z (q.1 ▸ t)) (fun t => hb (q.1 ▸ t))), fun _ => rfl, fun _ => rfl⟩⟩
theorem sj_fr.d {X : Nat → Prop} {w0 w : sj_W} {a j : Nat} {v : UInt64} (h : sj_fr X w0 w) (hx : X a ∨ sj_T w0 a = 0) : sj_fr X w0 (sj_sd w a j v) := fun b hb => ⟨(h b hb).1, (h b hb).2.1, (h b hb).2.2.1, (h b hb).2.2.2.1, fun z => sj_eq.trans ((h b hb).2.2.2.2 z) ⟨fun _ => rfl, fun _ => rfl, fun _ => rfl, fun _ => rfl, fun _ => rfl, fun g => if_neg (fun q : b = a ∧ g = j => hx.elim (fun t => z (q.1 ▸ t)) (fun t => hb (q.1 ▸ t)))⟩⟩
theorem sj_fr.r {X : Nat → Prop} {w0 w : sj_W} {a j v : Nat} (h : sj_fr X w0 w) (hx : sj_T w0 a = 0) : sj_fr X w0 (sj_sr w a j v) := fun b hb => ⟨(h b hb).1, (h b hb).2.1, (h b hb).2.2.1, fun g => (show (if b = a ∧ g = j then v else sj_r w b g) = _ from (if_neg (fun q : b = a ∧ g = j => hb (q.1 ▸ hx))).trans ((h b hb).2.2.2.1 g)), fun z => sj_eq.trans ((h b hb).2.2.2.2 z) ⟨fun _ => rfl, fun _ => rfl, fun _ => rfl, fun _ => rfl, fun g => if_neg (fun q : b = a ∧ g = j => hb (q.1 ▸ hx)), fun _ => rfl⟩⟩
theorem sj_fr.nw {X : Nat → Prop} {w0 w : sj_W} {q t n : Nat} (h : sj_fr X w0 w) (hx : sj_T w q = 0) : sj_fr X w0 (sj_nw w q t n) := fun b hb => by
  have hq : b ≠ q := fun e => hb (e ▸ h.T hx)
  exact ⟨(if_neg hq).trans (h b hb).1, (if_neg hq).trans (h b hb).2.1, fun g hg => (show (if b = q then 0 else sj_A w g b) = _ from (if_neg hq).trans ((h b hb).2.2.1 g hg)), fun j => (show (if b = q then 0 else sj_r w b j) = _ from (if_neg hq).trans ((h b hb).2.2.2.1 j)), fun z => sj_eq.trans ((h b hb).2.2.2.2 z) ⟨fun _ => if_neg hq, fun _ => if_neg hq, fun _ => if_neg hq, fun _ => if_neg hq, fun _ => if_neg hq, fun _ => if_neg hq⟩⟩
/-! a word: an object of Word over a row of numbers -/
def sj_Wo (w : sj_W) (q : Nat) (n : Nat) (x : Nat → Int64) : Prop := sj_T w q = 4 ∧ ∃ a f : Nat, sj_A w 24 q = a ∧ a ≠ 0 ∧ sj_T w a = 8 ∧ sj_I w 25 q = nI f ∧ sj_I w 26 q = nI (f + n) ∧ f + n ≤ sj_N w a ∧ sj_N w a ≤ 32 ∧ ∀ j, j < n → sj_l w a (f + j) = x j
theorem sj_Wo.fr {X : Nat → Prop} {w w' : sj_W} {q n : Nat} {x : Nat → Int64} (h : sj_Wo w q n x) (g : sj_fr X w w') (hX : ∀ a, X a → sj_T w a ≠ 4 ∧ sj_T w a ≠ 8) : sj_Wo w' q n x := by
  obtain ⟨h0, a, f, h1, h2, h3, h4, h5, h6, h7, h8⟩ := h
  obtain ⟨g1, g2, -, -, g3⟩ := g q (by omega)
  have g3 := g3 (fun q => (hX _ q).1 h0)
  obtain ⟨k1, k2, -, -, k3⟩ := g a (by omega)
  have k3 := k3 (fun q => (hX _ q).2 h3)
  exact ⟨g1.trans h0, a, f, (g3.2.1 24).trans h1, h2, k1.trans h3, (g3.1 25).trans h4, (g3.1 26).trans h5, by rw [k2]; exact h6, by rw [k2]; exact h7, fun j hj => (k3.2.2.2.1 _).trans (h8 j hj)⟩
theorem sj_Wo.no {w w' : sj_W} {q n : Nat} {x : Nat → Int64} (h : sj_Wo w q n x) (g : sj_fr sj_no w w') : sj_Wo w' q n x := h.fr g fun _ z => z.elim
/-! what the component's cells are -/
def sj_Sh (La : Nat → Nat) (w : sj_W) : Prop :=
  (sj_T w (La 0) = 5 ∧ sj_A w 32 (La 0) = La 1 ∧ sj_A w 33 (La 0) = La 2 ∧ sj_A w 34 (La 0) = La 3 ∧ sj_A w 35 (La 0) = La 4) ∧
  (sj_T w (La 1) = 10 ∧ sj_N w (La 1) = 16 ∧ ∀ k, k < 16 → sj_r w (La 1) k = La (100 + k)) ∧
  (sj_T w (La 2) = 11 ∧ sj_N w (La 2) = 12 ∧ ∀ k, k < 12 → sj_r w (La 2) k = La (140 + k)) ∧
  (sj_T w (La 3) = 7 ∧ sj_N w (La 3) = 12) ∧
  (∀ k, k < 16 → sj_T w (La (100 + k)) = 2 ∧ sj_A w 8 (La (100 + k)) = La (120 + k)) ∧
  (∀ k, k < 16 → sj_T w (La (120 + k)) = 8 ∧ sj_N w (La (120 + k)) = 32) ∧
  (∀ k, k < 12 → sj_T w (La (140 + k)) = 3) ∧
  (sj_T w (La 4) = 1 ∧ sj_A w 0 (La 4) = La 5 ∧ sj_A w 1 (La 4) = La 6 ∧ sj_A w 2 (La 4) = La 7 ∧ sj_A w 3 (La 4) = La 8) ∧
  (sj_T w (La 5) = 13 ∧ sj_N w (La 5) = 33 ∧ ∀ k, k < 33 → sj_r w (La 5) k = La (10 + k) ∧ sj_T w (La (10 + k)) = 7 ∧ sj_N w (La (10 + k)) = 33) ∧
  (sj_T w (La 6) = 13 ∧ sj_N w (La 6) = 33 ∧ ∀ k, k < 33 → sj_r w (La 6) k = La (50 + k) ∧ sj_T w (La (50 + k)) = 7 ∧ sj_N w (La (50 + k)) = 33) ∧
  (sj_T w (La 7) = 7 ∧ sj_N w (La 7) = 32) ∧ (sj_T w (La 8) = 7 ∧ sj_N w (La 8) = 32)
def sj_Va (La : Nat → Nat) (σ : sj_S) (w : sj_W) : Prop :=
  (∀ k, k < 16 → sj_I w 9 (La (100 + k)) = nI (sj_n σ k) ∧ ∀ j, j < sj_n σ k → sj_l w (La (120 + k)) j = sj_x σ k j) ∧
  (∀ k, k < 12 → sj_I w 16 (La (140 + k)) = nI (sj_pr σ k) ∧ sj_I w 17 (La (140 + k)) = nI (sj_pf σ k) ∧ sj_I w 18 (La (140 + k)) = nI (sj_pt σ k)) ∧
  sj_I w 36 (La 0) = nI (sj_ln σ) ∧ ∀ j, j < sj_ln σ → sj_i w (La 3) j = nI (sj_lx σ j)
def sj_Cm (La : Nat → Nat) (σ : sj_S) (w : sj_W) : Prop := sj_Sh La w ∧ sj_Va La σ w
/-! what the reference's cells are, and the law's own two arrays -/
def sj_Mo (La : Nat → Nat) (σ : sj_S) (w : sj_W) : Prop :=
  (sj_T w (La 200) = 6 ∧ sj_A w 40 (La 200) = La 201 ∧ sj_A w 41 (La 200) = La 202 ∧ sj_A w 42 (La 200) = La 203 ∧ sj_A w 43 (La 200) = La 204 ∧ sj_A w 44 (La 200) = La 205 ∧ sj_A w 45 (La 200) = La 206) ∧
  (sj_T w (La 201) = 8 ∧ sj_N w (La 201) = 512) ∧ (sj_T w (La 202) = 7 ∧ sj_N w (La 202) = 16) ∧ (sj_T w (La 203) = 7 ∧ sj_N w (La 203) = 12) ∧ (sj_T w (La 204) = 7 ∧ sj_N w (La 204) = 12) ∧ (sj_T w (La 205) = 7 ∧ sj_N w (La 205) = 12) ∧ (sj_T w (La 206) = 7 ∧ sj_N w (La 206) = 12) ∧
  (∀ k, k < 16 → sj_i w (La 202) k = nI (sj_n σ k) ∧ ∀ j, j < sj_n σ k → sj_l w (La 201) (32 * k + j) = sj_x σ k j) ∧
  (∀ k, k < 12 → sj_i w (La 203) k = nI (sj_pr σ k) ∧ sj_i w (La 204) k = nI (sj_pf σ k) ∧ sj_i w (La 205) k = nI (sj_pt σ k)) ∧
  sj_I w 46 (La 200) = nI (sj_ln σ) ∧ ∀ j, j < sj_ln σ → sj_i w (La 206) j = nI (sj_lx σ j)
def sj_Ou (La : Nat → Nat) (w : sj_W) : Prop := (sj_T w (La 210) = 8 ∧ sj_N w (La 210) = 1) ∧ (sj_T w (La 211) = 9 ∧ sj_N w (La 211) = 1)
theorem sj_Sh.fr {La : Nat → Nat} {X : Nat → Prop} {w w' : sj_W} (h : sj_Sh La w) (g : sj_fr X w w') : sj_Sh La w' := by
  obtain ⟨⟨a1, a2, a3, a4, a5⟩, ⟨b1, b2, b3⟩, ⟨c1, c2, c3⟩, ⟨d1, d2⟩, e1, f1, g1, ⟨h1, h2, h3, h4, h5⟩, ⟨i1, i2, i3⟩, ⟨j1, j2, j3⟩, ⟨k1, k2⟩, ⟨l1, l2⟩⟩ := h
  have t0 := g (La 0) (by omega)
  have t1 := g (La 1) (by omega)
  have t2 := g (La 2) (by omega)
  have t3 := g (La 3) (by omega)
  have t4 := g (La 4) (by omega)
  have t5 := g (La 5) (by omega)
  have t6 := g (La 6) (by omega)
  have t7 := g (La 7) (by omega)
  have t8 := g (La 8) (by omega)
  refine ⟨⟨t0.1.trans a1, (t0.2.2.1 32 (by decide)).trans a2, (t0.2.2.1 33 (by decide)).trans a3, (t0.2.2.1 34 (by decide)).trans a4, (t0.2.2.1 35 (by decide)).trans a5⟩, ⟨t1.1.trans b1, t1.2.1.trans b2, fun k hk => (t1.2.2.2.1 k).trans (b3 k hk)⟩, ⟨t2.1.trans c1, t2.2.1.trans c2, fun k hk => (t2.2.2.2.1 k).trans (c3 k hk)⟩, ⟨t3.1.trans d1, t3.2.1.trans d2⟩, fun k hk => ?_, fun k hk => ?_, fun k hk => ?_, ⟨t4.1.trans h1, (t4.2.2.1 0 (by decide)).trans h2, (t4.2.2.1 1 (by decide)).trans h3, (t4.2.2.1 2 (by decide)).trans h4, (t4.2.2.1 3 (by decide)).trans h5⟩, ⟨t5.1.trans i1, t5.2.1.trans i2, fun k hk => ?_⟩, ⟨t6.1.trans j1, t6.2.1.trans j2, fun k hk => ?_⟩, ⟨t7.1.trans k1, t7.2.1.trans k2⟩, ⟨t8.1.trans l1, t8.2.1.trans l2⟩⟩
  · obtain ⟨u1, u2⟩ := e1 k hk
    have t := g (La (100 + k)) (by omega)
    exact ⟨t.1.trans u1, (t.2.2.1 8 (by decide)).trans u2⟩
  · obtain ⟨u1, u2⟩ := f1 k hk
    have t := g (La (120 + k)) (by omega)
    exact ⟨t.1.trans u1, t.2.1.trans u2⟩
  · have u1 := g1 k hk
    exact (g (La (140 + k)) (by omega)).1.trans u1
  · obtain ⟨u1, u2, u3⟩ := i3 k hk
    have t := g (La (10 + k)) (by omega)
    exact ⟨(t5.2.2.2.1 k).trans u1, t.1.trans u2, t.2.1.trans u3⟩
  · obtain ⟨u1, u2, u3⟩ := j3 k hk
    have t := g (La (50 + k)) (by omega)
    exact ⟨(t6.2.2.2.1 k).trans u1, t.1.trans u2, t.2.1.trans u3⟩
theorem sj_Va.fr {La : Nat → Nat} {X : Nat → Prop} {σ : sj_S} {w w' : sj_W} (hS : sj_Sh La w) (h : sj_Va La σ w) (g : sj_fr X w w') (hX : ∀ i, (i = 0 ∨ i = 3 ∨ 100 ≤ i) → i < 200 → ¬ X (La i)) : sj_Va La σ w' := by
  obtain ⟨h1, h2, h3, h4⟩ := h
  refine ⟨fun k hk => ?_, fun k hk => ?_, ?_, fun j hj => ?_⟩
  · have u := (g (La (100 + k)) (by rw [(hS.2.2.2.2.1 k hk).1]; omega)).2.2.2.2 (hX _ (by omega) (by omega))
    have v := (g (La (120 + k)) (by rw [(hS.2.2.2.2.2.1 k hk).1]; omega)).2.2.2.2 (hX _ (by omega) (by omega))
    exact ⟨(u.1 9).trans (h1 k hk).1, fun j hj => (v.2.2.2.1 j).trans ((h1 k hk).2 j hj)⟩
  · have u := (g (La (140 + k)) (by rw [hS.2.2.2.2.2.2.1 k hk]; omega)).2.2.2.2 (hX _ (by omega) (by omega))
    exact ⟨(u.1 16).trans (h2 k hk).1, (u.1 17).trans (h2 k hk).2.1, (u.1 18).trans (h2 k hk).2.2⟩
  · have u := (g (La 0) (by rw [hS.1.1]; omega)).2.2.2.2 (hX 0 (by omega) (by omega))
    exact (u.1 36).trans h3
  · have u := (g (La 3) (by rw [hS.2.2.2.1.1]; omega)).2.2.2.2 (hX 3 (by omega) (by omega))
    exact (u.2.2.1 j).trans (h4 j hj)
/-- nothing of the component but the work tables of its endings has changed -/
theorem sj_Cm.fr {La : Nat → Nat} {X : Nat → Prop} {σ : sj_S} {w w' : sj_W} (h : sj_Cm La σ w) (g : sj_fr X w w') (hX : ∀ i, i < 200 → X (La i) → i = 4 ∨ i = 7 ∨ i = 8 ∨ (10 ≤ i ∧ i < 100)) : sj_Cm La σ w' := ⟨h.1.fr g, sj_Va.fr h.1 h.2 g (fun i hi hl q => by have := hX i hl q; omega)⟩
theorem sj_Cm.no {La : Nat → Nat} {σ : sj_S} {w w' : sj_W} (h : sj_Cm La σ w) (g : sj_fr sj_no w w') : sj_Cm La σ w' := h.fr g fun _ _ q => q.elim
theorem sj_Mo.fr {La : Nat → Nat} {X : Nat → Prop} {σ : sj_S} {w w' : sj_W} (h : sj_Mo La σ w) (g : sj_fr X w w') (hX : ∀ i, 201 ≤ i → i < 207 → ¬ X (La i)) (hc : sj_I w' 46 (La 200) = sj_I w 46 (La 200)) : sj_Mo La σ w' := by
  obtain ⟨⟨a1, a2, a3, a4, a5, a6, a7⟩, ⟨b1, b2⟩, ⟨c1, c2⟩, ⟨d1, d2⟩, ⟨e1, e2⟩, ⟨f1, f2⟩, ⟨g1, g2⟩, h1, i1, j1, k1⟩ := h
  have t0 := g (La 200) (by omega)
  have t1 := g (La 201) (by omega); have q1 := t1.2.2.2.2 (hX 201 (by omega) (by omega))
  have t2 := g (La 202) (by omega); have q2 := t2.2.2.2.2 (hX 202 (by omega) (by omega))
  have t3 := g (La 203) (by omega); have q3 := t3.2.2.2.2 (hX 203 (by omega) (by omega))
  have t4 := g (La 204) (by omega); have q4 := t4.2.2.2.2 (hX 204 (by omega) (by omega))
  have t5 := g (La 205) (by omega); have q5 := t5.2.2.2.2 (hX 205 (by omega) (by omega))
  have t6 := g (La 206) (by omega); have q6 := t6.2.2.2.2 (hX 206 (by omega) (by omega))
  exact ⟨⟨t0.1.trans a1, (t0.2.2.1 _ (by decide)).trans a2, (t0.2.2.1 _ (by decide)).trans a3, (t0.2.2.1 _ (by decide)).trans a4, (t0.2.2.1 _ (by decide)).trans a5, (t0.2.2.1 _ (by decide)).trans a6, (t0.2.2.1 _ (by decide)).trans a7⟩, ⟨t1.1.trans b1, t1.2.1.trans b2⟩, ⟨t2.1.trans c1, t2.2.1.trans c2⟩, ⟨t3.1.trans d1, t3.2.1.trans d2⟩, ⟨t4.1.trans e1, t4.2.1.trans e2⟩, ⟨t5.1.trans f1, t5.2.1.trans f2⟩, ⟨t6.1.trans g1, t6.2.1.trans g2⟩,
    fun k hk => ⟨(q2.2.2.1 k).trans (h1 k hk).1, fun j hj => (q1.2.2.2.1 _).trans ((h1 k hk).2 j hj)⟩, fun k hk => ⟨(q3.2.2.1 k).trans (i1 k hk).1, (q4.2.2.1 k).trans (i1 k hk).2.1, (q5.2.2.1 k).trans (i1 k hk).2.2⟩, hc.trans j1, fun j hj => (q6.2.2.1 j).trans (k1 j hj)⟩
theorem sj_Ou.fr {La : Nat → Nat} {X : Nat → Prop} {w w' : sj_W} (h : sj_Ou La w) (g : sj_fr X w w') : sj_Ou La w' := by
  obtain ⟨⟨a1, a2⟩, ⟨b1, b2⟩⟩ := h
  have t1 := g (La 210) (by omega)
  have t2 := g (La 211) (by omega)
  exact ⟨⟨t1.1.trans a1, t1.2.1.trans a2⟩, ⟨t2.1.trans b1, t2.2.1.trans b2⟩⟩

/-! WHAT IS MADE, WHAT IS THROWN, and a method's entry, over the world -/
theorem sj_e_nw {cA : Nat → ClassId} {w : sj_W} {q t n b : Nat} (hb : b ≠ q) : sj_e cA (sj_nw w q t n) b = sj_e cA w b := by
  have hT : sj_T (sj_nw w q t n) b = sj_T w b := if_neg hb
  have hN : sj_N (sj_nw w q t n) b = sj_N w b := if_neg hb
  have hi : sj_i (sj_nw w q t n) b = sj_i w b := funext fun _ => if_neg hb
  have hl : sj_l (sj_nw w q t n) b = sj_l w b := funext fun _ => if_neg hb
  have hr : sj_r (sj_nw w q t n) b = sj_r w b := funext fun _ => if_neg hb
  have hd : sj_d (sj_nw w q t n) b = sj_d w b := funext fun _ => if_neg hb
  have hI : ∀ f, sj_I (sj_nw w q t n) f b = sj_I w f b := fun _ => if_neg hb
  have hA : ∀ f, sj_A (sj_nw w q t n) f b = sj_A w f b := fun _ => if_neg hb
  have hfs : ∀ c, sj_fs (sj_nw w q t n) c b = sj_fs w c b := fun c => by
    unfold sj_fs
    refine List.map_congr_left fun k _ => ?_
    unfold sj_fv
    rw [hI, hA]
  unfold sj_e sj_pl
  rw [hT, hN, hi, hl, hr, hd, hfs]
/-- a new object's fields -/
def sj_f0 (c : Nat) : List Value := (List.range (sj_nf c)).map (fun k => if sj_rf (8 * c + k) = true then .null else .int 0)
theorem sj_fs_nw {w : sj_W} {q t n c : Nat} : sj_fs (sj_nw w q t n) c q = sj_f0 c := by
  unfold sj_fs sj_f0
  refine List.map_congr_left fun k _ => ?_
  have hI : sj_I (sj_nw w q t n) (8 * c + k) q = 0 := if_pos rfl
  have hA : sj_A (sj_nw w q t n) (8 * c + k) q = 0 := if_pos rfl
  unfold sj_fv
  rw [hI, hA]
  rfl
section SJN
variable {p : Program} {l : Launch} {e : Env} {R : Room} {s : State} {m : MethodId} {args : Array Value} {below : List Frame} {meth : Method} {c : Code} {H : Heap} {locs : List Loc} {cells slots : Nat} {Q : State → Prop}
variable {cc : ByteArray} {pc : Nat} {ls : Array Slot} {rest : List Value} {G : sj_G} {own : String} {nL : Nat} {w : sj_W}
theorem sj_newO (hC : sj_C G p l s m args c cc own nL) (hH : sj_H G s w H locs) {ci index : Nat} {C : String} {T : u_T} {N : Nat} (ty : Nat → FieldType) (hc : vwCl[ci]? = some (C, T, N)) (h6 : ci < 6) (hin : ∀ z ∈ u_ws C T N, z ∈ sj_Big) (hty : ∀ k, k < N → parseFieldDescriptor (T k).2.2.1 = some (ty k)) (hcl : Cond.classLink own index C ∈ sj_Big) (hinst : Cond.instantiable C N ∈ sj_Big) (hini : Cond.initialized C ∈ sj_Big) (hdf : ∀ j, j < N → defaultValue (ty j) = vp_V (sj_f0 ci) j) (hcells : cells + 1 ≤ R.cells) (hslots : slots + N ≤ R.slots) (hdg : decode cc pc = .ok (.new index, 3))
    (kk : ∀ (q : Nat) (H1 : Heap), q ≠ 0 → sj_T w q = 0 → sj_H G s (sj_nw w q (ci + 1) 0) H1 locs → W p l e R s m args below meth c H1 locs (cells + 1) (slots + N) Q (F0 m (pc + 3) ls (.ref q :: rest))) : W p l e R s m args below meth c H locs cells slots Q (F0 m pc ls rest) := by
  obtain ⟨hx, hb, -, hown, hts, hK, -⟩ := hC
  obtain ⟨⟨L, hL, hP, hD⟩, hS⟩ := hH
  refine va_new hx hb hts hin ty hty hown (hts _ hcl) (hts _ hinst) (hts _ hini) hK.1 hP hD hS (sj_hA hK) hc hdf hcells hslots hdg (fun q H1 hP1 hD1 hS1 => ?_)
  obtain ⟨h1, h2, h3⟩ := sj_M.push (w' := sj_nw w q (ci + 1) 0) hL hP1 hD1 (t := ci + 1) (by omega) (fun a => rfl) (by
    rw [sj_eO (w := sj_nw w q (ci + 1) 0) (if_pos rfl) h6, sj_fs_nw]) (fun b hb => sj_e_nw hb)
  exact kk q H1 (by have := sj_pos hK; omega) h1 ⟨h3, hS1⟩
theorem sj_newA (hC : sj_C G p l s m args c cc own nL) (hH : sj_H G s w H locs) {t : Nat} {atype : ArrayType} {ty : FieldType} (hty : newarray.typeOf atype = ty) (hat : Cond.arrayClass ty ∈ sj_Big) (hki : (sj_tys G.2.1)[t]? = some (G.2.1 t, ty)) (hno : ∀ C, ty ≠ .object C) {n : Int32} {N : Nat} {a0 : (Nat → Int32) ⊕ (Nat → Int64) ⊕ (Nat → UInt32) ⊕ (Nat → UInt64) ⊕ (Nat → Option Nat)} (ha0 : ∀ q, sj_pl (t + 7) (sj_nw w q (t + 7) N) q = a0) (hcell : ∀ cA : ClassId, vp_cell cA (N, a0) = arrV cA N (fun _ => defaultValue ty)) (hn : ¬ n < 0) (hN : n.toNatClampNeg = N) (hbytes : N * componentBytes ty ≤ 536870912) (hcells : cells + 1 ≤ R.cells) (hslots : slots + N ≤ R.slots) (hdg : decode cc pc = .ok (.newarray atype, 2))
    (kk : ∀ (q : Nat) (H1 : Heap), q ≠ 0 → sj_T w q = 0 → sj_H G s (sj_nw w q (t + 7) N) H1 locs → W p l e R s m args below meth c H1 locs (cells + 1) (slots + N) Q (F0 m (pc + 2) ls (.ref q :: rest))) : W p l e R s m args below meth c H locs cells slots Q (F0 m pc ls (.int n :: rest)) := by
  obtain ⟨hx, hb, -, hown, hts, hK, -⟩ := hC
  obtain ⟨⟨L, hL, hP, hD⟩, hS⟩ := hH
  refine va_newa hx hb (by rw [hty]; exact hts _ hat) hty hK.1 hP hD hS (sj_hA hK) (a0 := (N, a0)) hcell hn hN hbytes hcells hslots hdg (fun q cA H1 hK1 hP1 hD1 hS1 => ?_)
  have hcA : cA = G.2.1 t := by
    have h1 := (hK.1.2 t _ hki).2
    have h2 := (hK1.2 (sj_tys G.2.1).length (cA, ty) (by rw [List.getElem?_append_right (Nat.le_refl _), Nat.sub_self]; rfl)).2
    cases ty with
    | object C => exact absurd rfl (hno C)
    | _ =>
      have h1 : s.vm.findClass _ = some (G.2.1 t) := h1
      have h2 : s.vm.findClass _ = some cA := h2
      exact (Option.some.inj (h1.symm.trans h2)).symm
  subst hcA
  obtain ⟨h1, h2, h3⟩ := sj_M.push (w' := sj_nw w q (t + 7) N) hL hP1 hD1 (t := t + 7) (by omega) (fun a => rfl) (by
    rw [sj_eA (w := sj_nw w q (t + 7) N) (t := t) (if_pos rfl), ha0]
    exact congrArg (fun z => Sum.inl (G.2.1 t, z, a0)) (if_pos rfl)) (fun b hb => sj_e_nw hb)
  exact kk q H1 (by have := sj_pos hK; omega) h1 ⟨h3, hS1⟩
theorem sj_pl_i {w : sj_W} {q t n : Nat} : sj_pl 7 (sj_nw w q t n) q = .inl (fun _ => 0) := by
  unfold sj_pl
  rw [if_pos rfl]
  exact congrArg Sum.inl (funext fun _ => if_pos rfl)
theorem sj_pl_l {w : sj_W} {q t n : Nat} : sj_pl 8 (sj_nw w q t n) q = .inr (.inl (fun _ => 0)) := by
  unfold sj_pl
  rw [if_neg (by decide), if_pos rfl]
  exact congrArg (fun z => Sum.inr (Sum.inl z)) (funext fun _ => if_pos rfl)
theorem sj_pl_d {w : sj_W} {q t n : Nat} : sj_pl 9 (sj_nw w q t n) q = .inr (.inr (.inr (.inl (fun _ => 0)))) := by
  unfold sj_pl
  rw [if_neg (by decide), if_neg (by decide), if_pos rfl]
  exact congrArg (fun z => Sum.inr (Sum.inr (Sum.inr (Sum.inl z)))) (funext fun _ => if_pos rfl)
theorem sj_newI (hC : sj_C G p l s m args c cc own nL) (hH : sj_H G s w H locs) {n : Int32} {N : Nat} (hat : Cond.arrayClass .int ∈ sj_Big) (hn : ¬ n < 0) (hN : n.toNatClampNeg = N) (hb : N ≤ 1000) (hcells : cells + 1 ≤ R.cells) (hslots : slots + N ≤ R.slots) (hdg : decode cc pc = .ok (.newarray .int, 2))
    (kk : ∀ (q : Nat) (w1 : sj_W) (H1 : Heap), q ≠ 0 → sj_T w q = 0 → w1 = sj_nw w q 7 N → sj_H G s w1 H1 locs → W p l e R s m args below meth c H1 locs (cells + 1) (slots + N) Q (F0 m (pc + 2) ls (.ref q :: rest))) : W p l e R s m args below meth c H locs cells slots Q (F0 m pc ls (.int n :: rest)) :=
  sj_newA (t := 0) (atype := .int) (ty := .int) hC hH rfl hat rfl (fun _ h => by cases h) (fun _ => sj_pl_i) (fun _ => rfl) hn hN (by show N * 4 ≤ _; omega) hcells hslots hdg (fun q H1 h1 h2 h => kk q _ H1 h1 h2 rfl h)
theorem sj_newJ (hC : sj_C G p l s m args c cc own nL) (hH : sj_H G s w H locs) {n : Int32} {N : Nat} (hat : Cond.arrayClass .long ∈ sj_Big) (hn : ¬ n < 0) (hN : n.toNatClampNeg = N) (hb : N ≤ 1000) (hcells : cells + 1 ≤ R.cells) (hslots : slots + N ≤ R.slots) (hdg : decode cc pc = .ok (.newarray .long, 2))
    (kk : ∀ (q : Nat) (w1 : sj_W) (H1 : Heap), q ≠ 0 → sj_T w q = 0 → w1 = sj_nw w q 8 N → sj_H G s w1 H1 locs → W p l e R s m args below meth c H1 locs (cells + 1) (slots + N) Q (F0 m (pc + 2) ls (.ref q :: rest))) : W p l e R s m args below meth c H locs cells slots Q (F0 m pc ls (.int n :: rest)) :=
  sj_newA (t := 1) (atype := .long) (ty := .long) hC hH rfl hat rfl (fun _ h => by cases h) (fun _ => sj_pl_l) (fun _ => rfl) hn hN (by show N * 8 ≤ _; omega) hcells hslots hdg (fun q H1 h1 h2 h => kk q _ H1 h1 h2 rfl h)
theorem sj_newD (hC : sj_C G p l s m args c cc own nL) (hH : sj_H G s w H locs) {n : Int32} {N : Nat} (hat : Cond.arrayClass .double ∈ sj_Big) (hn : ¬ n < 0) (hN : n.toNatClampNeg = N) (hb : N ≤ 1000) (hcells : cells + 1 ≤ R.cells) (hslots : slots + N ≤ R.slots) (hdg : decode cc pc = .ok (.newarray .double, 2))
    (kk : ∀ (q : Nat) (w1 : sj_W) (H1 : Heap), q ≠ 0 → sj_T w q = 0 → w1 = sj_nw w q 9 N → sj_H G s w1 H1 locs → W p l e R s m args below meth c H1 locs (cells + 1) (slots + N) Q (F0 m (pc + 2) ls (.ref q :: rest))) : W p l e R s m args below meth c H locs cells slots Q (F0 m pc ls (.int n :: rest)) :=
  sj_newA (t := 2) (atype := .double) (ty := .double) hC hH rfl hat rfl (fun _ h => by cases h) (fun _ => sj_pl_d) (fun _ => rfl) hn hN (by show N * 8 ≤ _; omega) hcells hslots hdg (fun q H1 h1 h2 h => kk q _ H1 h1 h2 rfl h)
theorem sj_newQ (hC : sj_C G p l s m args c cc own nL) (hH : sj_H G s w H locs) {t index : Nat} {C : String} (h3 : 3 ≤ t) (hao : C ∈ sj_AO) (hcl : Cond.classLink own index C ∈ sj_Big) (hki : (sj_tys G.2.1)[t]? = some (G.2.1 t, .object C)) {n : Int32} {N : Nat} (hn : ¬ n < 0) (hN : n.toNatClampNeg = N) (hb : N ≤ 1000) (hcells : cells + 1 ≤ R.cells) (hslots : slots + N ≤ R.slots) (hdg : decode cc pc = .ok (.anewarray index, 3))
    (kk : ∀ (q : Nat) (w1 : sj_W) (H1 : Heap), q ≠ 0 → sj_T w q = 0 → w1 = sj_nw w q (t + 7) N → sj_H G s w1 H1 locs → W p l e R s m args below meth c H1 locs (cells + 1) (slots + N) Q (F0 m (pc + 3) ls (.ref q :: rest))) : W p l e R s m args below meth c H locs cells slots Q (F0 m pc ls (.int n :: rest)) := by
  obtain ⟨hx, hb, -, hown, hts, hK, -⟩ := hC
  obtain ⟨⟨L, hL, hP, hD⟩, hS⟩ := hH
  refine va_newq hx hb hown (hts _ hcl) (hK.2.2.2.2.2.2.1 C hao) hK.1 hP hD hS (sj_hA hK) hn hN (by omega) hcells hslots hdg (fun q cA H1 hK1 hP1 hD1 hS1 => ?_)
  have hcA : cA = G.2.1 t := by
    obtain ⟨_, _, _, _, _, h1⟩ := (hK.1.2 t _ hki).2
    obtain ⟨_, _, _, _, _, h2⟩ := (hK1.2 (sj_tys G.2.1).length (cA, .object C) (by rw [List.getElem?_append_right (Nat.le_refl _), Nat.sub_self]; rfl)).2
    exact (Option.some.inj (h1.symm.trans h2)).symm
  subst hcA
  obtain ⟨h1, h2, h4⟩ := sj_M.push (w' := sj_nw w q (t + 7) N) hL hP1 hD1 (t := t + 7) (by omega) (fun a => rfl) (by
    rw [sj_eA (w := sj_nw w q (t + 7) N) (t := t) (if_pos rfl)]
    have e1 : sj_pl (t + 7) (sj_nw w q (t + 7) N) q = .inr (.inr (.inr (.inr (fun _ => none)))) := by
      unfold sj_pl
      rw [if_neg (by omega), if_neg (by omega), if_neg (by omega)]
      refine congrArg (fun z => Sum.inr (Sum.inr (Sum.inr (Sum.inr z)))) (funext fun j => ?_)
      have e2 : sj_r (sj_nw w q (t + 7) N) q j = 0 := if_pos rfl
      rw [e2]
      rfl
    rw [e1]
    exact congrArg (fun z => Sum.inl (G.2.1 t, z, Sum.inr (Sum.inr (Sum.inr (Sum.inr (fun _ => none)))))) (if_pos rfl)) (fun b hb => sj_e_nw hb)
  exact kk q _ H1 (by have := sj_pos hK; omega) h1 rfl ⟨h4, hS1⟩
theorem sj_newM (hC : sj_C G p l s m args c cc own nL) (hH : sj_H G s w H locs) {index : Nat} {n k : Int32} {N K : Nat} (hat : Cond.arrayClass .int ∈ sj_Big) (hcl : Cond.classLink own index ("[" ++ (FieldType.array .int).toString) ∈ sj_Big) (hn : ¬ n < 0) (hk : ¬ k < 0) (hN : n.toNatClampNeg = N) (hM : k.toNatClampNeg = K) (hb1 : N ≤ 1000) (hb2 : K ≤ 1000) (hcells : cells + (1 + N) ≤ R.cells) (hslots : slots + (N + N * K) ≤ R.slots) (hdg : decode cc pc = .ok (.multianewarray index 2, 4))
    (kk : ∀ (q : Nat) (r : Nat → Nat) (w1 : sj_W) (H1 : Heap), q ≠ 0 → sj_T w q = 0 → (∀ i, i < N → r i ≠ 0 ∧ sj_T w (r i) = 0 ∧ r i ≠ q) → (∀ i j : Nat, i < N → j < N → r i = r j → i = j) → w1 = sj_nm w q r N K → sj_H G s w1 H1 locs → W p l e R s m args below meth c H1 locs (cells + 1 + N) (slots + N + N * K) Q (F0 m (pc + 4) ls (.ref q :: rest))) : W p l e R s m args below meth c H locs cells slots Q (F0 m pc ls (.int k :: .int n :: rest)) := by
  obtain ⟨hx, hb, -, hown, hts, hK, -⟩ := hC
  obtain ⟨⟨L, hL, hP, hD⟩, hS⟩ := hH
  have hcy : s.vm.findClass (FieldType.array .int).toString = some (G.2.1 0) := (hK.1.2 0 (G.2.1 0, .int) rfl).2
  refine va_mna (X := []) (L := L) (f := sj_e G.2.1 w) (z := (K, .inl (fun _ => 0))) (ty := .int) hx hb hown (hts _ hcl) hK.2.2.2.2.2.2.2.1 (hts _ hat) hcy hK.1 hP hD hS (sj_hA hK) hn hk hN hM (by omega) (by show K * 4 ≤ _; omega) (by omega) rfl rfl hcells hslots (fun c => by
    show _ = arrV c K (fun _ => .int 0)
    rw [← arrV_new]
    rfl) hdg (fun q r cA H1 hr hrL hK1 hP1 hD1 hS1 => ?_)
  have hcA : cA = G.2.1 6 := by
    have h1 := (hK.1.2 6 (G.2.1 6, .array .int) rfl).2
    have h2 := (hK1.2 (sj_tys G.2.1).length (cA, .array .int) (by rw [List.getElem?_append_right (Nat.le_refl _), Nat.sub_self]; rfl)).2
    have h1 : s.vm.findClass _ = some (G.2.1 6) := h1
    have h2 : s.vm.findClass _ = some cA := h2
    exact (Option.some.inj (h1.symm.trans h2)).symm
  subst hcA
  generalize hR : (List.range N).map r = L2 at hP1 hD1
  generalize hg : vr_up (sj_e G.2.1 w) L2 (.inl (G.2.1 0, (K, .inl (fun _ => 0)))) = g at hP1 hD1
  generalize heo : (Sum.inl (G.2.1 6, (N, Sum.inr (Sum.inr (Sum.inr (Sum.inr (fun i => if i < N then some (r i) else none)))))) : va_E) = eo at hP1 hD1
  have hP1 : va_P G.1 vwCl ((q, eo) :: va_pl (L ++ L2) g) H1 := hP1
  have hD1 : va_D (sj_F G) ((q, eo) :: va_pl (L ++ L2) g) := hD1
  have hq : q ∉ L ++ L2 := by
    intro h
    obtain ⟨k0, hk0⟩ := va_pl_get (X := [(q, eo)]) (f := g) h
    have hk0 : ((q, eo) :: va_pl (L ++ L2) g)[k0]? = some (q, g q) := hk0
    cases k0 with
    | zero =>
      obtain ⟨i, hi⟩ := List.getElem?_of_mem (show (q, g q) ∈ va_pl (L ++ L2) g from List.mem_map.mpr ⟨q, h, rfl⟩)
      have := hD1.1 0 (i + 1) (q, eo) (q, g q) rfl hi rfl
      omega
    | succ j =>
      have := hD1.1 0 (j + 1) (q, eo) (q, g q) rfl hk0 rfl
      omega
  have hB : ∀ a, a ∈ L ++ L2 → G.2.2 ≤ a := by
    intro a ha
    obtain ⟨k0, hk0⟩ := va_pl_get (X := [(q, eo)]) (f := g) ha
    exact hD1.2 k0 _ hk0
  have hBq : G.2.2 ≤ q := hD1.2 0 (q, eo) rfl
  have h0 := sj_pos hK
  have hr2 : ∀ i, i < N → r i ∈ L2 := fun i hi => by rw [← hR]; exact List.mem_map.mpr ⟨i, List.mem_range.mpr hi, rfl⟩
  have hz : ∀ i, i < N → r i ≠ 0 ∧ sj_T w (r i) = 0 ∧ r i ≠ q := fun i hi => ⟨by have := hB _ (List.mem_append_right _ (hr2 i hi)); omega, Classical.byContradiction fun h => hrL i hi ((hL _).mp h), fun h => hq (h ▸ List.mem_append_right _ (hr2 i hi))⟩
  refine kk q r _ H1 (by omega) (Classical.byContradiction fun h => hq (List.mem_append_left _ ((hL q).mp h))) hz hr rfl ⟨⟨q :: (L ++ L2), fun b => ?_, ?_⟩, hS1⟩
  · have hT : sj_T (sj_nm w q r N K) b = if b = q then 13 else if b ∈ (List.range N).map r then 7 else sj_T w b := rfl
    rw [hT, hR, List.mem_cons, List.mem_append]
    by_cases h1 : b = q
    · rw [if_pos h1]; exact ⟨fun _ => Or.inl h1, fun _ => by omega⟩
    · rw [if_neg h1]
      by_cases h2 : b ∈ L2
      · rw [if_pos h2]; exact ⟨fun _ => Or.inr (Or.inr h2), fun _ => by omega⟩
      · rw [if_neg h2]; exact ⟨fun h => Or.inr (Or.inl ((hL b).mp h)), fun h => h.elim (fun h => absurd h h1) (fun h => h.elim (fun h => (hL b).mpr h) (fun h => absurd h h2))⟩
  · have he : sj_e G.2.1 (sj_nm w q r N K) = va_up g q eo := by
      funext b
      have hT : sj_T (sj_nm w q r N K) b = if b = q then 13 else if b ∈ (List.range N).map r then 7 else sj_T w b := rfl
      have hNN : sj_N (sj_nm w q r N K) b = if b = q then N else if b ∈ (List.range N).map r then K else sj_N w b := rfl
      rw [hR] at hT hNN
      by_cases h1 : b = q
      · subst h1
        rw [if_pos rfl] at hT hNN
        rw [va_up_self, sj_eA (t := 6) hT, hNN, ← heo]
        refine congrArg (fun z => Sum.inl (G.2.1 6, N, Sum.inr (Sum.inr (Sum.inr (Sum.inr z))))) (funext fun j => ?_)
        have e2 : sj_r (sj_nm w b r N K) b j = if j < N then r j else 0 := if_pos rfl
        rw [e2]
        by_cases hj : j < N
        · rw [if_pos hj, if_pos hj]
          unfold sj_o
          rw [if_neg (hz j hj).1]
        · rw [if_neg hj, if_neg hj]
          rfl
      · rw [if_neg h1] at hT hNN
        rw [va_up_ne _ _ h1, ← hg]
        by_cases h2 : b ∈ L2
        · rw [if_pos h2] at hT hNN
          rw [vr_up_in h2, sj_eA (t := 0) hT, hNN]
          refine congrArg (fun z => Sum.inl (G.2.1 0, K, Sum.inl z)) (funext fun j => ?_)
          show (if b ∈ (List.range N).map r then 0 else sj_i w b j) = 0
          rw [hR, if_pos h2]
        · rw [if_neg h2] at hT hNN
          rw [vr_up_ne h2]
          have hi : sj_i (sj_nm w q r N K) b = sj_i w b := funext fun j => by
            show (if b ∈ (List.range N).map r then 0 else sj_i w b j) = _
            rw [hR, if_neg h2]
          have hrr : sj_r (sj_nm w q r N K) b = sj_r w b := funext fun j => if_neg h1
          unfold sj_e sj_pl
          rw [hT, hNN, hi, hrr]
          rfl
    rw [he]
    have e3 : [] ++ va_pl (q :: (L ++ L2)) (va_up g q eo) = (q, eo) :: va_pl (L ++ L2) g := by
      show (q, va_up g q eo q) :: (L ++ L2).map (fun a => (a, va_up g q eo a)) = _
      rw [va_up_self]
      refine congrArg _ (List.map_congr_left fun a ha => ?_)
      rw [va_up_ne _ _ (show a ≠ q from fun h => hq (h ▸ ha))]
    rw [e3]
    exact ⟨hP1, hD1⟩
/-- 'throw new E("text")' in a body without handlers -/
theorem sj_throw {QX : String → sj_W → Prop} {Qc : Array Value → State → Outcome → State → Prop} {rmM : Room} (hC : sj_C G p l s m args c cc own nL) (hD : sj_D meth c) (hH : sj_H G s w H locs) {E text : String} {ik is ic : Nat} (hl : ls.size = nL) (hk : Cond.classLink own ik E ∈ sj_Big) (hini : Cond.initialized E ∈ sj_Big) (hst : (own, is, text) ∈ sj_strs) (hat : ∀ z ∈ vx_atS own ic E ["java/lang/RuntimeException", "java/lang/Exception"], z ∈ lw_tbl ∧ (goodWord z || sj_nok z) = true)
    (hgood : ∀ z ∈ Cond.classLink own ik E :: Cond.initialized E :: vx_atS own ic E ["java/lang/RuntimeException", "java/lang/Exception"], vx_ot z = true) (hE : Bundle.fit E = true)
    (d0 : decode cc pc = .ok (.new ik, 3)) (d3 : decode cc (pc + 3) = .ok (.dup, 1)) (d4 : decode cc (pc + 4) = .ok (.ldc is, 2)) (d6 : decode cc (pc + 6) = .ok (.invokespecial ic, 3)) (d9 : decode cc (pc + 9) = .ok (.athrow, 1))
    (hR : 5 < R.frames ∧ (rest.map fun v => v.category).sum + 82 ≤ R.locals) (hRc : cells + 1 ≤ R.cells ∧ slots + 6 ≤ R.slots) (hf : cells + 1 ≤ rmM.cells ∧ slots + 6 ≤ rmM.slots) (hq : QX E w) :
    W p l e R s m args below meth c H locs cells slots (sj_MQ G below Qc QX args s rmM) (F0 m pc ls rest) := by
  obtain ⟨hx, hb, hml, hown, hts, hK, hlt⟩ := hC
  obtain ⟨sa, hsa⟩ := hK.2.2.2.2.1 _ hst
  refine vx_throwS (A := sj_F G) hx hb hlt hown hE (by decide +kernel) (hts _ hk) (hts _ hini) hsa (fun z hz => ?_) hgood hK.2.1 hK.2.2.1 hH.2 (by rw [hml]; exact hl) d0 d3 d4 d6 d9 (fun x hx => (hD.1 x hx).elim) hR.1 hR.2 hRc.1 hRc.2 hD.2 (fun t hv h1 h2 => ?_) hH.2.2.2 hf.1 hf.2
  · obtain ⟨g1, g2⟩ := hat z hz
    rcases Bool.or_eq_true _ _ ▸ g2 with g | g
    · exact hts _ (sj_big g1 g)
    · exact sj_Nw_use g (hK.2.2.2.2.2.1 _ (sj_nws g1 g))
  · exact ⟨w, trivial, ⟨hq, hH.1.kept h2⟩, ⟨Nat.le_trans hH.2.1 h1, fun q hq1 hq2 => (h2 q (Nat.lt_of_lt_of_le hq1 hH.2.1)).trans (hH.2.2.1 q hq1 hq2)⟩⟩
/-- a method's entry, its contract out of the walk of its body -/
theorem sj_of {y : MethodName} {maxL : Nat} {ret : Option FieldType} {rm : Room} {As : List Value} {Qc : Array Value → State → Outcome → State → Prop} {QX : String → sj_W → Prop} (hy : plainName y.cls = true) (hlen : (lg_sl As).length ≤ maxL) (hlt : l.stackTraces = false)
    (body : ∀ (p : Program) (e : Env) (s : State) (m : MethodId) (args : Array Value) (below : List Frame) (meth : Method) (c : Code) (ls : Array Slot), sj_C G p l s m args c cc y.cls maxL → sj_D meth c → meth.sig.returnType = ret → meth.name = y.name → sj_H G s w s.heap [] → lv_has ls maxL (lv_args 0 As) →
      W p l e rm s m args below meth c s.heap [] 0 0 (sj_MQ G below Qc QX args s rm) (F0 m 0 ls [])) : vx_Met l y (sj_ws y cc maxL ret) rm (va_Pc As (sj_P G w)) Qc (sj_XC G QX) rm.cells rm.slots (sj_F G) := by
  refine vx_ofW (cc := cc) (maxL := maxL) (ret := ret) hy rfl ?_
  intro p e s m args below meth c s₁ B hml ht hv
  obtain ⟨rfl, hM, hK⟩ := hv
  rw [lg_entry_eq]
  exact body p e s m _ below meth c _ ⟨B.exec, B.bytes, hml, findClass_of_methodNamed B.named, fun z hz => atoms_spec (ws := sj_ws y cc maxL ret) B.pre z (List.mem_cons_of_mem _ hz), hK, hlt⟩ ⟨ht, B.notSynchronized⟩ B.returns (name_of_methodNamed B.named B.method).1 ⟨hM, va_S.rf⟩ (lv_entry As hlen)
/-- the same for a body with handlers -/
theorem sj_ofW {y : MethodName} {maxL : Nat} {ret : Option FieldType} {hh : List (Nat × Nat × Nat × Nat)} {rm : Room} {As : List Value} {Qc : Array Value → State → Outcome → State → Prop} {QX : String → sj_W → Prop} (hy : plainName y.cls = true) (hlen : (lg_sl As).length ≤ maxL) (hlt : l.stackTraces = false)
    (body : ∀ (p : Program) (e : Env) (s : State) (m : MethodId) (args : Array Value) (below : List Frame) (meth : Method) (c : Code) (ls : Array Slot), sj_C G p l s m args c cc y.cls maxL → c.exceptionTable.toList = tableOf hh → meth.locks = false → meth.sig.returnType = ret → sj_H G s w s.heap [] → lv_has ls maxL (lv_args 0 As) →
      W p l e rm s m args below meth c s.heap [] 0 0 (sj_MQ G below Qc QX args s rm) (F0 m 0 ls [])) : vx_Met l y (sj_wsW y cc maxL ret hh) rm (va_Pc As (sj_P G w)) Qc (sj_XC G QX) rm.cells rm.slots (sj_F G) := by
  refine vx_ofWH (cc := cc) (maxL := maxL) (ret := ret) (hh := hh) hy rfl ?_
  intro p e s m args below meth c s₁ B hml hv
  obtain ⟨rfl, hM, hK⟩ := hv
  rw [lg_entry_eq]
  exact body p e s m _ below meth c _ ⟨B.exec, B.bytes, hml, findClass_of_methodNamed B.named, fun z hz => atoms_spec (ws := sj_wsW y cc maxL ret hh) B.pre z (List.mem_cons_of_mem _ hz), hK, hlt⟩ (vx_table (x := y) B (atoms_spec (ws := sj_wsW y cc maxL ret hh) B.pre _ List.mem_cons_self)) B.notSynchronized B.returns ⟨hM, va_S.rf⟩ (lv_entry As hlen)
/-- a thrown object caught here: the row x of the table takes it, those ahead don't -/
theorem sj_catch {hh : List (Nat × Nat × Nat × Nat)} (hC : sj_C G p l s m args c cc own nL) (htb : c.exceptionTable.toList = tableOf hh) {E : String} {ce : Cell} {q : Addr} (pre : List ExceptionTableEntry) (x : ExceptionTableEntry) (suf : List ExceptionTableEntry) (hs : tableOf hh = pre ++ x :: suf) (hpre : ∀ z ∈ pre, z.catchType ≠ 0 ∧ ∃ nm : String, Cond.classLink own z.catchType nm ∈ sj_Big ∧ (E, nm) ∈ sj_Ncs) (hx : covers x pc = true) (h0 : x.catchType ≠ 0) (hl : Cond.classLink own x.catchType E ∈ sj_Big) (hc : Cond.castable E E ∈ sj_Nws) (hq : H[q]? = some ce) (hv : ce.vm = .none) (hcl : s.vm.findClass E = some ce.cls)
    (kk : W p l e R s m args below meth c H locs cells slots Q (F0 m x.handlerPc ls [.ref q])) : vx_W p l e R s m args below meth c H locs cells slots Q (F0 m pc ls rest) q :=
  vx_catch hC.2.2.2.1 pre x suf (htb.trans hs) (fun z hz => Or.inr ⟨(hpre z hz).1, (hpre z hz).2.elim fun nm h => ⟨nm, hC.2.2.2.2.1 _ h.1, hC.2.2.2.2.2.1.2.2.2.2.2.2.2.2.1 (E, nm) h.2⟩⟩) hx h0 (hC.2.2.2.2.1 _ hl) (sj_Nw_use rfl (hC.2.2.2.2.2.1.2.2.2.2.2.1 _ hc)) hq hv hcl kk
end SJN

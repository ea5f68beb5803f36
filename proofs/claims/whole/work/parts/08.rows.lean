/-! THE WORLD'S ROWS: an instruction of the machine over the world -/
section SJR
variable {p : Program} {l : Launch} {e : Env} {R : Room} {s : State} {m : MethodId} {args : Array Value} {below : List Frame} {meth : Method} {c : Code} {H : Heap} {locs : List Loc} {cells slots : Nat} {Q : State → Prop}
variable {cc : ByteArray} {pc : Nat} {ls : Array Slot} {rest : List Value} {G : sj_G} {own : String} {nL : Nat} {w : sj_W}
theorem sj_gf (hC : sj_C G p l s m args c cc own nL) (hH : sj_H G s w H locs) {ci k a index : Nat} {C : String} {T : u_T} {N : Nat} {v : Value} (hc : vwCl[ci]? = some (C, T, N)) (hin : ∀ z ∈ u_ws C T N, z ∈ sj_Big) (hk : k < N) (h6 : ci < 6) (hl : (Cond.fieldLink own index (T k).1 (T k).2.1 (T k).2.2.1) ∈ sj_Big) (hn : k < sj_nf ci) (hv : sj_fv w ci a k = v) (hT : sj_T w a = ci + 1) (hdg : decode cc pc = .ok (.getfield index, 3))
    (kk : W p l e R s m args below meth c H locs cells slots Q (F0 m (pc + 3) ls (v :: rest))) : W p l e R s m args below meth c H locs cells slots Q (F0 m pc ls (.ref a :: rest)) := by
  obtain ⟨hx, hb, -, hown, hts, hK, -⟩ := hC
  obtain ⟨⟨L, hL, hP, hD⟩, -⟩ := hH
  obtain ⟨k0, hk0⟩ := va_pl_get (X := []) (f := sj_e G.2.1 w) ((hL a).mp (by rw [hT]; omega))
  rw [sj_eO hT h6] at hk0
  exact va_get hx hb hts hin hown hK.1 hP k0 hk0 hc k hk (hts _ hl) (fun x h => h) ((sj_fsg hn).trans (congrArg some hv)) hdg kk
theorem sj_gfN (hC : sj_C G p l s m args c cc own nL) (hH : sj_H G s w H locs) {host : String} {ci k a index : Nat} {C : String} {T : u_T} {N : Nat} {v : Value} (hc : vwCl[ci]? = some (C, T, N)) (hin : ∀ z ∈ u_ws C T N, z ∈ sj_Big) (hk : k < N) (h6 : ci < 6) (hl : (Cond.fieldLinkNest own index (T k).1 (T k).2.1 (T k).2.2.1 host) ∈ sj_Nws) (hn : k < sj_nf ci) (hv : sj_fv w ci a k = v) (hT : sj_T w a = ci + 1) (hdg : decode cc pc = .ok (.getfield index, 3))
    (kk : W p l e R s m args below meth c H locs cells slots Q (F0 m (pc + 3) ls (v :: rest))) : W p l e R s m args below meth c H locs cells slots Q (F0 m pc ls (.ref a :: rest)) := by
  obtain ⟨hx, hb, -, hown, hts, hK, -⟩ := hC
  obtain ⟨⟨L, hL, hP, hD⟩, -⟩ := hH
  obtain ⟨k0, hk0⟩ := va_pl_get (X := []) (f := sj_e G.2.1 w) ((hL a).mp (by rw [hT]; omega))
  rw [sj_eO hT h6] at hk0
  exact va_getN hx hb hts hin hown hK.1 hP k0 hk0 hc k hk (sj_Nw_use rfl (hK.2.2.2.2.2.1 _ hl)) (fun x h => h) ((sj_fsg hn).trans (congrArg some hv)) hdg kk
/-- a field's value changed: the fields' list -/
theorem sj_fs_set {w w' : sj_W} {ci a k : Nat} {v : Value} (hk : k < sj_nf ci) (h1 : sj_fv w' ci a k = v) (h2 : ∀ j, j ≠ k → sj_fv w' ci a j = sj_fv w ci a j) : sj_fs w' ci a = (sj_fs w ci a).set k v := by
  apply List.ext_getElem?
  intro j
  by_cases hj : j < sj_nf ci
  · by_cases hjk : j = k
    · subst hjk
      rw [sj_fsg hj, h1, List.getElem?_set_self (by unfold sj_fs; rw [List.length_map, List.length_range]; exact hj)]
    · rw [sj_fsg hj, h2 j hjk, List.getElem?_set_ne (Ne.symm hjk), sj_fsg hj]
  · rw [List.getElem?_eq_none (by unfold sj_fs; rw [List.length_map, List.length_range]; omega), List.getElem?_eq_none (by rw [List.length_set]; unfold sj_fs; rw [List.length_map, List.length_range]; omega)]
theorem sj_e_I {cA : Nat → ClassId} {w : sj_W} {f a b : Nat} {v : Int32} (hb : b ≠ a) : sj_e cA (sj_sI w f a v) b = sj_e cA w b := by
  have h : ∀ c, sj_fs (sj_sI w f a v) c b = sj_fs w c b := fun c => by
    unfold sj_fs
    refine List.map_congr_left fun k _ => ?_
    unfold sj_fv
    rw [sj_rd.1.2.2.1, sj_rd.1.2.2.2.1, if_neg (fun q : 8 * c + k = f ∧ b = a => hb q.2)]
  unfold sj_e
  rw [sj_rd.1.1, sj_rd.1.2.1, h]
  rfl
theorem sj_e_A {cA : Nat → ClassId} {w : sj_W} {f a b v : Nat} (hb : b ≠ a) : sj_e cA (sj_sA w f a v) b = sj_e cA w b := by
  have h : ∀ c, sj_fs (sj_sA w f a v) c b = sj_fs w c b := fun c => by
    unfold sj_fs
    refine List.map_congr_left fun k _ => ?_
    unfold sj_fv
    rw [sj_rd.2.1.2.2.1, sj_rd.2.1.2.2.2.1, if_neg (fun q : 8 * c + k = f ∧ b = a => hb q.2)]
  unfold sj_e
  rw [sj_rd.2.1.1, sj_rd.2.1.2.1, h]
  rfl
theorem sj_pfI (hC : sj_C G p l s m args c cc own nL) (hH : sj_H G s w H locs) {ci k f a index : Nat} {C : String} {T : u_T} {N : Nat} {v : Int32} {ty : FieldType} (ty0 : Nat → FieldType) (hty : ∀ k, k < N → parseFieldDescriptor (T k).2.2.1 = some (ty0 k)) (hnm : ∀ a, a < N → ∀ b, b < N → a ≠ b → (T a).2.1 ≠ (T b).2.1) (hc : vwCl[ci]? = some (C, T, N)) (hin : ∀ z ∈ u_ws C T N, z ∈ sj_Big) (hk : k < N) (h6 : ci < 6) (hl : (Cond.fieldLink own index (T k).1 (T k).2.1 (T k).2.2.1) ∈ sj_Big) (hn : k < sj_nf ci) (hf : f = 8 * ci + k) (hr : sj_rf f = false) (hfin : (T k).2.2.2 = false) (hd : ty0 k = ty) (hnw : narrow ty (.int v) = .int v) (hft : fits ty (.int v) = true) (hT : sj_T w a = ci + 1) (hdg : decode cc pc = .ok (.putfield index, 3))
    (kk : ∀ (H1 : Heap) (locs1 : List Loc), sj_H G s (sj_sI w f a v) H1 locs1 → W p l e R s m args below meth c H1 locs1 cells slots Q (F0 m (pc + 3) ls rest)) : W p l e R s m args below meth c H locs cells slots Q (F0 m pc ls (.int v :: .ref a :: rest)) := by
  obtain ⟨hx, hb, -, hown, hts, hK, -⟩ := hC
  obtain ⟨⟨L, hL, hP, hD⟩, hS⟩ := hH
  have ha := (hL a).mp (by rw [hT]; omega)
  obtain ⟨k0, hk1⟩ := va_pl_get (X := []) (f := sj_e G.2.1 w) ha
  have hk0 := hk1
  rw [sj_eO hT h6] at hk0
  refine va_put hx hb hts hin ty0 hty hnm hown hK.1 hP hD hS k0 hk0 hc k hk (hts _ hl) (fun x h => h) hfin ((hty k hk).trans (congrArg some hd)) hnw hft (by unfold sj_fs; rw [List.length_map, List.length_range]; exact hn) hdg (fun H1 locs1 hP1 hD1 hS1 => kk H1 locs1 ⟨?_, hS1⟩)
  subst hf
  refine sj_M.set (w := w) (k := k0) (a := a) hL hD ha hk1 rfl ?_ (fun b hb => sj_e_I hb) hP1 hD1
  rw [sj_eO (w := sj_sI w (8 * ci + k) a v) hT h6]
  refine congrArg (fun x => Sum.inr (ci, x)) (sj_fs_set hn ?_ (fun j hj => ?_))
  · unfold sj_fv
    rw [hr, if_neg (by decide), sj_rd.1.2.2.1, if_pos ⟨rfl, rfl⟩]
  · unfold sj_fv
    rw [sj_rd.1.2.2.1, sj_rd.1.2.2.2.1, if_neg (fun q : 8 * ci + j = 8 * ci + k ∧ a = a => hj (by omega))]
theorem sj_pfIN (hC : sj_C G p l s m args c cc own nL) (hH : sj_H G s w H locs) {host : String} {ci k f a index : Nat} {C : String} {T : u_T} {N : Nat} {v : Int32} {ty : FieldType} (ty0 : Nat → FieldType) (hty : ∀ k, k < N → parseFieldDescriptor (T k).2.2.1 = some (ty0 k)) (hnm : ∀ a, a < N → ∀ b, b < N → a ≠ b → (T a).2.1 ≠ (T b).2.1) (hc : vwCl[ci]? = some (C, T, N)) (hin : ∀ z ∈ u_ws C T N, z ∈ sj_Big) (hk : k < N) (h6 : ci < 6) (hl : (Cond.fieldLinkNest own index (T k).1 (T k).2.1 (T k).2.2.1 host) ∈ sj_Nws) (hn : k < sj_nf ci) (hf : f = 8 * ci + k) (hr : sj_rf f = false) (hfin : (T k).2.2.2 = false) (hd : ty0 k = ty) (hnw : narrow ty (.int v) = .int v) (hft : fits ty (.int v) = true) (hT : sj_T w a = ci + 1) (hdg : decode cc pc = .ok (.putfield index, 3))
    (kk : ∀ (H1 : Heap) (locs1 : List Loc), sj_H G s (sj_sI w f a v) H1 locs1 → W p l e R s m args below meth c H1 locs1 cells slots Q (F0 m (pc + 3) ls rest)) : W p l e R s m args below meth c H locs cells slots Q (F0 m pc ls (.int v :: .ref a :: rest)) := by
  obtain ⟨hx, hb, -, hown, hts, hK, -⟩ := hC
  obtain ⟨⟨L, hL, hP, hD⟩, hS⟩ := hH
  have ha := (hL a).mp (by rw [hT]; omega)
  obtain ⟨k0, hk1⟩ := va_pl_get (X := []) (f := sj_e G.2.1 w) ha
  have hk0 := hk1
  rw [sj_eO hT h6] at hk0
  refine va_putN hx hb hts hin ty0 hty hnm hown hK.1 hP hD hS k0 hk0 hc k hk (sj_Nw_use rfl (hK.2.2.2.2.2.1 _ hl)) (fun x h => h) hfin ((hty k hk).trans (congrArg some hd)) hnw hft (by unfold sj_fs; rw [List.length_map, List.length_range]; exact hn) hdg (fun H1 locs1 hP1 hD1 hS1 => kk H1 locs1 ⟨?_, hS1⟩)
  subst hf
  refine sj_M.set (w := w) (k := k0) (a := a) hL hD ha hk1 rfl ?_ (fun b hb => sj_e_I hb) hP1 hD1
  rw [sj_eO (w := sj_sI w (8 * ci + k) a v) hT h6]
  refine congrArg (fun x => Sum.inr (ci, x)) (sj_fs_set hn ?_ (fun j hj => ?_))
  · unfold sj_fv
    rw [hr, if_neg (by decide), sj_rd.1.2.2.1, if_pos ⟨rfl, rfl⟩]
  · unfold sj_fv
    rw [sj_rd.1.2.2.1, sj_rd.1.2.2.2.1, if_neg (fun q : 8 * ci + j = 8 * ci + k ∧ a = a => hj (by omega))]
theorem sj_pfIF (hC : sj_C G p l s m args c cc own nL) (hH : sj_H G s w H locs) {ci k f a index : Nat} {C : String} {T : u_T} {N : Nat} {v : Int32} {ty : FieldType} (ty0 : Nat → FieldType) (hty : ∀ k, k < N → parseFieldDescriptor (T k).2.2.1 = some (ty0 k)) (hnm : ∀ a, a < N → ∀ b, b < N → a ≠ b → (T a).2.1 ≠ (T b).2.1) (hc : vwCl[ci]? = some (C, T, N)) (hin : ∀ z ∈ u_ws C T N, z ∈ sj_Big) (hk : k < N) (h6 : ci < 6) (hl : (Cond.fieldLink own index (T k).1 (T k).2.1 (T k).2.2.1) ∈ sj_Big) (hn : k < sj_nf ci) (hf : f = 8 * ci + k) (hr : sj_rf f = false) (hfin : (T k).2.2.2 = true) (hin2 : meth.name = "<init>") (hdecl : (T k).1 = own) (hd : ty0 k = ty) (hnw : narrow ty (.int v) = .int v) (hft : fits ty (.int v) = true) (hT : sj_T w a = ci + 1) (hdg : decode cc pc = .ok (.putfield index, 3))
    (kk : ∀ (H1 : Heap) (locs1 : List Loc), sj_H G s (sj_sI w f a v) H1 locs1 → W p l e R s m args below meth c H1 locs1 cells slots Q (F0 m (pc + 3) ls rest)) : W p l e R s m args below meth c H locs cells slots Q (F0 m pc ls (.int v :: .ref a :: rest)) := by
  obtain ⟨hx, hb, -, hown, hts, hK, -⟩ := hC
  obtain ⟨⟨L, hL, hP, hD⟩, hS⟩ := hH
  have ha := (hL a).mp (by rw [hT]; omega)
  obtain ⟨k0, hk1⟩ := va_pl_get (X := []) (f := sj_e G.2.1 w) ha
  have hk0 := hk1
  rw [sj_eO hT h6] at hk0
  refine va_putF hx hb hts hin ty0 hty hnm hown hK.1 hP hD hS k0 hk0 hc k hk (hts _ hl) (fun x h => h) hfin hin2 hdecl ((hty k hk).trans (congrArg some hd)) hnw hft (by unfold sj_fs; rw [List.length_map, List.length_range]; exact hn) hdg (fun H1 locs1 hP1 hD1 hS1 => kk H1 locs1 ⟨?_, hS1⟩)
  subst hf
  refine sj_M.set (w := w) (k := k0) (a := a) hL hD ha hk1 rfl ?_ (fun b hb => sj_e_I hb) hP1 hD1
  rw [sj_eO (w := sj_sI w (8 * ci + k) a v) hT h6]
  refine congrArg (fun x => Sum.inr (ci, x)) (sj_fs_set hn ?_ (fun j hj => ?_))
  · unfold sj_fv
    rw [hr, if_neg (by decide), sj_rd.1.2.2.1, if_pos ⟨rfl, rfl⟩]
  · unfold sj_fv
    rw [sj_rd.1.2.2.1, sj_rd.1.2.2.2.1, if_neg (fun q : 8 * ci + j = 8 * ci + k ∧ a = a => hj (by omega))]
theorem sj_rfn {ty : FieldType} (h : ty.isReference = true) (a : Nat) : narrow ty (.ref a) = .ref a ∧ fits ty (.ref a) = true := by
  cases ty <;> first | exact ⟨rfl, rfl⟩ | cases h
theorem sj_pfA (hC : sj_C G p l s m args c cc own nL) (hH : sj_H G s w H locs) {ci k f a index v : Nat} {C : String} {T : u_T} {N : Nat} {ty : FieldType} (ty0 : Nat → FieldType) (hty : ∀ k, k < N → parseFieldDescriptor (T k).2.2.1 = some (ty0 k)) (hnm : ∀ a, a < N → ∀ b, b < N → a ≠ b → (T a).2.1 ≠ (T b).2.1) (hc : vwCl[ci]? = some (C, T, N)) (hin : ∀ z ∈ u_ws C T N, z ∈ sj_Big) (hk : k < N) (h6 : ci < 6) (hl : (Cond.fieldLink own index (T k).1 (T k).2.1 (T k).2.2.1) ∈ sj_Big) (hn : k < sj_nf ci) (hf : f = 8 * ci + k) (hr : sj_rf f = true) (hfin : (T k).2.2.2 = false) (hd : ty0 k = ty) (hrf : ty.isReference = true) (hT : sj_T w a = ci + 1) (hv : v ≠ 0) (hdg : decode cc pc = .ok (.putfield index, 3))
    (kk : ∀ (H1 : Heap) (locs1 : List Loc), sj_H G s (sj_sA w f a v) H1 locs1 → W p l e R s m args below meth c H1 locs1 cells slots Q (F0 m (pc + 3) ls rest)) : W p l e R s m args below meth c H locs cells slots Q (F0 m pc ls (.ref v :: .ref a :: rest)) := by
  obtain ⟨hx, hb, -, hown, hts, hK, -⟩ := hC
  obtain ⟨⟨L, hL, hP, hD⟩, hS⟩ := hH
  have ha := (hL a).mp (by rw [hT]; omega)
  obtain ⟨k0, hk1⟩ := va_pl_get (X := []) (f := sj_e G.2.1 w) ha
  have hk0 := hk1
  rw [sj_eO hT h6] at hk0
  refine va_put hx hb hts hin ty0 hty hnm hown hK.1 hP hD hS k0 hk0 hc k hk (hts _ hl) (fun x h => h) hfin ((hty k hk).trans (congrArg some hd)) (sj_rfn hrf v).1 (sj_rfn hrf v).2 (by unfold sj_fs; rw [List.length_map, List.length_range]; exact hn) hdg (fun H1 locs1 hP1 hD1 hS1 => kk H1 locs1 ⟨?_, hS1⟩)
  subst hf
  refine sj_M.set (w := w) (k := k0) (a := a) hL hD ha hk1 rfl ?_ (fun b hb => sj_e_A hb) hP1 hD1
  rw [sj_eO (w := sj_sA w (8 * ci + k) a v) hT h6]
  refine congrArg (fun x => Sum.inr (ci, x)) (sj_fs_set hn ?_ (fun j hj => ?_))
  · have h9 : sj_A (sj_sA w (8 * ci + k) a v) (8 * ci + k) a = v := by rw [sj_rd.2.1.2.2.1]; exact if_pos ⟨rfl, rfl⟩
    rw [sj_fvA hr rfl (by rw [h9]; exact hv), h9]
  · unfold sj_fv
    rw [sj_rd.2.1.2.2.1, sj_rd.2.1.2.2.2.1, if_neg (fun q : 8 * ci + j = 8 * ci + k ∧ a = a => hj (by omega))]
theorem sj_pfAF (hC : sj_C G p l s m args c cc own nL) (hH : sj_H G s w H locs) {ci k f a index v : Nat} {C : String} {T : u_T} {N : Nat} {ty : FieldType} (ty0 : Nat → FieldType) (hty : ∀ k, k < N → parseFieldDescriptor (T k).2.2.1 = some (ty0 k)) (hnm : ∀ a, a < N → ∀ b, b < N → a ≠ b → (T a).2.1 ≠ (T b).2.1) (hc : vwCl[ci]? = some (C, T, N)) (hin : ∀ z ∈ u_ws C T N, z ∈ sj_Big) (hk : k < N) (h6 : ci < 6) (hl : (Cond.fieldLink own index (T k).1 (T k).2.1 (T k).2.2.1) ∈ sj_Big) (hn : k < sj_nf ci) (hf : f = 8 * ci + k) (hr : sj_rf f = true) (hfin : (T k).2.2.2 = true) (hin2 : meth.name = "<init>") (hdecl : (T k).1 = own) (hd : ty0 k = ty) (hrf : ty.isReference = true) (hT : sj_T w a = ci + 1) (hv : v ≠ 0) (hdg : decode cc pc = .ok (.putfield index, 3))
    (kk : ∀ (H1 : Heap) (locs1 : List Loc), sj_H G s (sj_sA w f a v) H1 locs1 → W p l e R s m args below meth c H1 locs1 cells slots Q (F0 m (pc + 3) ls rest)) : W p l e R s m args below meth c H locs cells slots Q (F0 m pc ls (.ref v :: .ref a :: rest)) := by
  obtain ⟨hx, hb, -, hown, hts, hK, -⟩ := hC
  obtain ⟨⟨L, hL, hP, hD⟩, hS⟩ := hH
  have ha := (hL a).mp (by rw [hT]; omega)
  obtain ⟨k0, hk1⟩ := va_pl_get (X := []) (f := sj_e G.2.1 w) ha
  have hk0 := hk1
  rw [sj_eO hT h6] at hk0
  refine va_putF hx hb hts hin ty0 hty hnm hown hK.1 hP hD hS k0 hk0 hc k hk (hts _ hl) (fun x h => h) hfin hin2 hdecl ((hty k hk).trans (congrArg some hd)) (sj_rfn hrf v).1 (sj_rfn hrf v).2 (by unfold sj_fs; rw [List.length_map, List.length_range]; exact hn) hdg (fun H1 locs1 hP1 hD1 hS1 => kk H1 locs1 ⟨?_, hS1⟩)
  subst hf
  refine sj_M.set (w := w) (k := k0) (a := a) hL hD ha hk1 rfl ?_ (fun b hb => sj_e_A hb) hP1 hD1
  rw [sj_eO (w := sj_sA w (8 * ci + k) a v) hT h6]
  refine congrArg (fun x => Sum.inr (ci, x)) (sj_fs_set hn ?_ (fun j hj => ?_))
  · have h9 : sj_A (sj_sA w (8 * ci + k) a v) (8 * ci + k) a = v := by rw [sj_rd.2.1.2.2.1]; exact if_pos ⟨rfl, rfl⟩
    rw [sj_fvA hr rfl (by rw [h9]; exact hv), h9]
  · unfold sj_fv
    rw [sj_rd.2.1.2.2.1, sj_rd.2.1.2.2.2.1, if_neg (fun q : 8 * ci + j = 8 * ci + k ∧ a = a => hj (by omega))]
/-! arrays -/
theorem sj_iald (hC : sj_C G p l s m args c cc own nL) (hH : sj_H G s w H locs) {a : Nat} {i : Int32} (hT : sj_T w a = 7) (hi : vp_in i (sj_N w a)) (hdg : decode cc pc = .ok (.iaload, 1))
    (kk : W p l e R s m args below meth c H locs cells slots Q (F0 m (pc + 1) ls (.int (sj_i w a i.toNatClampNeg) :: rest))) : W p l e R s m args below meth c H locs cells slots Q (F0 m pc ls (.int i :: .ref a :: rest)) := by
  obtain ⟨hx, hb, -, hown, hts, hK, -⟩ := hC
  obtain ⟨⟨L, hL, hP, hD⟩, -⟩ := hH
  obtain ⟨k0, hk0⟩ := va_pl_get (X := []) (f := sj_e G.2.1 w) ((hL a).mp (by rw [hT]; omega))
  rw [sj_eA (t := 0) hT] at hk0
  exact va_iald hx hb hK.1 hP k0 0 hk0 rfl hi hdg kk
theorem sj_lald (hC : sj_C G p l s m args c cc own nL) (hH : sj_H G s w H locs) {a : Nat} {i : Int32} (hT : sj_T w a = 8) (hi : vp_in i (sj_N w a)) (hdg : decode cc pc = .ok (.laload, 1))
    (kk : W p l e R s m args below meth c H locs cells slots Q (F0 m (pc + 1) ls (.long (sj_l w a i.toNatClampNeg) :: rest))) : W p l e R s m args below meth c H locs cells slots Q (F0 m pc ls (.int i :: .ref a :: rest)) := by
  obtain ⟨hx, hb, -, hown, hts, hK, -⟩ := hC
  obtain ⟨⟨L, hL, hP, hD⟩, -⟩ := hH
  obtain ⟨k0, hk0⟩ := va_pl_get (X := []) (f := sj_e G.2.1 w) ((hL a).mp (by rw [hT]; omega))
  rw [sj_eA (t := 1) hT] at hk0
  exact va_lald hx hb hK.1 hP k0 1 hk0 rfl hi hdg kk
theorem sj_dald (hC : sj_C G p l s m args c cc own nL) (hH : sj_H G s w H locs) {a : Nat} {i : Int32} (hT : sj_T w a = 9) (hi : vp_in i (sj_N w a)) (hdg : decode cc pc = .ok (.daload, 1))
    (kk : W p l e R s m args below meth c H locs cells slots Q (F0 m (pc + 1) ls (.double (sj_d w a i.toNatClampNeg) :: rest))) : W p l e R s m args below meth c H locs cells slots Q (F0 m pc ls (.int i :: .ref a :: rest)) := by
  obtain ⟨hx, hb, -, hown, hts, hK, -⟩ := hC
  obtain ⟨⟨L, hL, hP, hD⟩, -⟩ := hH
  obtain ⟨k0, hk0⟩ := va_pl_get (X := []) (f := sj_e G.2.1 w) ((hL a).mp (by rw [hT]; omega))
  rw [sj_eA (t := 2) hT] at hk0
  exact va_dald hx hb hK.1 hP k0 2 hk0 rfl hi hdg kk
theorem sj_o_ref {n : Nat} (h : n ≠ 0) : va_rf (sj_o n) = .ref n := by
  unfold sj_o
  rw [if_neg h]
  rfl
theorem sj_aald (hC : sj_C G p l s m args c cc own nL) (hH : sj_H G s w H locs) {a : Nat} {i : Int32} (hT : sj_T w a = 10 ∨ sj_T w a = 11 ∨ sj_T w a = 12) (hi : vp_in i (sj_N w a)) (hn : sj_r w a i.toNatClampNeg ≠ 0) (hdg : decode cc pc = .ok (.aaload, 1))
    (kk : W p l e R s m args below meth c H locs cells slots Q (F0 m (pc + 1) ls (.ref (sj_r w a i.toNatClampNeg) :: rest))) : W p l e R s m args below meth c H locs cells slots Q (F0 m pc ls (.int i :: .ref a :: rest)) := by
  obtain ⟨hx, hb, -, hown, hts, hK, -⟩ := hC
  obtain ⟨⟨L, hL, hP, hD⟩, -⟩ := hH
  obtain ⟨k0, hk0⟩ := va_pl_get (X := []) (f := sj_e G.2.1 w) ((hL a).mp (by omega))
  rw [← sj_o_ref hn] at kk
  rcases hT with hT | hT | hT
  · rw [sj_eA (t := 3) hT] at hk0
    exact va_aldq hx hb hK.1 hP k0 3 hk0 rfl hi hdg kk
  · rw [sj_eA (t := 4) hT] at hk0
    exact va_aldq hx hb hK.1 hP k0 4 hk0 rfl hi hdg kk
  · rw [sj_eA (t := 5) hT] at hk0
    exact va_aldq hx hb hK.1 hP k0 5 hk0 rfl hi hdg kk
theorem sj_aaldI (hC : sj_C G p l s m args c cc own nL) (hH : sj_H G s w H locs) {a : Nat} {i : Int32} (hT : sj_T w a = 13) (hi : vp_in i (sj_N w a)) (hn : sj_r w a i.toNatClampNeg ≠ 0) (hdg : decode cc pc = .ok (.aaload, 1))
    (kk : W p l e R s m args below meth c H locs cells slots Q (F0 m (pc + 1) ls (.ref (sj_r w a i.toNatClampNeg) :: rest))) : W p l e R s m args below meth c H locs cells slots Q (F0 m pc ls (.int i :: .ref a :: rest)) := by
  obtain ⟨hx, hb, -, hown, hts, hK, -⟩ := hC
  obtain ⟨⟨L, hL, hP, hD⟩, -⟩ := hH
  obtain ⟨k0, hk0⟩ := va_pl_get (X := []) (f := sj_e G.2.1 w) ((hL a).mp (by omega))
  rw [← sj_o_ref hn] at kk
  rw [sj_eA (t := 6) hT] at hk0
  have hlt : i.toNatClampNeg < sj_N w a := Nat.not_le.mp fun q => hi (Or.inr q)
  have hcell := hP k0 _ hk0
  have hof := (hK.1.2 6 (G.2.1 6, .array .int) rfl).1
  have hcell : H[a]? = some (arrV (G.2.1 6) (sj_N w a) (fun j => va_rf (sj_o (sj_r w a j)))) := hcell
  exact W.aald (v := va_rf (sj_o (sj_r w a i.toNatClampNeg))) (ty := .array .int) hx hb hcell (hof _ _) rfl (fun q => by cases q) (by rw [arrV_size]; exact hi) (by rw [arrV_read _ _ hlt]) rfl rfl hdg kk
theorem sj_alen (hC : sj_C G p l s m args c cc own nL) (hH : sj_H G s w H locs) {a : Nat} (hT : 7 ≤ sj_T w a ∧ sj_T w a ≤ 13) (hdg : decode cc pc = .ok (.arraylength, 1))
    (kk : W p l e R s m args below meth c H locs cells slots Q (F0 m (pc + 1) ls (.int (nI (sj_N w a)) :: rest))) : W p l e R s m args below meth c H locs cells slots Q (F0 m pc ls (.ref a :: rest)) := by
  obtain ⟨hx, hb, -, hown, hts, hK, -⟩ := hC
  obtain ⟨⟨L, hL, hP, hD⟩, -⟩ := hH
  obtain ⟨k0, hk0⟩ := va_pl_get (X := []) (f := sj_e G.2.1 w) ((hL a).mp (by omega))
  obtain ⟨t, ht, ht7⟩ : ∃ t, sj_T w a = t + 7 ∧ t < 7 := ⟨sj_T w a - 7, by omega, by omega⟩
  rw [sj_eA ht] at hk0
  match t, ht7, hk0 with
  | 0, _, hk0 => exact va_alen hx hb hK.1 hP k0 0 hk0 (ty := .int) rfl rfl hdg kk
  | 1, _, hk0 => exact va_alen hx hb hK.1 hP k0 1 hk0 (ty := .long) rfl rfl hdg kk
  | 2, _, hk0 => exact va_alen hx hb hK.1 hP k0 2 hk0 (ty := .double) rfl rfl hdg kk
  | 3, _, hk0 => exact va_alen hx hb hK.1 hP k0 3 hk0 (ty := .object RX1) rfl rfl hdg kk
  | 4, _, hk0 => exact va_alen hx hb hK.1 hP k0 4 hk0 (ty := .object RX3) rfl rfl hdg kk
  | 5, _, hk0 => exact va_alen hx hb hK.1 hP k0 5 hk0 (ty := .object RX4) rfl rfl hdg kk
  | 6, _, hk0 => exact va_alen hx hb hK.1 hP k0 6 hk0 (ty := .array .int) rfl rfl hdg kk
theorem sj_iast (hC : sj_C G p l s m args c cc own nL) (hH : sj_H G s w H locs) {a : Nat} {i v : Int32} (hT : sj_T w a = 7) (hi : vp_in i (sj_N w a)) (hdg : decode cc pc = .ok (.iastore, 1))
    (kk : ∀ (w1 : sj_W) (H1 : Heap) (locs1 : List Loc), w1 = sj_si w a i.toNatClampNeg v → sj_H G s w1 H1 locs1 → W p l e R s m args below meth c H1 locs1 cells slots Q (F0 m (pc + 1) ls rest)) : W p l e R s m args below meth c H locs cells slots Q (F0 m pc ls (.int v :: .int i :: .ref a :: rest)) := by
  obtain ⟨hx, hb, -, hown, hts, hK, -⟩ := hC
  obtain ⟨⟨L, hL, hP, hD⟩, hS⟩ := hH
  have ha := (hL a).mp (by rw [hT]; omega)
  obtain ⟨k0, hk1⟩ := va_pl_get (X := []) (f := sj_e G.2.1 w) ha
  have hk0 := hk1
  rw [sj_eA (t := 0) hT] at hk0
  refine va_iast hx hb hK.1 hP hD hS k0 0 hk0 rfl hi hdg (fun H1 locs1 hP1 hD1 hS1 => kk _ H1 locs1 rfl ⟨?_, hS1⟩)
  refine sj_M.set (w := w) (k := k0) (a := a) hL hD ha hk1 rfl ?_ (fun b hb => ?_) hP1 hD1
  · rw [sj_eA (w := sj_si w a i.toNatClampNeg v) (t := 0) hT]
    have h2 : sj_i (sj_si w a i.toNatClampNeg v) a = upd (sj_i w a) i.toNatClampNeg v := by
      funext j
      show sj_u (sj_i w) a i.toNatClampNeg v a j = upd (sj_i w a) i.toNatClampNeg v j
      simp [sj_u, upd]
    show Sum.inl (G.2.1 0, sj_N w a, Sum.inl (sj_i (sj_si w a i.toNatClampNeg v) a)) = _
    rw [h2]
  · have h2 : sj_i (sj_si w a i.toNatClampNeg v) b = sj_i w b := by
      funext j
      show sj_u (sj_i w) a i.toNatClampNeg v b j = _
      simp [sj_u, hb]
    unfold sj_e sj_pl
    rw [h2]
    rfl
theorem sj_last (hC : sj_C G p l s m args c cc own nL) (hH : sj_H G s w H locs) {a : Nat} {i : Int32} {v : Int64} (hT : sj_T w a = 8) (hi : vp_in i (sj_N w a)) (hdg : decode cc pc = .ok (.lastore, 1))
    (kk : ∀ (w1 : sj_W) (H1 : Heap) (locs1 : List Loc), w1 = sj_sl w a i.toNatClampNeg v → sj_H G s w1 H1 locs1 → W p l e R s m args below meth c H1 locs1 cells slots Q (F0 m (pc + 1) ls rest)) : W p l e R s m args below meth c H locs cells slots Q (F0 m pc ls (.long v :: .int i :: .ref a :: rest)) := by
  obtain ⟨hx, hb, -, hown, hts, hK, -⟩ := hC
  obtain ⟨⟨L, hL, hP, hD⟩, hS⟩ := hH
  have ha := (hL a).mp (by rw [hT]; omega)
  obtain ⟨k0, hk1⟩ := va_pl_get (X := []) (f := sj_e G.2.1 w) ha
  have hk0 := hk1
  rw [sj_eA (t := 1) hT] at hk0
  refine va_last hx hb hK.1 hP hD hS k0 1 hk0 rfl hi hdg (fun H1 locs1 hP1 hD1 hS1 => kk _ H1 locs1 rfl ⟨?_, hS1⟩)
  refine sj_M.set (w := w) (k := k0) (a := a) hL hD ha hk1 rfl ?_ (fun b hb => ?_) hP1 hD1
  · rw [sj_eA (w := sj_sl w a i.toNatClampNeg v) (t := 1) hT]
    have h2 : sj_l (sj_sl w a i.toNatClampNeg v) a = vp_updL (sj_l w a) i.toNatClampNeg v := by
      funext j
      show sj_u (sj_l w) a i.toNatClampNeg v a j = vp_updL (sj_l w a) i.toNatClampNeg v j
      simp [sj_u, vp_updL]
    show Sum.inl (G.2.1 1, sj_N w a, Sum.inr (Sum.inl (sj_l (sj_sl w a i.toNatClampNeg v) a))) = _
    rw [h2]
  · have h2 : sj_l (sj_sl w a i.toNatClampNeg v) b = sj_l w b := by
      funext j
      show sj_u (sj_l w) a i.toNatClampNeg v b j = _
      simp [sj_u, hb]
    unfold sj_e sj_pl
    rw [h2]
    rfl
theorem sj_dast (hC : sj_C G p l s m args c cc own nL) (hH : sj_H G s w H locs) {a : Nat} {i : Int32} {v : UInt64} (hT : sj_T w a = 9) (hi : vp_in i (sj_N w a)) (hdg : decode cc pc = .ok (.dastore, 1))
    (kk : ∀ (w1 : sj_W) (H1 : Heap) (locs1 : List Loc), w1 = sj_sd w a i.toNatClampNeg v → sj_H G s w1 H1 locs1 → W p l e R s m args below meth c H1 locs1 cells slots Q (F0 m (pc + 1) ls rest)) : W p l e R s m args below meth c H locs cells slots Q (F0 m pc ls (.double v :: .int i :: .ref a :: rest)) := by
  obtain ⟨hx, hb, -, hown, hts, hK, -⟩ := hC
  obtain ⟨⟨L, hL, hP, hD⟩, hS⟩ := hH
  have ha := (hL a).mp (by rw [hT]; omega)
  obtain ⟨k0, hk1⟩ := va_pl_get (X := []) (f := sj_e G.2.1 w) ha
  have hk0 := hk1
  rw [sj_eA (t := 2) hT] at hk0
  refine va_dast hx hb hK.1 hP hD hS k0 2 hk0 rfl hi hdg (fun H1 locs1 hP1 hD1 hS1 => kk _ H1 locs1 rfl ⟨?_, hS1⟩)
  refine sj_M.set (w := w) (k := k0) (a := a) hL hD ha hk1 rfl ?_ (fun b hb => ?_) hP1 hD1
  · rw [sj_eA (w := sj_sd w a i.toNatClampNeg v) (t := 2) hT]
    have h2 : sj_d (sj_sd w a i.toNatClampNeg v) a = vf_upd (sj_d w a) i.toNatClampNeg v := by
      funext j
      show sj_u (sj_d w) a i.toNatClampNeg v a j = vf_upd (sj_d w a) i.toNatClampNeg v j
      simp [sj_u, vf_upd]
    show Sum.inl (G.2.1 2, sj_N w a, Sum.inr (Sum.inr (Sum.inr (Sum.inl (sj_d (sj_sd w a i.toNatClampNeg v) a))))) = _
    rw [h2]
  · have h2 : sj_d (sj_sd w a i.toNatClampNeg v) b = sj_d w b := by
      funext j
      show sj_u (sj_d w) a i.toNatClampNeg v b j = _
      simp [sj_u, hb]
    unfold sj_e sj_pl
    rw [h2]
    rfl
theorem sj_aast {t ci : Nat} {r : vw_C} (hC : sj_C G p l s m args c cc own nL) (hH : sj_H G s w H locs) {a v : Nat} {i : Int32} (hT : sj_T w a = t + 7) (h3 : 3 ≤ t) (hty : (sj_tys G.2.1)[t]? = some (G.2.1 t, .object r.1)) (hci : ci < 6) (hc : vwCl[ci]? = some r) (hV : sj_T w v = ci + 1) (hi : vp_in i (sj_N w a)) (hv : v ≠ 0) (hdg : decode cc pc = .ok (.aastore, 1))
    (kk : ∀ (w1 : sj_W) (H1 : Heap) (locs1 : List Loc), w1 = sj_sr w a i.toNatClampNeg v → sj_H G s w1 H1 locs1 → W p l e R s m args below meth c H1 locs1 cells slots Q (F0 m (pc + 1) ls rest)) : W p l e R s m args below meth c H locs cells slots Q (F0 m pc ls (.ref v :: .int i :: .ref a :: rest)) := by
  obtain ⟨hx, hb, -, hown, hts, hK, -⟩ := hC
  obtain ⟨⟨L, hL, hP, hD⟩, hS⟩ := hH
  have ha := (hL a).mp (by rw [hT]; omega)
  have hv2 := (hL v).mp (by rw [hV]; omega)
  obtain ⟨k0, hk1⟩ := va_pl_get (X := []) (f := sj_e G.2.1 w) ha
  obtain ⟨kv, hkv⟩ := va_pl_get (X := []) (f := sj_e G.2.1 w) hv2
  have hk0 := hk1
  have hpl : sj_pl (t + 7) w a = .inr (.inr (.inr (.inr (fun j => sj_o (sj_r w a j))))) := by
    unfold sj_pl
    rw [if_neg (by omega), if_neg (by omega), if_neg (by omega)]
  rw [sj_eA hT, hpl] at hk0
  rw [sj_eO hV hci] at hkv
  refine va_astq hx hb hK.1 hP hD hS k0 t kv ci (r := r) hk0 hty hkv hc hi hdg (fun H1 locs1 hP1 hD1 hS1 => kk _ H1 locs1 rfl ⟨?_, hS1⟩)
  refine sj_M.set (w := w) (k := k0) (a := a) hL hD ha hk1 rfl ?_ (fun b hb => ?_) hP1 hD1
  · have hpl2 : sj_pl (t + 7) (sj_sr w a i.toNatClampNeg v) a = .inr (.inr (.inr (.inr (fun j => sj_o (sj_r (sj_sr w a i.toNatClampNeg v) a j))))) := by
      unfold sj_pl
      rw [if_neg (by omega), if_neg (by omega), if_neg (by omega)]
    rw [sj_eA (w := sj_sr w a i.toNatClampNeg v) (t := t) hT, hpl2]
    have h2 : (fun j => sj_o (sj_r (sj_sr w a i.toNatClampNeg v) a j)) = va_up (fun j => sj_o (sj_r w a j)) i.toNatClampNeg (some v) := by
      funext j
      show sj_o (sj_u (sj_r w) a i.toNatClampNeg v a j) = va_up (fun j => sj_o (sj_r w a j)) i.toNatClampNeg (some v) j
      by_cases hj : j = i.toNatClampNeg
      · simp [sj_u, va_up, hj, sj_o, hv]
      · simp [sj_u, va_up, hj]
    rw [h2]
    rfl
  · have h2 : sj_r (sj_sr w a i.toNatClampNeg v) b = sj_r w b := by
      funext j
      show sj_u (sj_r w) a i.toNatClampNeg v b j = _
      simp [sj_u, hb]
    unfold sj_e sj_pl
    rw [h2]
    rfl
end SJR

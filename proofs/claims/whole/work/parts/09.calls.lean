/-! CONTRACTS OVER THE WORLD, and calls by them -/
def sj_P (G : sj_G) (w : sj_W) : State → Prop := fun U => sj_M G w U.heap ∧ sj_K G U
theorem sj_blind {G : sj_G} {w : sj_W} {As : List Value} : FrameBlind (va_Pc As (sj_P G w)) := fun _ _ _ _ h => ⟨h.1, h.2.1, h.2.2.blind⟩
def sj_B (G : sj_G) : sj_W → State → Prop := fun u t => sj_M G u t.heap
def sj_BX (G : sj_G) (QX : String → sj_W → Prop) : String → sj_W → State → Prop := fun E u t => QX E u ∧ sj_M G u t.heap
def sj_XC (G : sj_G) (QX : String → sj_W → Prop) : String → State → State → Prop := vx_X (fun _ : sj_W => True) (sj_BX G QX) (sj_F G)
def sj_ws (y : MethodName) (bytes : ByteArray) (maxL : Nat) (ret : Option FieldType) : List Cond := .code y bytes maxL ret :: sj_Big
def sj_wsW (y : MethodName) (bytes : ByteArray) (maxL : Nat) (ret : Option FieldType) (hh : List (Nat × Nat × Nat × Nat)) : List Cond := .codeWith y bytes maxL ret hh :: sj_Big
def sj_QR (Q : Nat → sj_W → Prop) : Option Nat → sj_W → Prop := fun r u => ∃ a, r = some a ∧ Q a u
abbrev sj_MI (G : sj_G) (l : Launch) (y : MethodName) (ws : List Cond) (rm : Room) (As : List Value) (w : sj_W) (Q : Int32 → sj_W → Prop) (QX : String → sj_W → Prop) : Prop := vx_Met l y ws rm (va_Pc As (sj_P G w)) (va_Qi Q (sj_B G) (sj_F G)) (sj_XC G QX) rm.cells rm.slots (sj_F G)
abbrev sj_ML (G : sj_G) (l : Launch) (y : MethodName) (ws : List Cond) (rm : Room) (As : List Value) (w : sj_W) (Q : Int64 → sj_W → Prop) (QX : String → sj_W → Prop) : Prop := vx_Met l y ws rm (va_Pc As (sj_P G w)) (va_Ql Q (sj_B G) (sj_F G)) (sj_XC G QX) rm.cells rm.slots (sj_F G)
abbrev sj_MF (G : sj_G) (l : Launch) (y : MethodName) (ws : List Cond) (rm : Room) (As : List Value) (w : sj_W) (Q : UInt32 → sj_W → Prop) (QX : String → sj_W → Prop) : Prop := vx_Met l y ws rm (va_Pc As (sj_P G w)) (va_Qf Q (sj_B G) (sj_F G)) (sj_XC G QX) rm.cells rm.slots (sj_F G)
abbrev sj_MD (G : sj_G) (l : Launch) (y : MethodName) (ws : List Cond) (rm : Room) (As : List Value) (w : sj_W) (Q : UInt64 → sj_W → Prop) (QX : String → sj_W → Prop) : Prop := vx_Met l y ws rm (va_Pc As (sj_P G w)) (va_Qd Q (sj_B G) (sj_F G)) (sj_XC G QX) rm.cells rm.slots (sj_F G)
abbrev sj_MV (G : sj_G) (l : Launch) (y : MethodName) (ws : List Cond) (rm : Room) (As : List Value) (w : sj_W) (Q : sj_W → Prop) (QX : String → sj_W → Prop) : Prop := vx_Met l y ws rm (va_Pc As (sj_P G w)) (va_Qv Q (sj_B G) (sj_F G)) (sj_XC G QX) rm.cells rm.slots (sj_F G)
abbrev sj_MR (G : sj_G) (l : Launch) (y : MethodName) (ws : List Cond) (rm : Room) (As : List Value) (w : sj_W) (Q : Nat → sj_W → Prop) (QX : String → sj_W → Prop) : Prop := vx_Met l y ws rm (va_Pc As (sj_P G w)) (va_Qq (sj_QR Q) (sj_B G) (sj_F G)) (sj_XC G QX) rm.cells rm.slots (sj_F G)
def sj_MQ (G : sj_G) (below : List Frame) (Qc : Array Value → State → Outcome → State → Prop) (QX : String → sj_W → Prop) (args : Array Value) (s : State) (rm : Room) : State → Prop := vx_MQ below Qc (sj_XC G QX) args s rm.cells rm.slots (sj_F G)
/-- a body without handlers -/
def sj_D (meth : Method) (c : Code) : Prop := (∀ x ∈ c.exceptionTable.toList, False) ∧ meth.locks = false
section SJC
variable {p : Program} {l : Launch} {e : Env} {R : Room} {s : State} {m : MethodId} {args : Array Value} {below : List Frame} {meth : Method} {c : Code} {H : Heap} {locs : List Loc} {cells slots : Nat} {Q : State → Prop}
variable {cc : ByteArray} {pc : Nat} {ls : Array Slot} {rest : List Value} {G : sj_G} {own : String} {nL : Nat} {w : sj_W}
variable {y : MethodName} {bytes : ByteArray} {maxL n index : Nat} {ret : Option FieldType} {rm : Room} {Qc : Array Value → State → Outcome → State → Prop} {QX : String → sj_W → Prop} {As : List Value} {b : Nat}
theorem sj_pre (hC : sj_C G p l s m args c cc own nL) (hH : sj_H G s w H locs) : PreS s H (va_Pc As (sj_P G w)) As := ⟨sj_blind, fun U hU hW => ⟨rfl, by rw [hU]; exact hH.1, sj_K.go hC.2.2.2.2.2.1 hH.2 hU hW⟩⟩
theorem sj_recv (hC : sj_C G p l s m args c cc own nL) (hH : sj_H G s w H locs) {ci : Nat} {C : String} {T : u_T} {N : Nat} (hc : vwCl[ci]? = some (C, T, N)) (h6 : ci < 6) (hT : sj_T w b = ci + 1) : ∃ cellB : Cell, H[b]? = some cellB ∧ cellB.vm.isStatics = false ∧ s.vm.findClass C = some cellB.cls := by
  obtain ⟨⟨L, hL, hP, hD⟩, -⟩ := hH
  obtain ⟨k0, hk0⟩ := va_pl_get (X := []) (f := sj_e G.2.1 w) ((hL b).mp (by rw [hT]; omega))
  rw [sj_eO hT h6] at hk0
  exact va_recv hC.2.2.2.2.2.1.1 hP hc hk0
theorem sj_runV (hC : sj_C G p l s m args c cc own nL) (hH : sj_H G s w H locs) (hM : vx_Met l y (sj_ws y bytes maxL ret) rm (va_Pc (.ref b :: As) (sj_P G w)) Qc (sj_XC G QX) rm.cells rm.slots (sj_F G)) {ci : Nat} {T : u_T} {N : Nat} (hc : vwCl[ci]? = some (y.cls, T, N)) (h6 : ci < 6) (hT : sj_T w b = ci + 1)
    (hli : Cond.methodLink own index y ∈ sj_Big) (hin : Cond.instanceMethod y ∈ sj_Big) (hse : Cond.selects y.cls y y ∈ sj_Big) (hini : Cond.initialized y.cls ∈ sj_Big) (hco : Cond.code y bytes maxL ret ∈ sj_Big) (hd : y.cls ≠ "java/lang/invoke/MethodHandle" ∧ y.cls ≠ "java/lang/invoke/VarHandle" ∧ (parseMethodDescriptor y.desc).map (fun d => d.parameters.length) = some n)
    (hR : rm.frames + 1 ≤ R.frames ∧ 8 + (maxL + 11) + rm.locals ≤ R.locals) (hf : cells + rm.cells ≤ R.cells ∧ slots + rm.slots ≤ R.slots) (hn : As.length = n) (hl : ls.size = nL) (hW : (rest.map fun v => v.category).sum ≤ 8) (hdg : decode cc pc = .ok (.invokevirtual index, 3)) :
    vx_Run p l e R s m args below meth c H locs cells slots rm.cells rm.slots (F0 m pc ls (As.reverse ++ .ref b :: rest)) rest (Qc (Value.ref b :: As).toArray) (sj_XC G QX) (sj_F G) :=
  vx_runV (n := n) (y := y) (Ts := sj_Big) (C := y.cls) ⟨hC.1, hC.2.1, hC.2.2.1, hC.2.2.2.1, hC.2.2.2.2.1⟩ hM ⟨callB_of n hC.2.2.2.2.1 (sj_goodIn (fun _ h => h) hco) rfl rfl rfl (hC.2.2.2.2.1 _ hini) (hC.2.2.2.2.1 _ hli) hd hR, hC.2.2.2.2.1 _ hin, hC.2.2.2.2.1 _ hse⟩ ⟨sj_blind, sj_recv hC hH hc h6 hT, (sj_pre hC hH).2⟩ rfl hn hl rfl (lv_room hW) hdg hf
theorem sj_runVN {host : String} (hC : sj_C G p l s m args c cc own nL) (hH : sj_H G s w H locs) (hM : vx_Met l y (sj_ws y bytes maxL ret) rm (va_Pc (.ref b :: As) (sj_P G w)) Qc (sj_XC G QX) rm.cells rm.slots (sj_F G)) {ci : Nat} {T : u_T} {N : Nat} (hc : vwCl[ci]? = some (y.cls, T, N)) (h6 : ci < 6) (hT : sj_T w b = ci + 1)
    (hli : Cond.methodLinkNest own index y host ∈ sj_Nws) (hin : Cond.instanceMethod y ∈ sj_Big) (hse : Cond.selects y.cls y y ∈ sj_Big) (hini : Cond.initialized y.cls ∈ sj_Big) (hco : Cond.code y bytes maxL ret ∈ sj_Big) (hd : y.cls ≠ "java/lang/invoke/MethodHandle" ∧ y.cls ≠ "java/lang/invoke/VarHandle" ∧ (parseMethodDescriptor y.desc).map (fun d => d.parameters.length) = some n)
    (hR : rm.frames + 1 ≤ R.frames ∧ 8 + (maxL + 11) + rm.locals ≤ R.locals) (hf : cells + rm.cells ≤ R.cells ∧ slots + rm.slots ≤ R.slots) (hn : As.length = n) (hl : ls.size = nL) (hW : (rest.map fun v => v.category).sum ≤ 8) (hdg : decode cc pc = .ok (.invokevirtual index, 3)) :
    vx_Run p l e R s m args below meth c H locs cells slots rm.cells rm.slots (F0 m pc ls (As.reverse ++ .ref b :: rest)) rest (Qc (Value.ref b :: As).toArray) (sj_XC G QX) (sj_F G) :=
  vx_runVN (n := n) (y := y) (Ts := sj_Big) (C := y.cls) (host := host) ⟨hC.1, hC.2.1, hC.2.2.1, hC.2.2.2.1, hC.2.2.2.2.1⟩ hM ⟨va_cnB n hC.2.2.2.2.1 (sj_goodIn (fun _ h => h) hco) rfl rfl rfl (hC.2.2.2.2.2.1.2.2.2.2.2.1 _ hli) (hC.2.2.2.2.1 _ hini) hd hR, hC.2.2.2.2.1 _ hin, hC.2.2.2.2.1 _ hse⟩ ⟨sj_blind, sj_recv hC hH hc h6 hT, (sj_pre hC hH).2⟩ rfl hn hl rfl (lv_room hW) hdg hf
theorem sj_runS (hC : sj_C G p l s m args c cc own nL) (hH : sj_H G s w H locs) (hM : vx_Met l y (sj_ws y bytes maxL ret) rm (va_Pc As (sj_P G w)) Qc (sj_XC G QX) rm.cells rm.slots (sj_F G))
    (hli : Cond.methodLink own index y ∈ sj_Big) (hst : Cond.static y ∈ sj_Big) (hini : Cond.initialized y.cls ∈ sj_Big) (hco : Cond.code y bytes maxL ret ∈ sj_Big) (hd : y.cls ≠ "java/lang/invoke/MethodHandle" ∧ y.cls ≠ "java/lang/invoke/VarHandle" ∧ (parseMethodDescriptor y.desc).map (fun d => d.parameters.length) = some n)
    (hR : rm.frames + 1 ≤ R.frames ∧ 8 + (maxL + 11) + rm.locals ≤ R.locals) (hf : cells + rm.cells ≤ R.cells ∧ slots + rm.slots ≤ R.slots) (hn : As.length = n) (hl : ls.size = nL) (hW : (rest.map fun v => v.category).sum ≤ 8) (hdg : decode cc pc = .ok (.invokestatic index, 3)) :
    vx_Run p l e R s m args below meth c H locs cells slots rm.cells rm.slots (F0 m pc ls (As.reverse ++ rest)) rest (Qc As.toArray) (sj_XC G QX) (sj_F G) :=
  vx_runS (n := n) (y := y) (Ts := sj_Big) ⟨hC.1, hC.2.1, hC.2.2.1, hC.2.2.2.1, hC.2.2.2.2.1⟩ hM ⟨callB_of n hC.2.2.2.2.1 (sj_goodIn (fun _ h => h) hco) rfl rfl rfl (hC.2.2.2.2.1 _ hini) (hC.2.2.2.2.1 _ hli) hd hR, hC.2.2.2.2.1 _ hst⟩ (sj_pre hC hH) rfl hn hl rfl (lv_room hW) hdg hf
theorem sj_runSN {host : String} (hC : sj_C G p l s m args c cc own nL) (hH : sj_H G s w H locs) (hM : vx_Met l y (sj_ws y bytes maxL ret) rm (va_Pc As (sj_P G w)) Qc (sj_XC G QX) rm.cells rm.slots (sj_F G))
    (hli : Cond.methodLinkNest own index y host ∈ sj_Nws) (hst : Cond.static y ∈ sj_Big) (hini : Cond.initialized y.cls ∈ sj_Big) (hco : Cond.code y bytes maxL ret ∈ sj_Big) (hd : y.cls ≠ "java/lang/invoke/MethodHandle" ∧ y.cls ≠ "java/lang/invoke/VarHandle" ∧ (parseMethodDescriptor y.desc).map (fun d => d.parameters.length) = some n)
    (hR : rm.frames + 1 ≤ R.frames ∧ 8 + (maxL + 11) + rm.locals ≤ R.locals) (hf : cells + rm.cells ≤ R.cells ∧ slots + rm.slots ≤ R.slots) (hn : As.length = n) (hl : ls.size = nL) (hW : (rest.map fun v => v.category).sum ≤ 8) (hdg : decode cc pc = .ok (.invokestatic index, 3)) :
    vx_Run p l e R s m args below meth c H locs cells slots rm.cells rm.slots (F0 m pc ls (As.reverse ++ rest)) rest (Qc As.toArray) (sj_XC G QX) (sj_F G) :=
  vx_runSN (n := n) (y := y) (Ts := sj_Big) (host := host) ⟨hC.1, hC.2.1, hC.2.2.1, hC.2.2.2.1, hC.2.2.2.2.1⟩ hM ⟨va_cnB n hC.2.2.2.2.1 (sj_goodIn (fun _ h => h) hco) rfl rfl rfl (hC.2.2.2.2.2.1.2.2.2.2.2.1 _ hli) (hC.2.2.2.2.1 _ hini) hd hR, hC.2.2.2.2.1 _ hst, trivial⟩ (sj_pre hC hH) rfl hn hl rfl (lv_room hW) hdg hf
theorem sj_runI (hC : sj_C G p l s m args c cc own nL) (hH : sj_H G s w H locs) (hM : vx_Met l y (sj_ws y bytes maxL none) rm (va_Pc (.ref b :: As) (sj_P G w)) Qc (sj_XC G QX) rm.cells rm.slots (sj_F G))
    (hli : Cond.methodLink own index y ∈ sj_Big) (hin : Cond.instanceMethod y ∈ sj_Big) (hini : Cond.initialized y.cls ∈ sj_Big) (hco : Cond.code y bytes maxL none ∈ sj_Big) (hy : y.name = "<init>") (hd : y.cls ≠ "java/lang/invoke/MethodHandle" ∧ y.cls ≠ "java/lang/invoke/VarHandle" ∧ (parseMethodDescriptor y.desc).map (fun d => d.parameters.length) = some n)
    (hR : rm.frames + 1 ≤ R.frames ∧ 8 + (maxL + 11) + rm.locals ≤ R.locals) (hf : cells + rm.cells ≤ R.cells ∧ slots + rm.slots ≤ R.slots) (hn : As.length = n) (hl : ls.size = nL) (hW : (rest.map fun v => v.category).sum ≤ 8) (hdg : decode cc pc = .ok (.invokespecial index, 3)) :
    vx_Run p l e R s m args below meth c H locs cells slots rm.cells rm.slots (F0 m pc ls (As.reverse ++ .ref b :: rest)) rest (Qc (Value.ref b :: As).toArray) (sj_XC G QX) (sj_F G) :=
  vx_runI (n := n) (y := y) (Ts := sj_Big) ⟨hC.1, hC.2.1, hC.2.2.1, hC.2.2.2.1, hC.2.2.2.2.1⟩ hM ⟨callB_of n hC.2.2.2.2.1 (sj_goodIn (fun _ h => h) hco) rfl rfl rfl (hC.2.2.2.2.1 _ hini) (hC.2.2.2.2.1 _ hli) hd hR, hy, hC.2.2.2.2.1 _ hin⟩ (sj_pre hC hH) rfl hn hl rfl (lv_room hW) hdg hf
theorem sj_runIN {host : String} (hC : sj_C G p l s m args c cc own nL) (hH : sj_H G s w H locs) (hM : vx_Met l y (sj_ws y bytes maxL none) rm (va_Pc (.ref b :: As) (sj_P G w)) Qc (sj_XC G QX) rm.cells rm.slots (sj_F G))
    (hli : Cond.methodLinkNest own index y host ∈ sj_Nws) (hin : Cond.instanceMethod y ∈ sj_Big) (hini : Cond.initialized y.cls ∈ sj_Big) (hco : Cond.code y bytes maxL none ∈ sj_Big) (hy : y.name = "<init>") (hd : y.cls ≠ "java/lang/invoke/MethodHandle" ∧ y.cls ≠ "java/lang/invoke/VarHandle" ∧ (parseMethodDescriptor y.desc).map (fun d => d.parameters.length) = some n)
    (hR : rm.frames + 1 ≤ R.frames ∧ 8 + (maxL + 11) + rm.locals ≤ R.locals) (hf : cells + rm.cells ≤ R.cells ∧ slots + rm.slots ≤ R.slots) (hn : As.length = n) (hl : ls.size = nL) (hW : (rest.map fun v => v.category).sum ≤ 8) (hdg : decode cc pc = .ok (.invokespecial index, 3)) :
    vx_Run p l e R s m args below meth c H locs cells slots rm.cells rm.slots (F0 m pc ls (As.reverse ++ .ref b :: rest)) rest (Qc (Value.ref b :: As).toArray) (sj_XC G QX) (sj_F G) :=
  vx_runIN (n := n) (y := y) (Ts := sj_Big) (host := host) ⟨hC.1, hC.2.1, hC.2.2.1, hC.2.2.2.1, hC.2.2.2.2.1⟩ hM ⟨va_cnB n hC.2.2.2.2.1 (sj_goodIn (fun _ h => h) hco) rfl rfl rfl (hC.2.2.2.2.2.1.2.2.2.2.2.1 _ hli) (hC.2.2.2.2.1 _ hini) hd hR, hy, hC.2.2.2.2.1 _ hin⟩ (sj_pre hC hH) rfl hn hl rfl (lv_room hW) hdg hf
/-! the way on behind a call, in a body without handlers: what is thrown goes on to the caller -/
variable {a : Array Value} {mc ms : Nat} {rmM : Room} {QcM : Array Value → State → Outcome → State → Prop} {st0 : List Value}
theorem sj_kx (hD : sj_D meth c) (hf : cells ≤ rmM.cells ∧ slots ≤ rmM.slots) {E : String} {ce : Cell} {q9 : Addr} {u : sj_W} {t : State} {H1 : Heap} {locs1 : List Loc} (ht : t.heap = H1) (hB : sj_BX G QX E u t) (hS : va_S (sj_F G) s.heap H1 locs1) (hq : H1[q9]? = some ce) (hv : ce.vm = .none) (hcl : s.vm.findClass E = some ce.cls) :
    vx_W p l e R s m args below meth c H1 locs1 cells slots (sj_MQ G below QcM QX args s rmM) (F0 m pc ls rest) q9 := by
  subst ht
  refine vx_out (E := E) (ce := ce) (fun x hx => (hD.1 x hx).elim) hD.2 hq hv hcl (fun t2 ht2 _ => ⟨u, trivial, ⟨hB.1, by rw [ht2]; exact hB.2⟩, hS.F ht2⟩) hS.2.2 hf.1 hf.2
theorem sj_cI {Qi : Int32 → sj_W → Prop} (hD : sj_D meth c) (hH : sj_H G s w H locs) (hr : vx_Run p l e R s m args below meth c H locs cells slots mc ms (F0 m pc ls st0) rest (va_Qi Qi (sj_B G) (sj_F G) a) (sj_XC G QX) (sj_F G)) (hf : cells + mc ≤ rmM.cells ∧ slots + ms ≤ rmM.slots)
    (kk : ∀ (r : Int32) (w1 : sj_W) (H1 : Heap) (locs1 : List Loc), sj_H G s w1 H1 locs1 → Qi r w1 → W p l e R s m args below meth c H1 locs1 (cells + mc) (slots + ms) (sj_MQ G below QcM QX args s rmM) (F0 m (pc + 3) ls (.int r :: rest))) : W p l e R s m args below meth c H locs cells slots (sj_MQ G below QcM QX args s rmM) (F0 m pc ls st0) :=
  vx_calli hr hH.2 (fun _ _ h => h) (fun _ h => h) (fun _ _ h => h) (fun E ce q9 u t H1 locs1 ht _ _ hB _ _ hS hq hv hcl => sj_kx hD hf ht hB hS hq hv hcl) (fun r u t H1 locs1 ht _ hp hB _ _ hS => kk r u H1 locs1 ⟨by rw [← ht]; exact hB, hS⟩ hp)
theorem sj_cL {Qi : Int64 → sj_W → Prop} (hD : sj_D meth c) (hH : sj_H G s w H locs) (hr : vx_Run p l e R s m args below meth c H locs cells slots mc ms (F0 m pc ls st0) rest (va_Ql Qi (sj_B G) (sj_F G) a) (sj_XC G QX) (sj_F G)) (hf : cells + mc ≤ rmM.cells ∧ slots + ms ≤ rmM.slots)
    (kk : ∀ (r : Int64) (w1 : sj_W) (H1 : Heap) (locs1 : List Loc), sj_H G s w1 H1 locs1 → Qi r w1 → W p l e R s m args below meth c H1 locs1 (cells + mc) (slots + ms) (sj_MQ G below QcM QX args s rmM) (F0 m (pc + 3) ls (.long r :: rest))) : W p l e R s m args below meth c H locs cells slots (sj_MQ G below QcM QX args s rmM) (F0 m pc ls st0) :=
  vx_calll hr hH.2 (fun _ _ h => h) (fun _ h => h) (fun _ _ h => h) (fun E ce q9 u t H1 locs1 ht _ _ hB _ _ hS hq hv hcl => sj_kx hD hf ht hB hS hq hv hcl) (fun r u t H1 locs1 ht _ hp hB _ _ hS => kk r u H1 locs1 ⟨by rw [← ht]; exact hB, hS⟩ hp)
theorem sj_cV {Qi : sj_W → Prop} (hD : sj_D meth c) (hH : sj_H G s w H locs) (hr : vx_Run p l e R s m args below meth c H locs cells slots mc ms (F0 m pc ls st0) rest (va_Qv Qi (sj_B G) (sj_F G) a) (sj_XC G QX) (sj_F G)) (hf : cells + mc ≤ rmM.cells ∧ slots + ms ≤ rmM.slots)
    (kk : ∀ (w1 : sj_W) (H1 : Heap) (locs1 : List Loc), sj_H G s w1 H1 locs1 → Qi w1 → W p l e R s m args below meth c H1 locs1 (cells + mc) (slots + ms) (sj_MQ G below QcM QX args s rmM) (F0 m (pc + 3) ls rest)) : W p l e R s m args below meth c H locs cells slots (sj_MQ G below QcM QX args s rmM) (F0 m pc ls st0) :=
  vx_callv hr hH.2 (fun _ _ h => h) (fun _ h => h) (fun _ _ h => h) (fun E ce q9 u t H1 locs1 ht _ _ hB _ _ hS hq hv hcl => sj_kx hD hf ht hB hS hq hv hcl) (fun u t H1 locs1 ht _ hp hB _ _ hS => kk u H1 locs1 ⟨by rw [← ht]; exact hB, hS⟩ hp)
theorem sj_cR {Qi : Nat → sj_W → Prop} (hD : sj_D meth c) (hH : sj_H G s w H locs) (hr : vx_Run p l e R s m args below meth c H locs cells slots mc ms (F0 m pc ls st0) rest (va_Qq (sj_QR Qi) (sj_B G) (sj_F G) a) (sj_XC G QX) (sj_F G)) (hf : cells + mc ≤ rmM.cells ∧ slots + ms ≤ rmM.slots)
    (kk : ∀ (r : Nat) (w1 : sj_W) (H1 : Heap) (locs1 : List Loc), sj_H G s w1 H1 locs1 → Qi r w1 → W p l e R s m args below meth c H1 locs1 (cells + mc) (slots + ms) (sj_MQ G below QcM QX args s rmM) (F0 m (pc + 3) ls (.ref r :: rest))) : W p l e R s m args below meth c H locs cells slots (sj_MQ G below QcM QX args s rmM) (F0 m pc ls st0) :=
  vx_callq hr hH.2 (fun _ _ h => h) (fun _ h => h) (fun _ _ h => h) (fun E ce q9 u t H1 locs1 ht _ _ hB _ _ hS hq hv hcl => sj_kx hD hf ht hB hS hq hv hcl) (fun r u t H1 locs1 ht _ hp hB _ _ hS => by
    obtain ⟨r1, rfl, hp1⟩ := hp
    exact kk r1 u H1 locs1 ⟨by rw [← ht]; exact hB, hS⟩ hp1)
/-! a method's end -/
theorem sj_retI {Qi : Int32 → sj_W → Prop} {ty : FieldType} (hC : sj_C G p l s m args c cc own nL) (hD : sj_D meth c) (hH : sj_H G s w H locs) (hr : meth.sig.returnType = some ty) {v : Int32} (hn : narrow ty (.int v) = .int v) (hq : Qi v w) (hf : cells ≤ rmM.cells ∧ slots ≤ rmM.slots) (hdg : decode cc pc = .ok (.ireturn, 1)) :
    W p l e R s m args below meth c H locs cells slots (sj_MQ G below (va_Qi Qi (sj_B G) (sj_F G)) QX args s rmM) (F0 m pc ls [.int v]) := by
  have hlocks := hD.2
  refine W.widen hf.1 hf.2 (vx_ret ?_)
  exact W.zret hC.1 hC.2.1 hr hn (fun t ht _ => ⟨⟨v, w, rfl, hq, show sj_M G w t.heap by rw [ht]; exact hH.1⟩, hH.2.F ht⟩) hH.2.2.2 hdg
theorem sj_retL {Qi : Int64 → sj_W → Prop} (hC : sj_C G p l s m args c cc own nL) (hD : sj_D meth c) (hH : sj_H G s w H locs) (hr : meth.sig.returnType = some .long) {v : Int64} (hq : Qi v w) (hf : cells ≤ rmM.cells ∧ slots ≤ rmM.slots) (hdg : decode cc pc = .ok (.lreturn, 1)) :
    W p l e R s m args below meth c H locs cells slots (sj_MQ G below (va_Ql Qi (sj_B G) (sj_F G)) QX args s rmM) (F0 m pc ls [.long v]) := by
  have hlocks := hD.2
  refine W.widen hf.1 hf.2 (vx_ret ?_)
  exact W.lret hC.1 hC.2.1 hr (fun t ht _ => ⟨⟨v, w, rfl, hq, show sj_M G w t.heap by rw [ht]; exact hH.1⟩, hH.2.F ht⟩) hH.2.2.2 hdg
theorem sj_retF {Qi : UInt32 → sj_W → Prop} (hC : sj_C G p l s m args c cc own nL) (hD : sj_D meth c) (hH : sj_H G s w H locs) (hr : meth.sig.returnType = some .float) {v : UInt32} (hq : Qi v w) (hf : cells ≤ rmM.cells ∧ slots ≤ rmM.slots) (hdg : decode cc pc = .ok (.freturn, 1)) :
    W p l e R s m args below meth c H locs cells slots (sj_MQ G below (va_Qf Qi (sj_B G) (sj_F G)) QX args s rmM) (F0 m pc ls [.float v]) := by
  have hlocks := hD.2
  refine W.widen hf.1 hf.2 (vx_ret ?_)
  exact W.fret hC.1 hC.2.1 hr (fun t ht _ => ⟨⟨v, w, rfl, hq, show sj_M G w t.heap by rw [ht]; exact hH.1⟩, hH.2.F ht⟩) hH.2.2.2 hdg
theorem sj_retD {Qi : UInt64 → sj_W → Prop} (hC : sj_C G p l s m args c cc own nL) (hD : sj_D meth c) (hH : sj_H G s w H locs) (hr : meth.sig.returnType = some .double) {v : UInt64} (hq : Qi v w) (hf : cells ≤ rmM.cells ∧ slots ≤ rmM.slots) (hdg : decode cc pc = .ok (.dreturn, 1)) :
    W p l e R s m args below meth c H locs cells slots (sj_MQ G below (va_Qd Qi (sj_B G) (sj_F G)) QX args s rmM) (F0 m pc ls [.double v]) := by
  have hlocks := hD.2
  refine W.widen hf.1 hf.2 (vx_ret ?_)
  exact W.dret hC.1 hC.2.1 hr (fun t ht _ => ⟨⟨v, w, rfl, hq, show sj_M G w t.heap by rw [ht]; exact hH.1⟩, hH.2.F ht⟩) hH.2.2.2 hdg
theorem sj_retV {Qi : sj_W → Prop} (hC : sj_C G p l s m args c cc own nL) (hD : sj_D meth c) (hH : sj_H G s w H locs) (hr : meth.sig.returnType = none) (hq : Qi w) (hf : cells ≤ rmM.cells ∧ slots ≤ rmM.slots) (hdg : decode cc pc = .ok (.return_, 1)) :
    W p l e R s m args below meth c H locs cells slots (sj_MQ G below (va_Qv Qi (sj_B G) (sj_F G)) QX args s rmM) (F0 m pc ls []) := by
  have hlocks := hD.2
  refine W.widen hf.1 hf.2 (vx_ret ?_)
  exact W.vret hC.1 hC.2.1 hr (fun t ht _ => ⟨⟨w, rfl, hq, show sj_M G w t.heap by rw [ht]; exact hH.1⟩, hH.2.F ht⟩) hH.2.2.2 hdg
theorem sj_retR {Qi : Nat → sj_W → Prop} {ty : FieldType} (hty : (∃ n, ty = .object n) ∨ ∃ t, ty = .array t) (hC : sj_C G p l s m args c cc own nL) (hD : sj_D meth c) (hH : sj_H G s w H locs) (hr : meth.sig.returnType = some ty) {v : Nat} (hq : Qi v w) (hf : cells ≤ rmM.cells ∧ slots ≤ rmM.slots) (hdg : decode cc pc = .ok (.areturn, 1)) :
    W p l e R s m args below meth c H locs cells slots (sj_MQ G below (va_Qq (sj_QR Qi) (sj_B G) (sj_F G)) QX args s rmM) (F0 m pc ls [.ref v]) := by
  have hlocks := hD.2
  refine W.widen hf.1 hf.2 (vx_ret ?_)
  exact W.aret hC.1 hC.2.1 hr hty (Or.inr ⟨v, rfl⟩) (fun t ht _ => ⟨⟨some v, w, rfl, ⟨v, rfl, hq⟩, show sj_M G w t.heap by rw [ht]; exact hH.1⟩, hH.2.F ht⟩) hH.2.2.2 hdg
end SJC

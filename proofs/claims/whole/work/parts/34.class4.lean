abbrev rm_X6_number : Room := { frames := 8, cells := 3, slots := 18, locals := 124 }
def vc_X6_number (self : Nat) (a1 : Int32) (a2 : Int32) (a3 : Int32) (w : sj_W) (Q : Int64 → sj_W → Prop) (QX : String → sj_W → Prop) : Prop := vc_X6_kindOf a1 w (fun r1 w2 => sj_T w2 self = 5 ∧ vc_X6_rowOf self r1 a2 w2 (fun r4 w5 => sj_T w5 r4 = 2 ∧ vc_X6_wantPlace a3 (sj_I w5 9 r4) w5 (fun w8 => sj_T w8 r4 = 2 ∧ sj_A w8 8 r4 ≠ 0 ∧ sj_T w8 (sj_A w8 8 r4) = 8 ∧ vp_in a3 (sj_N w8 (sj_A w8 8 r4)) ∧ Q (sj_l w8 (sj_A w8 8 r4) a3.toNatClampNeg) w8) QX) QX) QX
set_option maxHeartbeats 4000000 in
set_option maxRecDepth 100000 in
theorem wk_X6_number (G : sj_G) (l : Launch) (hlt : l.stackTraces = false) (self : Nat) (a1 : Int32) (a2 : Int32) (a3 : Int32) (w : sj_W) (Q : Int64 → sj_W → Prop) (QX : String → sj_W → Prop) (hv : vc_X6_number self a1 a2 a3 w Q QX) : sj_ML G l yX6_number (sj_ws yX6_number cX6_number 5 (some .long)) rm_X6_number [.ref self, .int a1, .int a2, .int a3] w Q QX := by
  refine sj_of (by decide +kernel) (Nat.le_of_ble_eq_true rfl) hlt ?_
  intro p e s m args below meth c ls hC hD hr hin hH hl
  have hx := hC.1
  have hb := hC.2.1
  have hl : lv_has ls 5 [(0, .ref self), (1, .int a1), (2, .int a2), (3, .int a3)] := hl
  refine lv_aload_n hx hb dX6_number_0 rfl (lv_at hl 0 rfl) ?_
  refine lv_iload_n hx hb dX6_number_1 rfl (lv_at hl 1 rfl) ?_
  refine cl_X6_34 hC hD hH hv ⟨Nat.le_of_ble_eq_true rfl, Nat.le_of_ble_eq_true rfl⟩ ⟨(Nat.le_of_ble_eq_true rfl), (Nat.le_of_ble_eq_true rfl)⟩ ⟨(Nat.le_of_ble_eq_true rfl), (Nat.le_of_ble_eq_true rfl)⟩ hl.1 (Nat.le_of_ble_eq_true rfl) dX6_number_2 (fun r1 w2 H locs hH hv3 => ?_)
  refine lv_iload_n hx hb dX6_number_5 rfl (lv_at hl 2 rfl) ?_
  refine cl_X6_42 hC hD hH hv3.2 hv3.1 ⟨Nat.le_of_ble_eq_true rfl, Nat.le_of_ble_eq_true rfl⟩ ⟨(Nat.le_of_ble_eq_true rfl), (Nat.le_of_ble_eq_true rfl)⟩ ⟨(Nat.le_of_ble_eq_true rfl), (Nat.le_of_ble_eq_true rfl)⟩ hl.1 (Nat.le_of_ble_eq_true rfl) dX6_number_6 (fun r4 w5 H locs hH hv6 => ?_)
  refine lv_astore (lv' := [(4, .ref r4), (0, .ref self), (1, .int a1), (2, .int a2), (3, .int a3)]) hx hb dX6_number_9 hl (by decide) rfl (fun ls hl => ?_)
  refine lv_iload_n hx hb dX6_number_11 rfl (lv_at hl 4 rfl) ?_
  refine lv_aload hx hb dX6_number_12 (lv_at hl 0 rfl) ?_
  refine gf_X6_46 hC hH hv6.1 dX6_number_14 ?_
  refine cl_X6_61 hC hD hH hv6.2 ⟨Nat.le_of_ble_eq_true rfl, Nat.le_of_ble_eq_true rfl⟩ ⟨(Nat.le_of_ble_eq_true rfl), (Nat.le_of_ble_eq_true rfl)⟩ ⟨(Nat.le_of_ble_eq_true rfl), (Nat.le_of_ble_eq_true rfl)⟩ hl.1 (Nat.le_of_ble_eq_true rfl) dX6_number_17 (fun w8 H locs hH hv9 => ?_)
  refine lv_aload hx hb dX6_number_20 (lv_at hl 0 rfl) ?_
  refine gf_X6_57 hC hH hv9.1 hv9.2.1 dX6_number_22 ?_
  refine lv_iload_n hx hb dX6_number_25 rfl (lv_at hl 4 rfl) ?_
  refine sj_lald hC hH hv9.2.2.1 hv9.2.2.2.1 dX6_number_26 ?_
  exact sj_retL hC hD.2 hH hr hv9.2.2.2.2 ⟨(Nat.le_of_ble_eq_true rfl), (Nat.le_of_ble_eq_true rfl)⟩ dX6_number_27
section SJL_X6_number
variable {p : Program} {l : Launch} {e : Env} {R : Room} {s : State} {m : MethodId} {args : Array Value} {below : List Frame} {meth : Method} {c : Code} {H : Heap} {locs : List Loc} {cells slots : Nat} {Q : State → Prop} {cc : ByteArray} {pc : Nat} {ls : Array Slot} {rest : List Value} {G : sj_G} {nL : Nat} {w : sj_W}
theorem cx_L_23 {QX : String → sj_W → Prop} {b : Nat} {b0 : Int32} {b1 : Int32} {b2 : Int32} {Qi : Int64 → sj_W → Prop} (hC : sj_C G p l s m args c cc RL nL) (hH : sj_H G s w H locs) (hv : vc_X6_number b b0 b1 b2 w Qi QX) (hT : sj_T w b = 5) (hR : rm_X6_number.frames + 1 ≤ R.frames ∧ 8 + (5 + 11) + rm_X6_number.locals ≤ R.locals) (hf : cells + 3 ≤ R.cells ∧ slots + 18 ≤ R.slots) (hls : ls.size = nL) (hW : (rest.map fun v => v.category).sum ≤ 8) (hdg : decode cc pc = .ok (.invokevirtual 23, 3)) (kx : ∀ (E : String) (ce : Cell) (q9 : Addr) (w1 : sj_W) (H1 : Heap) (locs1 : List Loc), sj_H G s w1 H1 locs1 → QX E w1 → H1[q9]? = some ce → ce.vm = .none → s.vm.findClass E = some ce.cls → vx_W p l e R s m args below meth c H1 locs1 (cells + 3) (slots + 18) Q (F0 m pc ls rest) q9) (kk : ∀ (r : Int64) (w1 : sj_W) (H : Heap) (locs : List Loc), sj_H G s w1 H locs → Qi r w1 → W p l e R s m args below meth c H locs (cells + 3) (slots + 18) Q (F0 m (pc + 3) ls (.long r :: rest))) : W p l e R s m args below meth c H locs cells slots Q (F0 m pc ls (.int b2 :: .int b1 :: .int b0 :: .ref b :: rest)) :=
  sj_xL hH (sj_runV (n := 3) hC hH (As := [.int b0, .int b1, .int b2]) (wk_X6_number G l hC.2.2.2.2.2.2 b b0 b1 b2 w Qi QX hv) (ci := 4) rfl (by decide) hT mb_269 mb_270 mb_271 mb_1 mb_272 (by decide +kernel) hR hf rfl hls hW hdg) kx kk
end SJL_X6_number
abbrev rm_X6_occurs : Room := { frames := 8, cells := 41, slots := 135, locals := 124 }
def vb_X6_occurs_34 (f5 : Nat) (f6 : Nat) (Q : Int32 → sj_W → Prop) (QX : String → sj_W → Prop) (E : Int32 → sj_W → Prop) (K : Int32 → Int32 → sj_W → Prop) (v7 : Int32) (v8 : Int32) (w : sj_W) : Prop := sj_T w f6 = 4 ∧ vc_X4_size f6 w (fun r13 w14 => sj_T w14 f5 = 2 ∧ (((sj_I w14 9 f5) < (v8 + r13) → E v7 w14) ∧ (¬ (sj_I w14 9 f5) < (v8 + r13) → ∀ q18 : Nat, q18 ≠ 0 → sj_T w14 q18 = 0 → ∀ w19 : sj_W, w19 = sj_nw w14 q18 4 0 → sj_T w19 f5 = 2 ∧ sj_A w19 8 f5 ≠ 0 ∧ sj_T w19 f5 = 2 ∧ vc_X4_init q18 (sj_A w19 8 f5) v8 (sj_I w19 9 f5) w19 (fun w24 => vc_X6_alike q18 f6 w24 (fun r26 w27 => sj_T w27 f6 = 4 ∧ vc_X4_size f6 w27 (fun r29 w30 => ((¬ r26 = r29 → K v7 (v8 + 1) w30) ∧ (r26 = r29 → K (v7 + 1) (v8 + 1) w30))))))))
def vc_X6_occurs (self : Nat) (a1 : Int32) (a2 : Int32) (a3 : Int32) (w : sj_W) (Q : Int32 → sj_W → Prop) (QX : String → sj_W → Prop) : Prop := vc_X6_kindOf a1 w (fun r1 w2 => sj_T w2 self = 5 ∧ vc_X6_rowOf self r1 a2 w2 (fun r4 w5 => sj_T w5 self = 5 ∧ vc_X6_spanOf self a3 w5 (fun r7 w8 => sj_T w8 self = 5 ∧ vc_X6_fittingWord self r1 r7 w8 (fun r10 w11 => sj_lp2 (vb_X6_occurs_34 r4 r10 Q QX (fun z7_34 w_34 => Q z7_34 w_34)) 36 0 0 w11) QX) QX) QX) QX
set_option maxHeartbeats 4000000 in
set_option maxRecDepth 100000 in
theorem wl_X6_occurs_34 {p : Program} {l : Launch} {e : Env} {s : State} {m : MethodId} {args : Array Value} {below : List Frame} {meth : Method} {c : Code} {G : sj_G} {f5 : Nat} {f6 : Nat} {Q : Int32 → sj_W → Prop} {QX : String → sj_W → Prop} {E : Int32 → sj_W → Prop} (hC : sj_C G p l s m args c cX6_occurs RX6 9) (hD : sj_D meth c) (hr : meth.sig.returnType = (some .int)) (hin : meth.name = "occurs") (hE : ∀ (v7 : Int32) (w : sj_W) (H : Heap) (locs : List Loc) (ls : Array Slot), lv_has ls 9 [(7, .int v7)] → sj_H G s w H locs → E v7 w → W p l e rm_X6_occurs s m args below meth c H locs 40 132 (sj_MQ G below (va_Qi Q (sj_B G) (sj_F G)) QX args s rm_X6_occurs) (F0 m 91 ls [])) : ∀ (n : Nat) (v7 : Int32) (v8 : Int32) (w : sj_W) (H : Heap) (locs : List Loc) (ls : Array Slot) (cells slots : Nat), cells + n * 1 ≤ 40 → slots + n * 3 ≤ 132 → lv_has ls 9 [(5, .ref f5), (6, .ref f6), (7, .int v7), (8, .int v8)] → sj_H G s w H locs → sj_lp2 (vb_X6_occurs_34 f5 f6 Q QX E) n v7 v8 w → W p l e rm_X6_occurs s m args below meth c H locs cells slots (sj_MQ G below (va_Qi Q (sj_B G) (sj_F G)) QX args s rm_X6_occurs) (F0 m 34 ls []) := by
  have hx := hC.1
  have hb := hC.2.1
  intro n
  induction n with
  | zero =>
    intro v7 v8 w H locs ls cells slots _ _ _ _ hv
    exact hv.elim
  | succ n ih =>
    intro v7 v8 w H locs ls cells slots hcc hcs hl hH hv
    have hv : vb_X6_occurs_34 f5 f6 Q QX E (sj_lp2 (vb_X6_occurs_34 f5 f6 Q QX E) n) v7 v8 w := hv
    have hc1 : rm_X6_occurs.cells = 41 := rfl
    have hc2 : rm_X6_occurs.slots = 135 := rfl
    refine lv_iload hx hb dX6_occurs_34 (lv_at hl 3 rfl) ?_
    refine lv_aload hx hb dX6_occurs_36 (lv_at hl 1 rfl) ?_
    refine cl_X6_168 hC hD hH hv.2 hv.1 ⟨Nat.le_of_ble_eq_true rfl, Nat.le_of_ble_eq_true rfl⟩ ⟨(by have hc1 : rm_X6_occurs.cells = 41 := rfl; omega), (by have hc1 : rm_X6_occurs.slots = 135 := rfl; omega)⟩ ⟨(by have hc1 : rm_X6_occurs.cells = 41 := rfl; omega), (by have hc1 : rm_X6_occurs.slots = 135 := rfl; omega)⟩ hl.1 (Nat.le_of_ble_eq_true rfl) dX6_occurs_38 (fun r13 w14 H locs hH hv15 => ?_)
    refine lv_iadd hx hb dX6_occurs_41 ?_
    refine lv_aload hx hb dX6_occurs_42 (lv_at hl 0 rfl) ?_
    refine gf_X6_46 hC hH hv15.1 dX6_occurs_44 ?_
    refine lv_icmp_gt (tgt := 91) hx hb dX6_occurs_47 (by decide) (fun hc => ?_) (fun hc => ?_)
    · have hv16 := hv15.2.1 hc
      refine W.widen (k := 40) (n := 132) (by omega) (by omega) ?_
      exact hE v7 w14 _ _ _ (lv_sub hl [2] rfl) hH hv16
    · have hv17 := hv15.2.2 hc
      refine nw_X6_124 hC hH (by have hc1 : rm_X6_occurs.cells = 41 := rfl; omega) (by have hc1 : rm_X6_occurs.slots = 135 := rfl; omega) dX6_occurs_50 (fun q18 w19 H h21 h22 e20 hH => ?_)
      refine lv_dup hx hb dX6_occurs_53 rfl ?_
      refine lv_aload hx hb dX6_occurs_54 (lv_at hl 0 rfl) ?_
      refine gf_X6_57 hC hH (hv17 q18 h21 h22 w19 e20).1 (hv17 q18 h21 h22 w19 e20).2.1 dX6_occurs_56 ?_
      refine lv_iload hx hb dX6_occurs_59 (lv_at hl 3 rfl) ?_
      refine lv_aload hx hb dX6_occurs_61 (lv_at hl 0 rfl) ?_
      refine gf_X6_46 hC hH (hv17 q18 h21 h22 w19 e20).2.2.1 dX6_occurs_63 ?_
      refine cl_X6_126 hC hD hH (hv17 q18 h21 h22 w19 e20).2.2.2 ⟨Nat.le_of_ble_eq_true rfl, Nat.le_of_ble_eq_true rfl⟩ ⟨(by have hc1 : rm_X6_occurs.cells = 41 := rfl; omega), (by have hc1 : rm_X6_occurs.slots = 135 := rfl; omega)⟩ ⟨(by have hc1 : rm_X6_occurs.cells = 41 := rfl; omega), (by have hc1 : rm_X6_occurs.slots = 135 := rfl; omega)⟩ hl.1 (Nat.le_of_ble_eq_true rfl) dX6_occurs_66 (fun w24 H locs hH hv25 => ?_)
      refine lv_aload hx hb dX6_occurs_69 (lv_at hl 1 rfl) ?_
      refine cl_X6_129 hC hD hH hv25 ⟨Nat.le_of_ble_eq_true rfl, Nat.le_of_ble_eq_true rfl⟩ ⟨(by have hc1 : rm_X6_occurs.cells = 41 := rfl; omega), (by have hc1 : rm_X6_occurs.slots = 135 := rfl; omega)⟩ ⟨(by have hc1 : rm_X6_occurs.cells = 41 := rfl; omega), (by have hc1 : rm_X6_occurs.slots = 135 := rfl; omega)⟩ hl.1 (Nat.le_of_ble_eq_true rfl) dX6_occurs_71 (fun r26 w27 H locs hH hv28 => ?_)
      refine lv_aload hx hb dX6_occurs_74 (lv_at hl 1 rfl) ?_
      refine cl_X6_168 hC hD hH hv28.2 hv28.1 ⟨Nat.le_of_ble_eq_true rfl, Nat.le_of_ble_eq_true rfl⟩ ⟨(by have hc1 : rm_X6_occurs.cells = 41 := rfl; omega), (by have hc1 : rm_X6_occurs.slots = 135 := rfl; omega)⟩ ⟨(by have hc1 : rm_X6_occurs.cells = 41 := rfl; omega), (by have hc1 : rm_X6_occurs.slots = 135 := rfl; omega)⟩ hl.1 (Nat.le_of_ble_eq_true rfl) dX6_occurs_76 (fun r29 w30 H locs hH hv31 => ?_)
      refine lv_icmp_ne (tgt := 85) hx hb dX6_occurs_79 (by decide) (fun hc => ?_) (fun hc => ?_)
      · have hv32 := hv31.1 hc
        refine lv_iinc (v := (v8 + 1)) (lv' := [(8, .int (v8 + 1)), (5, .ref f5), (6, .ref f6), (7, .int v7)]) hx hb dX6_occurs_85 hl (k := 3) rfl rfl (by decide) rfl (fun ls hl => ?_)
        refine lv_goto (tgt := 34) hx hb dX6_occurs_88 (by decide) ?_
        refine W.widen (k := cells + 1) (n := slots + 3) (by omega) (by omega) ?_
        exact ih v7 (v8 + 1) w30 _ _ _ _ _ (by omega) (by omega) (lv_sub hl [1, 2, 3, 0] rfl) hH hv32
      · have hv33 := hv31.2 hc
        refine lv_iinc (v := (v7 + 1)) (lv' := [(7, .int (v7 + 1)), (5, .ref f5), (6, .ref f6), (8, .int v8)]) hx hb dX6_occurs_82 hl (k := 2) rfl rfl (by decide) rfl (fun ls hl => ?_)
        refine lv_iinc (v := (v8 + 1)) (lv' := [(8, .int (v8 + 1)), (7, .int (v7 + 1)), (5, .ref f5), (6, .ref f6)]) hx hb dX6_occurs_85 hl (k := 3) rfl rfl (by decide) rfl (fun ls hl => ?_)
        refine lv_goto (tgt := 34) hx hb dX6_occurs_88 (by decide) ?_
        refine W.widen (k := cells + 1) (n := slots + 3) (by omega) (by omega) ?_
        exact ih (v7 + 1) (v8 + 1) w30 _ _ _ _ _ (by omega) (by omega) (lv_sub hl [2, 3, 1, 0] rfl) hH hv33
set_option maxHeartbeats 4000000 in
set_option maxRecDepth 100000 in
theorem wk_X6_occurs (G : sj_G) (l : Launch) (hlt : l.stackTraces = false) (self : Nat) (a1 : Int32) (a2 : Int32) (a3 : Int32) (w : sj_W) (Q : Int32 → sj_W → Prop) (QX : String → sj_W → Prop) (hv : vc_X6_occurs self a1 a2 a3 w Q QX) : sj_MI G l yX6_occurs (sj_ws yX6_occurs cX6_occurs 9 (some .int)) rm_X6_occurs [.ref self, .int a1, .int a2, .int a3] w Q QX := by
  refine sj_of (by decide +kernel) (Nat.le_of_ble_eq_true rfl) hlt ?_
  intro p e s m args below meth c ls hC hD hr hin hH hl
  have hx := hC.1
  have hb := hC.2.1
  have hl : lv_has ls 9 [(0, .ref self), (1, .int a1), (2, .int a2), (3, .int a3)] := hl
  refine lv_iload_n hx hb dX6_occurs_0 rfl (lv_at hl 1 rfl) ?_
  refine cl_X6_34 hC hD hH hv ⟨Nat.le_of_ble_eq_true rfl, Nat.le_of_ble_eq_true rfl⟩ ⟨(Nat.le_of_ble_eq_true rfl), (Nat.le_of_ble_eq_true rfl)⟩ ⟨(Nat.le_of_ble_eq_true rfl), (Nat.le_of_ble_eq_true rfl)⟩ hl.1 (Nat.le_of_ble_eq_true rfl) dX6_occurs_1 (fun r1 w2 H locs hH hv3 => ?_)
  refine lv_istore (lv' := [(4, .int r1), (0, .ref self), (1, .int a1), (2, .int a2), (3, .int a3)]) hx hb dX6_occurs_4 hl (by decide) rfl (fun ls hl => ?_)
  refine lv_aload_n hx hb dX6_occurs_6 rfl (lv_at hl 1 rfl) ?_
  refine lv_iload hx hb dX6_occurs_7 (lv_at hl 0 rfl) ?_
  refine lv_iload_n hx hb dX6_occurs_9 rfl (lv_at hl 3 rfl) ?_
  refine cl_X6_42 hC hD hH hv3.2 hv3.1 ⟨Nat.le_of_ble_eq_true rfl, Nat.le_of_ble_eq_true rfl⟩ ⟨(Nat.le_of_ble_eq_true rfl), (Nat.le_of_ble_eq_true rfl)⟩ ⟨(Nat.le_of_ble_eq_true rfl), (Nat.le_of_ble_eq_true rfl)⟩ hl.1 (Nat.le_of_ble_eq_true rfl) dX6_occurs_10 (fun r4 w5 H locs hH hv6 => ?_)
  refine lv_astore (lv' := [(5, .ref r4), (4, .int r1), (0, .ref self), (1, .int a1), (2, .int a2), (3, .int a3)]) hx hb dX6_occurs_13 hl (by decide) rfl (fun ls hl => ?_)
  refine lv_aload_n hx hb dX6_occurs_15 rfl (lv_at hl 2 rfl) ?_
  refine lv_iload hx hb dX6_occurs_16 (lv_at hl 1 rfl) ?_
  refine lv_aload_n hx hb dX6_occurs_18 rfl (lv_at hl 2 rfl) ?_
  refine lv_iload_n hx hb dX6_occurs_19 rfl (lv_at hl 5 rfl) ?_
  refine cl_X6_89 hC hD hH hv6.2 hv6.1 ⟨Nat.le_of_ble_eq_true rfl, Nat.le_of_ble_eq_true rfl⟩ ⟨(Nat.le_of_ble_eq_true rfl), (Nat.le_of_ble_eq_true rfl)⟩ ⟨(Nat.le_of_ble_eq_true rfl), (Nat.le_of_ble_eq_true rfl)⟩ hl.1 (Nat.le_of_ble_eq_true rfl) dX6_occurs_20 (fun r7 w8 H locs hH hv9 => ?_)
  refine cl_X6_116 hC hD hH hv9.2 hv9.1 ⟨Nat.le_of_ble_eq_true rfl, Nat.le_of_ble_eq_true rfl⟩ ⟨(Nat.le_of_ble_eq_true rfl), (Nat.le_of_ble_eq_true rfl)⟩ ⟨(Nat.le_of_ble_eq_true rfl), (Nat.le_of_ble_eq_true rfl)⟩ hl.1 (Nat.le_of_ble_eq_true rfl) dX6_occurs_23 (fun r10 w11 H locs hH hv12 => ?_)
  refine lv_astore (lv' := [(6, .ref r10), (5, .ref r4), (4, .int r1), (0, .ref self), (1, .int a1), (2, .int a2), (3, .int a3)]) hx hb dX6_occurs_26 hl (by decide) rfl (fun ls hl => ?_)
  refine lv_iconst (v := 0) hx hb dX6_occurs_28 (by decide) ?_
  refine lv_istore (lv' := [(7, .int 0), (6, .ref r10), (5, .ref r4), (4, .int r1), (0, .ref self), (1, .int a1), (2, .int a2), (3, .int a3)]) hx hb dX6_occurs_29 hl (by decide) rfl (fun ls hl => ?_)
  refine lv_iconst (v := 0) hx hb dX6_occurs_31 (by decide) ?_
  refine lv_istore (lv' := [(8, .int 0), (7, .int 0), (6, .ref r10), (5, .ref r4), (4, .int r1), (0, .ref self), (1, .int a1), (2, .int a2), (3, .int a3)]) hx hb dX6_occurs_32 hl (by decide) rfl (fun ls hl => ?_)
  refine wl_X6_occurs_34 hC hD hr hin (fun z7_34 w_34 H locs ls hl hH hv34 => ?_) 36 0 0 w11 _ _ _ 4 24 (Nat.le_of_ble_eq_true rfl) (Nat.le_of_ble_eq_true rfl) (lv_sub hl [3, 2, 1, 0] rfl) hH hv12
  refine lv_iload hx hb dX6_occurs_91 (lv_at hl 0 rfl) ?_
  exact sj_retI hC hD.2 hH hr rfl hv34 ⟨(Nat.le_of_ble_eq_true rfl), (Nat.le_of_ble_eq_true rfl)⟩ dX6_occurs_93
section SJL_X6_occurs
variable {p : Program} {l : Launch} {e : Env} {R : Room} {s : State} {m : MethodId} {args : Array Value} {below : List Frame} {meth : Method} {c : Code} {H : Heap} {locs : List Loc} {cells slots : Nat} {Q : State → Prop} {cc : ByteArray} {pc : Nat} {ls : Array Slot} {rest : List Value} {G : sj_G} {nL : Nat} {w : sj_W}
theorem cx_L_96 {QX : String → sj_W → Prop} {b : Nat} {b0 : Int32} {b1 : Int32} {b2 : Int32} {Qi : Int32 → sj_W → Prop} (hC : sj_C G p l s m args c cc RL nL) (hH : sj_H G s w H locs) (hv : vc_X6_occurs b b0 b1 b2 w Qi QX) (hT : sj_T w b = 5) (hR : rm_X6_occurs.frames + 1 ≤ R.frames ∧ 8 + (9 + 11) + rm_X6_occurs.locals ≤ R.locals) (hf : cells + 41 ≤ R.cells ∧ slots + 135 ≤ R.slots) (hls : ls.size = nL) (hW : (rest.map fun v => v.category).sum ≤ 8) (hdg : decode cc pc = .ok (.invokevirtual 96, 3)) (kx : ∀ (E : String) (ce : Cell) (q9 : Addr) (w1 : sj_W) (H1 : Heap) (locs1 : List Loc), sj_H G s w1 H1 locs1 → QX E w1 → H1[q9]? = some ce → ce.vm = .none → s.vm.findClass E = some ce.cls → vx_W p l e R s m args below meth c H1 locs1 (cells + 41) (slots + 135) Q (F0 m pc ls rest) q9) (kk : ∀ (r : Int32) (w1 : sj_W) (H : Heap) (locs : List Loc), sj_H G s w1 H locs → Qi r w1 → W p l e R s m args below meth c H locs (cells + 41) (slots + 135) Q (F0 m (pc + 3) ls (.int r :: rest))) : W p l e R s m args below meth c H locs cells slots Q (F0 m pc ls (.int b2 :: .int b1 :: .int b0 :: .ref b :: rest)) :=
  sj_xI hH (sj_runV (n := 3) hC hH (As := [.int b0, .int b1, .int b2]) (wk_X6_occurs G l hC.2.2.2.2.2.2 b b0 b1 b2 w Qi QX hv) (ci := 4) rfl (by decide) hT mb_526 mb_527 mb_528 mb_1 mb_529 (by decide +kernel) hR hf rfl hls hW hdg) kx kk
end SJL_X6_occurs
abbrev rm_X6_period : Room := { frames := 8, cells := 2, slots := 12, locals := 124 }
def vb_X6_period_13 (f3 : Nat) (Q : Int32 → sj_W → Prop) (QX : String → sj_W → Prop) (E : sj_W → Prop) (K : Int32 → sj_W → Prop) (v4 : Int32) (w : sj_W) : Prop := sj_T w f3 = 2 ∧ (((sj_I w 9 f3) ≤ v4 → E w) ∧ (¬ (sj_I w 9 f3) ≤ v4 → sj_T w f3 = 2 ∧ vc_X1_hasPeriod f3 v4 w (fun r9 w10 => ((r9 = 0 → K (v4 + 1) w10) ∧ (¬ r9 = 0 → Q v4 w10)))))
def vc_X6_period (self : Nat) (a1 : Int32) (a2 : Int32) (w : sj_W) (Q : Int32 → sj_W → Prop) (QX : String → sj_W → Prop) : Prop := vc_X6_kindOf a1 w (fun r1 w2 => sj_T w2 self = 5 ∧ vc_X6_rowOf self r1 a2 w2 (fun r4 w5 => sj_lp1 (vb_X6_period_13 r4 Q QX (fun w_13 => sj_T w_13 r4 = 2 ∧ Q (sj_I w_13 9 r4) w_13)) 64 1 w5) QX) QX
set_option maxHeartbeats 4000000 in
set_option maxRecDepth 100000 in
theorem wl_X6_period_13 {p : Program} {l : Launch} {e : Env} {s : State} {m : MethodId} {args : Array Value} {below : List Frame} {meth : Method} {c : Code} {G : sj_G} {f3 : Nat} {Q : Int32 → sj_W → Prop} {QX : String → sj_W → Prop} {E : sj_W → Prop} (hC : sj_C G p l s m args c cX6_period RX6 5) (hD : sj_D meth c) (hr : meth.sig.returnType = (some .int)) (hin : meth.name = "period") (hE : ∀ (w : sj_W) (H : Heap) (locs : List Loc) (ls : Array Slot), lv_has ls 5 [(3, .ref f3)] → sj_H G s w H locs → E w → W p l e rm_X6_period s m args below meth c H locs 2 12 (sj_MQ G below (va_Qi Q (sj_B G) (sj_F G)) QX args s rm_X6_period) (F0 m 40 ls [])) : ∀ (n : Nat) (v4 : Int32) (w : sj_W) (H : Heap) (locs : List Loc) (ls : Array Slot), lv_has ls 5 [(3, .ref f3), (4, .int v4)] → sj_H G s w H locs → sj_lp1 (vb_X6_period_13 f3 Q QX E) n v4 w → W p l e rm_X6_period s m args below meth c H locs 2 12 (sj_MQ G below (va_Qi Q (sj_B G) (sj_F G)) QX args s rm_X6_period) (F0 m 13 ls []) := by
  have hx := hC.1
  have hb := hC.2.1
  intro n
  induction n with
  | zero =>
    intro v4 w H locs ls _ _ hv
    exact hv.elim
  | succ n ih =>
    intro v4 w H locs ls hl hH hv
    have hv : vb_X6_period_13 f3 Q QX E (sj_lp1 (vb_X6_period_13 f3 Q QX E) n) v4 w := hv
    have hc1 : rm_X6_period.cells = 2 := rfl
    have hc2 : rm_X6_period.slots = 12 := rfl
    refine lv_iload hx hb dX6_period_13 (lv_at hl 1 rfl) ?_
    refine lv_aload_n hx hb dX6_period_15 rfl (lv_at hl 0 rfl) ?_
    refine gf_X6_46 hC hH hv.1 dX6_period_16 ?_
    refine lv_icmp_ge (tgt := 40) hx hb dX6_period_19 (by decide) (fun hc => ?_) (fun hc => ?_)
    · have hv7 := hv.2.1 hc
      exact hE  w _ _ _ (lv_sub hl [0] rfl) hH hv7
    · have hv8 := hv.2.2 hc
      refine lv_aload_n hx hb dX6_period_22 rfl (lv_at hl 0 rfl) ?_
      refine lv_iload hx hb dX6_period_23 (lv_at hl 1 rfl) ?_
      refine cl_X6_172 hC hD hH hv8.2 hv8.1 ⟨Nat.le_of_ble_eq_true rfl, Nat.le_of_ble_eq_true rfl⟩ ⟨(Nat.le_of_ble_eq_true rfl), (Nat.le_of_ble_eq_true rfl)⟩ ⟨(Nat.le_of_ble_eq_true rfl), (Nat.le_of_ble_eq_true rfl)⟩ hl.1 (Nat.le_of_ble_eq_true rfl) dX6_period_25 (fun r9 w10 H locs hH hv11 => ?_)
      refine lv_if_eq (tgt := 34) hx hb dX6_period_28 (by decide) (fun hc => ?_) (fun hc => ?_)
      · have hv12 := hv11.1 hc
        refine lv_iinc (v := (v4 + 1)) (lv' := [(4, .int (v4 + 1)), (3, .ref f3)]) hx hb dX6_period_34 hl (k := 1) rfl rfl (by decide) rfl (fun ls hl => ?_)
        refine lv_goto (tgt := 13) hx hb dX6_period_37 (by decide) ?_
        exact ih (v4 + 1) w10 _ _ _ (lv_sub hl [1, 0] rfl) hH hv12
      · have hv13 := hv11.2 hc
        refine lv_iload hx hb dX6_period_31 (lv_at hl 1 rfl) ?_
        exact sj_retI hC hD.2 hH hr rfl hv13 ⟨(Nat.le_of_ble_eq_true rfl), (Nat.le_of_ble_eq_true rfl)⟩ dX6_period_33
set_option maxHeartbeats 4000000 in
set_option maxRecDepth 100000 in
theorem wk_X6_period (G : sj_G) (l : Launch) (hlt : l.stackTraces = false) (self : Nat) (a1 : Int32) (a2 : Int32) (w : sj_W) (Q : Int32 → sj_W → Prop) (QX : String → sj_W → Prop) (hv : vc_X6_period self a1 a2 w Q QX) : sj_MI G l yX6_period (sj_ws yX6_period cX6_period 5 (some .int)) rm_X6_period [.ref self, .int a1, .int a2] w Q QX := by
  refine sj_of (by decide +kernel) (Nat.le_of_ble_eq_true rfl) hlt ?_
  intro p e s m args below meth c ls hC hD hr hin hH hl
  have hx := hC.1
  have hb := hC.2.1
  have hl : lv_has ls 5 [(0, .ref self), (1, .int a1), (2, .int a2)] := hl
  refine lv_aload_n hx hb dX6_period_0 rfl (lv_at hl 0 rfl) ?_
  refine lv_iload_n hx hb dX6_period_1 rfl (lv_at hl 1 rfl) ?_
  refine cl_X6_34 hC hD hH hv ⟨Nat.le_of_ble_eq_true rfl, Nat.le_of_ble_eq_true rfl⟩ ⟨(Nat.le_of_ble_eq_true rfl), (Nat.le_of_ble_eq_true rfl)⟩ ⟨(Nat.le_of_ble_eq_true rfl), (Nat.le_of_ble_eq_true rfl)⟩ hl.1 (Nat.le_of_ble_eq_true rfl) dX6_period_2 (fun r1 w2 H locs hH hv3 => ?_)
  refine lv_iload_n hx hb dX6_period_5 rfl (lv_at hl 2 rfl) ?_
  refine cl_X6_42 hC hD hH hv3.2 hv3.1 ⟨Nat.le_of_ble_eq_true rfl, Nat.le_of_ble_eq_true rfl⟩ ⟨(Nat.le_of_ble_eq_true rfl), (Nat.le_of_ble_eq_true rfl)⟩ ⟨(Nat.le_of_ble_eq_true rfl), (Nat.le_of_ble_eq_true rfl)⟩ hl.1 (Nat.le_of_ble_eq_true rfl) dX6_period_6 (fun r4 w5 H locs hH hv6 => ?_)
  refine lv_astore_n (lv' := [(3, .ref r4), (0, .ref self), (1, .int a1), (2, .int a2)]) hx hb dX6_period_9 rfl hl (by decide) rfl (fun ls hl => ?_)
  refine lv_iconst (v := 1) hx hb dX6_period_10 (by decide) ?_
  refine lv_istore (lv' := [(4, .int 1), (3, .ref r4), (0, .ref self), (1, .int a1), (2, .int a2)]) hx hb dX6_period_11 hl (by decide) rfl (fun ls hl => ?_)
  refine wl_X6_period_13 hC hD hr hin (fun w_13 H locs ls hl hH hv14 => ?_) 64 1 w5 _ _ _ (lv_sub hl [1, 0] rfl) hH hv6
  refine lv_aload_n hx hb dX6_period_40 rfl (lv_at hl 0 rfl) ?_
  refine gf_X6_46 hC hH hv14.1 dX6_period_41 ?_
  exact sj_retI hC hD.2 hH hr rfl hv14.2 ⟨(Nat.le_of_ble_eq_true rfl), (Nat.le_of_ble_eq_true rfl)⟩ dX6_period_44
section SJL_X6_period
variable {p : Program} {l : Launch} {e : Env} {R : Room} {s : State} {m : MethodId} {args : Array Value} {below : List Frame} {meth : Method} {c : Code} {H : Heap} {locs : List Loc} {cells slots : Nat} {Q : State → Prop} {cc : ByteArray} {pc : Nat} {ls : Array Slot} {rest : List Value} {G : sj_G} {nL : Nat} {w : sj_W}
theorem cx_L_103 {QX : String → sj_W → Prop} {b : Nat} {b0 : Int32} {b1 : Int32} {Qi : Int32 → sj_W → Prop} (hC : sj_C G p l s m args c cc RL nL) (hH : sj_H G s w H locs) (hv : vc_X6_period b b0 b1 w Qi QX) (hT : sj_T w b = 5) (hR : rm_X6_period.frames + 1 ≤ R.frames ∧ 8 + (5 + 11) + rm_X6_period.locals ≤ R.locals) (hf : cells + 2 ≤ R.cells ∧ slots + 12 ≤ R.slots) (hls : ls.size = nL) (hW : (rest.map fun v => v.category).sum ≤ 8) (hdg : decode cc pc = .ok (.invokevirtual 103, 3)) (kx : ∀ (E : String) (ce : Cell) (q9 : Addr) (w1 : sj_W) (H1 : Heap) (locs1 : List Loc), sj_H G s w1 H1 locs1 → QX E w1 → H1[q9]? = some ce → ce.vm = .none → s.vm.findClass E = some ce.cls → vx_W p l e R s m args below meth c H1 locs1 (cells + 2) (slots + 12) Q (F0 m pc ls rest) q9) (kk : ∀ (r : Int32) (w1 : sj_W) (H : Heap) (locs : List Loc), sj_H G s w1 H locs → Qi r w1 → W p l e R s m args below meth c H locs (cells + 2) (slots + 12) Q (F0 m (pc + 3) ls (.int r :: rest))) : W p l e R s m args below meth c H locs cells slots Q (F0 m pc ls (.int b1 :: .int b0 :: .ref b :: rest)) :=
  sj_xI hH (sj_runV (n := 2) hC hH (As := [.int b0, .int b1]) (wk_X6_period G l hC.2.2.2.2.2.2 b b0 b1 w Qi QX hv) (ci := 4) rfl (by decide) hT mb_545 mb_546 mb_547 mb_1 mb_548 (by decide +kernel) hR hf rfl hls hW hdg) kx kk
end SJL_X6_period
abbrev rm_X6_rank : Room := { frames := 7, cells := 19, slots := 69, locals := 104 }
def vb_X6_rank_42 (f0 : Nat) (f4 : Int32) (f5 : Int32) (f6 : Nat) (f8 : Nat) (f9 : Int32) (Q : Int32 → sj_W → Prop) (QX : String → sj_W → Prop) (E : Int32 → sj_W → Prop) (K : Int32 → Int32 → sj_W → Prop) (v7 : Int32) (v10 : Int32) (w : sj_W) : Prop := ((f9 ≤ v10 → E v7 w) ∧ (¬ f9 ≤ v10 → (sj_T w f8 = 10 ∨ sj_T w f8 = 11 ∨ sj_T w f8 = 12) ∧ vp_in v10 (sj_N w f8) ∧ (sj_r w f8 v10.toNatClampNeg) ≠ 0 ∧ sj_T w f0 = 5 ∧ vc_X6_isFitting f0 f4 (sj_r w f8 v10.toNatClampNeg) w (fun r15 w16 => ((r15 = 0 → K v7 (v10 + 1) w16) ∧ (¬ r15 = 0 → sj_T w16 f0 = 5 ∧ vc_X6_wordOf f0 f4 (sj_r w f8 v10.toNatClampNeg) w16 (fun r20 w21 => vc_X6_compareWords r20 f6 f5 w21 (fun r23 w24 => ((0 ≤ r23 → K v7 (v10 + 1) w24) ∧ (¬ 0 ≤ r23 → K (v7 + 1) (v10 + 1) w24)))))))))
def vc_X6_rank (self : Nat) (a1 : Int32) (a2 : Int32) (a3 : Int32) (w : sj_W) (Q : Int32 → sj_W → Prop) (QX : String → sj_W → Prop) : Prop := vc_X6_kindOf a1 w (fun r1 w2 => vc_X6_isUnsigned a2 w2 (fun r4 w5 => sj_T w5 self = 5 ∧ vc_X6_spanOf self a3 w5 (fun r7 w8 => sj_T w8 self = 5 ∧ vc_X6_fittingWord self r1 r7 w8 (fun r10 w11 => sj_T w11 self = 5 ∧ sj_A w11 33 self ≠ 0 ∧ (7 ≤ sj_T w11 (sj_A w11 33 self) ∧ sj_T w11 (sj_A w11 33 self) ≤ 13) ∧ sj_lp2 (vb_X6_rank_42 self r1 r4 r10 (sj_A w11 33 self) (nI (sj_N w11 (sj_A w11 33 self))) Q QX (fun z7_42 w_42 => Q z7_42 w_42)) 14 0 0 w11) QX) QX) QX) QX
set_option maxHeartbeats 4000000 in
set_option maxRecDepth 100000 in
theorem wl_X6_rank_42 {p : Program} {l : Launch} {e : Env} {s : State} {m : MethodId} {args : Array Value} {below : List Frame} {meth : Method} {c : Code} {G : sj_G} {f0 : Nat} {f4 : Int32} {f5 : Int32} {f6 : Nat} {f8 : Nat} {f9 : Int32} {Q : Int32 → sj_W → Prop} {QX : String → sj_W → Prop} {E : Int32 → sj_W → Prop} (hC : sj_C G p l s m args c cX6_rank RX6 12) (hD : sj_D meth c) (hr : meth.sig.returnType = (some .int)) (hin : meth.name = "rank") (hE : ∀ (v7 : Int32) (w : sj_W) (H : Heap) (locs : List Loc) (ls : Array Slot), lv_has ls 12 [(7, .int v7)] → sj_H G s w H locs → E v7 w → W p l e rm_X6_rank s m args below meth c H locs 18 66 (sj_MQ G below (va_Qi Q (sj_B G) (sj_F G)) QX args s rm_X6_rank) (F0 m 94 ls [])) : ∀ (n : Nat) (v7 : Int32) (v10 : Int32) (w : sj_W) (H : Heap) (locs : List Loc) (ls : Array Slot) (cells slots : Nat), cells + n * 1 ≤ 18 → slots + n * 3 ≤ 66 → lv_has ls 12 [(0, .ref f0), (4, .int f4), (5, .int f5), (6, .ref f6), (7, .int v7), (8, .ref f8), (9, .int f9), (10, .int v10)] → sj_H G s w H locs → sj_lp2 (vb_X6_rank_42 f0 f4 f5 f6 f8 f9 Q QX E) n v7 v10 w → W p l e rm_X6_rank s m args below meth c H locs cells slots (sj_MQ G below (va_Qi Q (sj_B G) (sj_F G)) QX args s rm_X6_rank) (F0 m 42 ls []) := by
  have hx := hC.1
  have hb := hC.2.1
  intro n
  induction n with
  | zero =>
    intro v7 v10 w H locs ls cells slots _ _ _ _ hv
    exact hv.elim
  | succ n ih =>
    intro v7 v10 w H locs ls cells slots hcc hcs hl hH hv
    have hv : vb_X6_rank_42 f0 f4 f5 f6 f8 f9 Q QX E (sj_lp2 (vb_X6_rank_42 f0 f4 f5 f6 f8 f9 Q QX E) n) v7 v10 w := hv
    have hc1 : rm_X6_rank.cells = 19 := rfl
    have hc2 : rm_X6_rank.slots = 69 := rfl
    refine lv_iload hx hb dX6_rank_42 (lv_at hl 7 rfl) ?_
    refine lv_iload hx hb dX6_rank_44 (lv_at hl 6 rfl) ?_
    refine lv_icmp_ge (tgt := 94) hx hb dX6_rank_46 (by decide) (fun hc => ?_) (fun hc => ?_)
    · have hv13 := hv.1 hc
      refine W.widen (k := 18) (n := 66) (by omega) (by omega) ?_
      exact hE v7 w _ _ _ (lv_sub hl [4] rfl) hH hv13
    · have hv14 := hv.2 hc
      refine lv_aload hx hb dX6_rank_49 (lv_at hl 5 rfl) ?_
      refine lv_iload hx hb dX6_rank_51 (lv_at hl 7 rfl) ?_
      refine sj_aald hC hH hv14.1 hv14.2.1 hv14.2.2.1 dX6_rank_53 ?_
      refine lv_astore (lv' := [(11, .ref (sj_r w f8 v10.toNatClampNeg)), (0, .ref f0), (4, .int f4), (5, .int f5), (6, .ref f6), (7, .int v7), (8, .ref f8), (9, .int f9), (10, .int v10)]) hx hb dX6_rank_54 hl (by decide) rfl (fun ls hl => ?_)
      refine lv_aload_n hx hb dX6_rank_56 rfl (lv_at hl 1 rfl) ?_
      refine lv_iload hx hb dX6_rank_57 (lv_at hl 2 rfl) ?_
      refine lv_aload hx hb dX6_rank_59 (lv_at hl 0 rfl) ?_
      refine cl_X6_108 hC hD hH hv14.2.2.2.2 hv14.2.2.2.1 ⟨Nat.le_of_ble_eq_true rfl, Nat.le_of_ble_eq_true rfl⟩ ⟨(by have hc1 : rm_X6_rank.cells = 19 := rfl; omega), (by have hc1 : rm_X6_rank.slots = 69 := rfl; omega)⟩ ⟨(by have hc1 : rm_X6_rank.cells = 19 := rfl; omega), (by have hc1 : rm_X6_rank.slots = 69 := rfl; omega)⟩ hl.1 (Nat.le_of_ble_eq_true rfl) dX6_rank_61 (fun r15 w16 H locs hH hv17 => ?_)
      refine lv_if_eq (tgt := 88) hx hb dX6_rank_64 (by decide) (fun hc => ?_) (fun hc => ?_)
      · have hv18 := hv17.1 hc
        refine lv_iinc (v := (v10 + 1)) (lv' := [(10, .int (v10 + 1)), (11, .ref (sj_r w f8 v10.toNatClampNeg)), (0, .ref f0), (4, .int f4), (5, .int f5), (6, .ref f6), (7, .int v7), (8, .ref f8), (9, .int f9)]) hx hb dX6_rank_88 hl (k := 8) rfl rfl (by decide) rfl (fun ls hl => ?_)
        refine lv_goto (tgt := 42) hx hb dX6_rank_91 (by decide) ?_
        refine W.widen (k := cells + 1) (n := slots + 3) (by omega) (by omega) ?_
        exact ih v7 (v10 + 1) w16 _ _ _ _ _ (by omega) (by omega) (lv_sub hl [2, 3, 4, 5, 6, 7, 8, 0] rfl) hH hv18
      · have hv19 := hv17.2 hc
        refine lv_aload_n hx hb dX6_rank_67 rfl (lv_at hl 1 rfl) ?_
        refine lv_iload hx hb dX6_rank_68 (lv_at hl 2 rfl) ?_
        refine lv_aload hx hb dX6_rank_70 (lv_at hl 0 rfl) ?_
        refine cl_X6_137 hC hD hH hv19.2 hv19.1 ⟨Nat.le_of_ble_eq_true rfl, Nat.le_of_ble_eq_true rfl⟩ ⟨(by have hc1 : rm_X6_rank.cells = 19 := rfl; omega), (by have hc1 : rm_X6_rank.slots = 69 := rfl; omega)⟩ ⟨(by have hc1 : rm_X6_rank.cells = 19 := rfl; omega), (by have hc1 : rm_X6_rank.slots = 69 := rfl; omega)⟩ hl.1 (Nat.le_of_ble_eq_true rfl) dX6_rank_72 (fun r20 w21 H locs hH hv22 => ?_)
        refine lv_aload hx hb dX6_rank_75 (lv_at hl 4 rfl) ?_
        refine lv_iload hx hb dX6_rank_77 (lv_at hl 3 rfl) ?_
        refine cl_X6_140 hC hD hH hv22 ⟨Nat.le_of_ble_eq_true rfl, Nat.le_of_ble_eq_true rfl⟩ ⟨(by have hc1 : rm_X6_rank.cells = 19 := rfl; omega), (by have hc1 : rm_X6_rank.slots = 69 := rfl; omega)⟩ ⟨(by have hc1 : rm_X6_rank.cells = 19 := rfl; omega), (by have hc1 : rm_X6_rank.slots = 69 := rfl; omega)⟩ hl.1 (Nat.le_of_ble_eq_true rfl) dX6_rank_79 (fun r23 w24 H locs hH hv25 => ?_)
        refine lv_if_ge (tgt := 88) hx hb dX6_rank_82 (by decide) (fun hc => ?_) (fun hc => ?_)
        · have hv26 := hv25.1 hc
          refine lv_iinc (v := (v10 + 1)) (lv' := [(10, .int (v10 + 1)), (11, .ref (sj_r w f8 v10.toNatClampNeg)), (0, .ref f0), (4, .int f4), (5, .int f5), (6, .ref f6), (7, .int v7), (8, .ref f8), (9, .int f9)]) hx hb dX6_rank_88 hl (k := 8) rfl rfl (by decide) rfl (fun ls hl => ?_)
          refine lv_goto (tgt := 42) hx hb dX6_rank_91 (by decide) ?_
          refine W.widen (k := cells + 1) (n := slots + 3) (by omega) (by omega) ?_
          exact ih v7 (v10 + 1) w24 _ _ _ _ _ (by omega) (by omega) (lv_sub hl [2, 3, 4, 5, 6, 7, 8, 0] rfl) hH hv26
        · have hv27 := hv25.2 hc
          refine lv_iinc (v := (v7 + 1)) (lv' := [(7, .int (v7 + 1)), (11, .ref (sj_r w f8 v10.toNatClampNeg)), (0, .ref f0), (4, .int f4), (5, .int f5), (6, .ref f6), (8, .ref f8), (9, .int f9), (10, .int v10)]) hx hb dX6_rank_85 hl (k := 5) rfl rfl (by decide) rfl (fun ls hl => ?_)
          refine lv_iinc (v := (v10 + 1)) (lv' := [(10, .int (v10 + 1)), (7, .int (v7 + 1)), (11, .ref (sj_r w f8 v10.toNatClampNeg)), (0, .ref f0), (4, .int f4), (5, .int f5), (6, .ref f6), (8, .ref f8), (9, .int f9)]) hx hb dX6_rank_88 hl (k := 8) rfl rfl (by decide) rfl (fun ls hl => ?_)
          refine lv_goto (tgt := 42) hx hb dX6_rank_91 (by decide) ?_
          refine W.widen (k := cells + 1) (n := slots + 3) (by omega) (by omega) ?_
          exact ih (v7 + 1) (v10 + 1) w24 _ _ _ _ _ (by omega) (by omega) (lv_sub hl [3, 4, 5, 6, 1, 7, 8, 0] rfl) hH hv27
set_option maxHeartbeats 4000000 in
set_option maxRecDepth 100000 in
theorem wk_X6_rank (G : sj_G) (l : Launch) (hlt : l.stackTraces = false) (self : Nat) (a1 : Int32) (a2 : Int32) (a3 : Int32) (w : sj_W) (Q : Int32 → sj_W → Prop) (QX : String → sj_W → Prop) (hv : vc_X6_rank self a1 a2 a3 w Q QX) : sj_MI G l yX6_rank (sj_ws yX6_rank cX6_rank 12 (some .int)) rm_X6_rank [.ref self, .int a1, .int a2, .int a3] w Q QX := by
  refine sj_of (by decide +kernel) (Nat.le_of_ble_eq_true rfl) hlt ?_
  intro p e s m args below meth c ls hC hD hr hin hH hl
  have hx := hC.1
  have hb := hC.2.1
  have hl : lv_has ls 12 [(0, .ref self), (1, .int a1), (2, .int a2), (3, .int a3)] := hl
  refine lv_iload_n hx hb dX6_rank_0 rfl (lv_at hl 1 rfl) ?_
  refine cl_X6_34 hC hD hH hv ⟨Nat.le_of_ble_eq_true rfl, Nat.le_of_ble_eq_true rfl⟩ ⟨(Nat.le_of_ble_eq_true rfl), (Nat.le_of_ble_eq_true rfl)⟩ ⟨(Nat.le_of_ble_eq_true rfl), (Nat.le_of_ble_eq_true rfl)⟩ hl.1 (Nat.le_of_ble_eq_true rfl) dX6_rank_1 (fun r1 w2 H locs hH hv3 => ?_)
  refine lv_istore (lv' := [(4, .int r1), (0, .ref self), (1, .int a1), (2, .int a2), (3, .int a3)]) hx hb dX6_rank_4 hl (by decide) rfl (fun ls hl => ?_)
  refine lv_iload_n hx hb dX6_rank_6 rfl (lv_at hl 3 rfl) ?_
  refine cl_X6_133 hC hD hH hv3 ⟨Nat.le_of_ble_eq_true rfl, Nat.le_of_ble_eq_true rfl⟩ ⟨(Nat.le_of_ble_eq_true rfl), (Nat.le_of_ble_eq_true rfl)⟩ ⟨(Nat.le_of_ble_eq_true rfl), (Nat.le_of_ble_eq_true rfl)⟩ hl.1 (Nat.le_of_ble_eq_true rfl) dX6_rank_7 (fun r4 w5 H locs hH hv6 => ?_)
  refine lv_istore (lv' := [(5, .int r4), (4, .int r1), (0, .ref self), (1, .int a1), (2, .int a2), (3, .int a3)]) hx hb dX6_rank_10 hl (by decide) rfl (fun ls hl => ?_)
  refine lv_aload_n hx hb dX6_rank_12 rfl (lv_at hl 2 rfl) ?_
  refine lv_iload hx hb dX6_rank_13 (lv_at hl 1 rfl) ?_
  refine lv_aload_n hx hb dX6_rank_15 rfl (lv_at hl 2 rfl) ?_
  refine lv_iload_n hx hb dX6_rank_16 rfl (lv_at hl 5 rfl) ?_
  refine cl_X6_89 hC hD hH hv6.2 hv6.1 ⟨Nat.le_of_ble_eq_true rfl, Nat.le_of_ble_eq_true rfl⟩ ⟨(Nat.le_of_ble_eq_true rfl), (Nat.le_of_ble_eq_true rfl)⟩ ⟨(Nat.le_of_ble_eq_true rfl), (Nat.le_of_ble_eq_true rfl)⟩ hl.1 (Nat.le_of_ble_eq_true rfl) dX6_rank_17 (fun r7 w8 H locs hH hv9 => ?_)
  refine cl_X6_116 hC hD hH hv9.2 hv9.1 ⟨Nat.le_of_ble_eq_true rfl, Nat.le_of_ble_eq_true rfl⟩ ⟨(Nat.le_of_ble_eq_true rfl), (Nat.le_of_ble_eq_true rfl)⟩ ⟨(Nat.le_of_ble_eq_true rfl), (Nat.le_of_ble_eq_true rfl)⟩ hl.1 (Nat.le_of_ble_eq_true rfl) dX6_rank_20 (fun r10 w11 H locs hH hv12 => ?_)
  refine lv_astore (lv' := [(6, .ref r10), (5, .int r4), (4, .int r1), (0, .ref self), (1, .int a1), (2, .int a2), (3, .int a3)]) hx hb dX6_rank_23 hl (by decide) rfl (fun ls hl => ?_)
  refine lv_iconst (v := 0) hx hb dX6_rank_25 (by decide) ?_
  refine lv_istore (lv' := [(7, .int 0), (6, .ref r10), (5, .int r4), (4, .int r1), (0, .ref self), (1, .int a1), (2, .int a2), (3, .int a3)]) hx hb dX6_rank_26 hl (by decide) rfl (fun ls hl => ?_)
  refine lv_aload_n hx hb dX6_rank_28 rfl (lv_at hl 4 rfl) ?_
  refine gf_X6_17 hC hH hv12.1 hv12.2.1 dX6_rank_29 ?_
  refine lv_astore (lv' := [(8, .ref (sj_A w11 33 self)), (7, .int 0), (6, .ref r10), (5, .int r4), (4, .int r1), (0, .ref self), (1, .int a1), (2, .int a2), (3, .int a3)]) hx hb dX6_rank_32 hl (by decide) rfl (fun ls hl => ?_)
  refine lv_aload hx hb dX6_rank_34 (lv_at hl 0 rfl) ?_
  refine sj_alen hC hH hv12.2.2.1 dX6_rank_36 ?_
  refine lv_istore (lv' := [(9, .int (nI (sj_N w11 (sj_A w11 33 self)))), (8, .ref (sj_A w11 33 self)), (7, .int 0), (6, .ref r10), (5, .int r4), (4, .int r1), (0, .ref self), (1, .int a1), (2, .int a2), (3, .int a3)]) hx hb dX6_rank_37 hl (by decide) rfl (fun ls hl => ?_)
  refine lv_iconst (v := 0) hx hb dX6_rank_39 (by decide) ?_
  refine lv_istore (lv' := [(10, .int 0), (9, .int (nI (sj_N w11 (sj_A w11 33 self)))), (8, .ref (sj_A w11 33 self)), (7, .int 0), (6, .ref r10), (5, .int r4), (4, .int r1), (0, .ref self), (1, .int a1), (2, .int a2), (3, .int a3)]) hx hb dX6_rank_40 hl (by decide) rfl (fun ls hl => ?_)
  refine wl_X6_rank_42 hC hD hr hin (fun z7_42 w_42 H locs ls hl hH hv28 => ?_) 14 0 0 w11 _ _ _ 4 24 (Nat.le_of_ble_eq_true rfl) (Nat.le_of_ble_eq_true rfl) (lv_sub hl [7, 6, 5, 4, 3, 2, 1, 0] rfl) hH hv12.2.2.2
  refine lv_iload hx hb dX6_rank_94 (lv_at hl 0 rfl) ?_
  exact sj_retI hC hD.2 hH hr rfl hv28 ⟨(Nat.le_of_ble_eq_true rfl), (Nat.le_of_ble_eq_true rfl)⟩ dX6_rank_96
section SJL_X6_rank
variable {p : Program} {l : Launch} {e : Env} {R : Room} {s : State} {m : MethodId} {args : Array Value} {below : List Frame} {meth : Method} {c : Code} {H : Heap} {locs : List Loc} {cells slots : Nat} {Q : State → Prop} {cc : ByteArray} {pc : Nat} {ls : Array Slot} {rest : List Value} {G : sj_G} {nL : Nat} {w : sj_W}
theorem cx_L_75 {QX : String → sj_W → Prop} {b : Nat} {b0 : Int32} {b1 : Int32} {b2 : Int32} {Qi : Int32 → sj_W → Prop} (hC : sj_C G p l s m args c cc RL nL) (hH : sj_H G s w H locs) (hv : vc_X6_rank b b0 b1 b2 w Qi QX) (hT : sj_T w b = 5) (hR : rm_X6_rank.frames + 1 ≤ R.frames ∧ 8 + (12 + 11) + rm_X6_rank.locals ≤ R.locals) (hf : cells + 19 ≤ R.cells ∧ slots + 69 ≤ R.slots) (hls : ls.size = nL) (hW : (rest.map fun v => v.category).sum ≤ 8) (hdg : decode cc pc = .ok (.invokevirtual 75, 3)) (kx : ∀ (E : String) (ce : Cell) (q9 : Addr) (w1 : sj_W) (H1 : Heap) (locs1 : List Loc), sj_H G s w1 H1 locs1 → QX E w1 → H1[q9]? = some ce → ce.vm = .none → s.vm.findClass E = some ce.cls → vx_W p l e R s m args below meth c H1 locs1 (cells + 19) (slots + 69) Q (F0 m pc ls rest) q9) (kk : ∀ (r : Int32) (w1 : sj_W) (H : Heap) (locs : List Loc), sj_H G s w1 H locs → Qi r w1 → W p l e R s m args below meth c H locs (cells + 19) (slots + 69) Q (F0 m (pc + 3) ls (.int r :: rest))) : W p l e R s m args below meth c H locs cells slots Q (F0 m pc ls (.int b2 :: .int b1 :: .int b0 :: .ref b :: rest)) :=
  sj_xI hH (sj_runV (n := 3) hC hH (As := [.int b0, .int b1, .int b2]) (wk_X6_rank G l hC.2.2.2.2.2.2 b b0 b1 b2 w Qi QX hv) (ci := 4) rfl (by decide) hT mb_448 mb_449 mb_450 mb_1 mb_451 (by decide +kernel) hR hf rfl hls hW hdg) kx kk
end SJL_X6_rank
abbrev rm_X6_refused : Room := { frames := 8, cells := 3, slots := 18, locals := 124 }
def vc_X6_refused (self : Nat) (a1 : Int32) (a2 : Int32) (a3 : Int32) (a4 : Int32) (a5 : Int32) (w : sj_W) (Q : Int32 → sj_W → Prop) (QX : String → sj_W → Prop) : Prop := vc_X6_kindOf a1 w (fun r1 w2 => vc_X6_wantQuestion a2 w2 (fun w5 => sj_T w5 self = 5 ∧ vc_X6_rowOf self r1 a3 w5 (fun r7 w8 => sj_jn1 (fun (E10 : Int32 → sj_W → Prop) => ((a4 ≤ a5 → E10 0 w8) ∧ (¬ a4 ≤ a5 → E10 1 w8))) (fun (y0_31 : Int32) (w_31 : sj_W) => ((a4 < 0 → Q (y0_31 + 2) w_31) ∧ (¬ a4 < 0 → sj_T w_31 r7 = 2 ∧ ((a5 ≤ (sj_I w_31 9 r7) → Q (y0_31 + 0) w_31) ∧ (¬ a5 ≤ (sj_I w_31 9 r7) → Q (y0_31 + 2) w_31)))))) QX) QX) QX
set_option maxHeartbeats 4000000 in
set_option maxRecDepth 100000 in
theorem wk_X6_refused (G : sj_G) (l : Launch) (hlt : l.stackTraces = false) (self : Nat) (a1 : Int32) (a2 : Int32) (a3 : Int32) (a4 : Int32) (a5 : Int32) (w : sj_W) (Q : Int32 → sj_W → Prop) (QX : String → sj_W → Prop) (hv : vc_X6_refused self a1 a2 a3 a4 a5 w Q QX) : sj_MI G l yX6_refused (sj_ws yX6_refused cX6_refused 10 (some .int)) rm_X6_refused [.ref self, .int a1, .int a2, .int a3, .int a4, .int a5] w Q QX := by
  refine sj_of (by decide +kernel) (Nat.le_of_ble_eq_true rfl) hlt ?_
  intro p e s m args below meth c ls hC hD hr hin hH hl
  have hx := hC.1
  have hb := hC.2.1
  have hl : lv_has ls 10 [(0, .ref self), (1, .int a1), (2, .int a2), (3, .int a3), (4, .int a4), (5, .int a5)] := hl
  refine lv_iload_n hx hb dX6_refused_0 rfl (lv_at hl 1 rfl) ?_
  refine cl_X6_34 hC hD hH hv ⟨Nat.le_of_ble_eq_true rfl, Nat.le_of_ble_eq_true rfl⟩ ⟨(Nat.le_of_ble_eq_true rfl), (Nat.le_of_ble_eq_true rfl)⟩ ⟨(Nat.le_of_ble_eq_true rfl), (Nat.le_of_ble_eq_true rfl)⟩ hl.1 (Nat.le_of_ble_eq_true rfl) dX6_refused_1 (fun r1 w2 H locs hH hv3 => ?_)
  refine lv_istore (lv' := [(6, .int r1), (0, .ref self), (1, .int a1), (2, .int a2), (3, .int a3), (4, .int a4), (5, .int a5)]) hx hb dX6_refused_4 hl (by decide) rfl (fun ls hl => ?_)
  refine lv_iload_n hx hb dX6_refused_6 rfl (lv_at hl 3 rfl) ?_
  refine cl_X6_112 hC hD hH hv3 ⟨Nat.le_of_ble_eq_true rfl, Nat.le_of_ble_eq_true rfl⟩ ⟨(Nat.le_of_ble_eq_true rfl), (Nat.le_of_ble_eq_true rfl)⟩ ⟨(Nat.le_of_ble_eq_true rfl), (Nat.le_of_ble_eq_true rfl)⟩ hl.1 (Nat.le_of_ble_eq_true rfl) dX6_refused_7 (fun w5 H locs hH hv6 => ?_)
  refine lv_aload_n hx hb dX6_refused_10 rfl (lv_at hl 1 rfl) ?_
  refine lv_iload hx hb dX6_refused_11 (lv_at hl 0 rfl) ?_
  refine lv_iload_n hx hb dX6_refused_13 rfl (lv_at hl 4 rfl) ?_
  refine cl_X6_42 hC hD hH hv6.2 hv6.1 ⟨Nat.le_of_ble_eq_true rfl, Nat.le_of_ble_eq_true rfl⟩ ⟨(Nat.le_of_ble_eq_true rfl), (Nat.le_of_ble_eq_true rfl)⟩ ⟨(Nat.le_of_ble_eq_true rfl), (Nat.le_of_ble_eq_true rfl)⟩ hl.1 (Nat.le_of_ble_eq_true rfl) dX6_refused_14 (fun r7 w8 H locs hH hv9 => ?_)
  refine lv_astore (lv' := [(7, .ref r7), (6, .int r1), (0, .ref self), (1, .int a1), (2, .int a2), (3, .int a3), (4, .int a4), (5, .int a5)]) hx hb dX6_refused_17 hl (by decide) rfl (fun ls hl => ?_)
  refine lv_iload hx hb dX6_refused_19 (lv_at hl 6 rfl) ?_
  refine lv_iload hx hb dX6_refused_21 (lv_at hl 7 rfl) ?_
  obtain ⟨E10, hE11, hv14⟩ := sj_jn1_e hv9
  have hJ12 : ∀ (y0_31 : Int32) (w_31 : sj_W) (H : Heap) (locs : List Loc) (ls : Array Slot), lv_has ls 10 [(4, .int a4), (5, .int a5), (7, .ref r7)] → sj_H G s w_31 H locs → E10 y0_31 w_31 → W p l e rm_X6_refused s m args below meth c H locs 3 18 (sj_MQ G below (va_Qi Q (sj_B G) (sj_F G)) QX args s rm_X6_refused) (F0 m 31 ls [.int y0_31]) := by
    intro y0_31 w_31 H locs ls hl hH hv15
    rw [hE11] at hv15
    refine lv_istore (lv' := [(8, .int y0_31), (4, .int a4), (5, .int a5), (7, .ref r7)]) hx hb dX6_refused_31 hl (by decide) rfl (fun ls hl => ?_)
    refine lv_iload hx hb dX6_refused_33 (lv_at hl 1 rfl) ?_
    refine lv_if_lt (tgt := 48) hx hb dX6_refused_35 (by decide) (fun hc => ?_) (fun hc => ?_)
    · have hv18 := hv15.1 hc
      refine lv_iconst (v := 2) hx hb dX6_refused_48 (by decide) ?_
      refine lv_goto (tgt := 53) hx hb dX6_refused_49 (by decide) ?_
      refine lv_istore (lv' := [(9, .int 2), (8, .int y0_31), (4, .int a4), (5, .int a5), (7, .ref r7)]) hx hb dX6_refused_53 hl (by decide) rfl (fun ls hl => ?_)
      refine lv_iload hx hb dX6_refused_55 (lv_at hl 1 rfl) ?_
      refine lv_iload hx hb dX6_refused_57 (lv_at hl 0 rfl) ?_
      refine lv_iadd hx hb dX6_refused_59 ?_
      exact sj_retI hC hD.2 hH hr rfl hv18 ⟨(Nat.le_of_ble_eq_true rfl), (Nat.le_of_ble_eq_true rfl)⟩ dX6_refused_60
    · have hv19 := hv15.2 hc
      refine lv_iload hx hb dX6_refused_38 (lv_at hl 2 rfl) ?_
      refine lv_aload hx hb dX6_refused_40 (lv_at hl 3 rfl) ?_
      refine gf_X6_46 hC hH hv19.1 dX6_refused_42 ?_
      refine lv_icmp_le (tgt := 52) hx hb dX6_refused_45 (by decide) (fun hc => ?_) (fun hc => ?_)
      · have hv20 := hv19.2.1 hc
        refine lv_iconst (v := 0) hx hb dX6_refused_52 (by decide) ?_
        refine lv_istore (lv' := [(9, .int 0), (8, .int y0_31), (4, .int a4), (5, .int a5), (7, .ref r7)]) hx hb dX6_refused_53 hl (by decide) rfl (fun ls hl => ?_)
        refine lv_iload hx hb dX6_refused_55 (lv_at hl 1 rfl) ?_
        refine lv_iload hx hb dX6_refused_57 (lv_at hl 0 rfl) ?_
        refine lv_iadd hx hb dX6_refused_59 ?_
        exact sj_retI hC hD.2 hH hr rfl hv20 ⟨(Nat.le_of_ble_eq_true rfl), (Nat.le_of_ble_eq_true rfl)⟩ dX6_refused_60
      · have hv21 := hv19.2.2 hc
        refine lv_iconst (v := 2) hx hb dX6_refused_48 (by decide) ?_
        refine lv_goto (tgt := 53) hx hb dX6_refused_49 (by decide) ?_
        refine lv_istore (lv' := [(9, .int 2), (8, .int y0_31), (4, .int a4), (5, .int a5), (7, .ref r7)]) hx hb dX6_refused_53 hl (by decide) rfl (fun ls hl => ?_)
        refine lv_iload hx hb dX6_refused_55 (lv_at hl 1 rfl) ?_
        refine lv_iload hx hb dX6_refused_57 (lv_at hl 0 rfl) ?_
        refine lv_iadd hx hb dX6_refused_59 ?_
        exact sj_retI hC hD.2 hH hr rfl hv21 ⟨(Nat.le_of_ble_eq_true rfl), (Nat.le_of_ble_eq_true rfl)⟩ dX6_refused_60
  clear hE11
  refine lv_icmp_le (tgt := 30) hx hb dX6_refused_23 (by decide) (fun hc => ?_) (fun hc => ?_)
  · have hv16 := hv14.1 hc
    refine lv_iconst (v := 0) hx hb dX6_refused_30 (by decide) ?_
    exact hJ12 0 w8 _ _ _ (lv_sub hl [6, 7, 0] rfl) hH hv16
  · have hv17 := hv14.2 hc
    refine lv_iconst (v := 1) hx hb dX6_refused_26 (by decide) ?_
    refine lv_goto (tgt := 31) hx hb dX6_refused_27 (by decide) ?_
    exact hJ12 1 w8 _ _ _ (lv_sub hl [6, 7, 0] rfl) hH hv17
section SJL_X6_refused
variable {p : Program} {l : Launch} {e : Env} {R : Room} {s : State} {m : MethodId} {args : Array Value} {below : List Frame} {meth : Method} {c : Code} {H : Heap} {locs : List Loc} {cells slots : Nat} {Q : State → Prop} {cc : ByteArray} {pc : Nat} {ls : Array Slot} {rest : List Value} {G : sj_G} {nL : Nat} {w : sj_W}
theorem cx_L_68 {QX : String → sj_W → Prop} {b : Nat} {b0 : Int32} {b1 : Int32} {b2 : Int32} {b3 : Int32} {b4 : Int32} {Qi : Int32 → sj_W → Prop} (hC : sj_C G p l s m args c cc RL nL) (hH : sj_H G s w H locs) (hv : vc_X6_refused b b0 b1 b2 b3 b4 w Qi QX) (hT : sj_T w b = 5) (hR : rm_X6_refused.frames + 1 ≤ R.frames ∧ 8 + (10 + 11) + rm_X6_refused.locals ≤ R.locals) (hf : cells + 3 ≤ R.cells ∧ slots + 18 ≤ R.slots) (hls : ls.size = nL) (hW : (rest.map fun v => v.category).sum ≤ 8) (hdg : decode cc pc = .ok (.invokevirtual 68, 3)) (kx : ∀ (E : String) (ce : Cell) (q9 : Addr) (w1 : sj_W) (H1 : Heap) (locs1 : List Loc), sj_H G s w1 H1 locs1 → QX E w1 → H1[q9]? = some ce → ce.vm = .none → s.vm.findClass E = some ce.cls → vx_W p l e R s m args below meth c H1 locs1 (cells + 3) (slots + 18) Q (F0 m pc ls rest) q9) (kk : ∀ (r : Int32) (w1 : sj_W) (H : Heap) (locs : List Loc), sj_H G s w1 H locs → Qi r w1 → W p l e R s m args below meth c H locs (cells + 3) (slots + 18) Q (F0 m (pc + 3) ls (.int r :: rest))) : W p l e R s m args below meth c H locs cells slots Q (F0 m pc ls (.int b4 :: .int b3 :: .int b2 :: .int b1 :: .int b0 :: .ref b :: rest)) :=
  sj_xI hH (sj_runV (n := 5) hC hH (As := [.int b0, .int b1, .int b2, .int b3, .int b4]) (wk_X6_refused G l hC.2.2.2.2.2.2 b b0 b1 b2 b3 b4 w Qi QX hv) (ci := 4) rfl (by decide) hT mb_434 mb_435 mb_436 mb_1 mb_437 (by decide +kernel) hR hf rfl hls hW hdg) kx kk
end SJL_X6_refused
abbrev rm_X6_repeat : Room := { frames := 8, cells := 3, slots := 18, locals := 124 }
def vb_X6_repeat_75 (f5 : Nat) (f6 : Int32) (Q : Int32 → sj_W → Prop) (QX : String → sj_W → Prop) (E : sj_W → Prop) (K : Int32 → sj_W → Prop) (v7 : Int32) (w : sj_W) : Prop := sj_T w f5 = 2 ∧ (((sj_I w 9 f5) ≤ v7 → E w) ∧ (¬ (sj_I w 9 f5) ≤ v7 → sj_T w f5 = 2 ∧ sj_A w 8 f5 ≠ 0 ∧ sj_T w f5 = 2 ∧ sj_A w 8 f5 ≠ 0 ∧ sj_T w (sj_A w 8 f5) = 8 ∧ vp_in (v7 - f6) (sj_N w (sj_A w 8 f5)) ∧ sj_T w (sj_A w 8 f5) = 8 ∧ vp_in v7 (sj_N w (sj_A w 8 f5)) ∧ ∀ w15 : sj_W, w15 = sj_sl w (sj_A w 8 f5) v7.toNatClampNeg (sj_l w (sj_A w 8 f5) (v7 - f6).toNatClampNeg) → K (v7 + 1) w15))
def vc_X6_repeat (self : Nat) (a1 : Int32) (a2 : Int32) (a3 : Int32) (w : sj_W) (Q : Int32 → sj_W → Prop) (QX : String → sj_W → Prop) : Prop := vc_X6_kindOf a1 w (fun r1 w2 => ((a3 < 1 → QX "java/lang/IllegalArgumentException" w2) ∧ (¬ a3 < 1 → ((a3 ≤ 8 → sj_T w2 self = 5 ∧ vc_X6_rowOf self r1 a2 w2 (fun r7 w8 => sj_T w8 r7 = 2 ∧ ((((sj_I w8 9 r7) * a3) ≤ 32 → sj_T w8 r7 = 2 ∧ ∀ w11 : sj_W, w11 = sj_sI w8 9 r7 ((sj_I w8 9 r7) * a3) → sj_lp1 (vb_X6_repeat_75 r7 (sj_I w8 9 r7) Q QX (fun w_75 => sj_T w_75 r7 = 2 ∧ Q (sj_I w_75 9 r7) w_75)) 64 (sj_I w8 9 r7) w11) ∧ (¬ ((sj_I w8 9 r7) * a3) ≤ 32 → QX "java/lang/IllegalStateException" w8))) QX) ∧ (¬ a3 ≤ 8 → QX "java/lang/IllegalArgumentException" w2))))) QX
set_option maxHeartbeats 4000000 in
set_option maxRecDepth 100000 in
theorem wl_X6_repeat_75 {p : Program} {l : Launch} {e : Env} {s : State} {m : MethodId} {args : Array Value} {below : List Frame} {meth : Method} {c : Code} {G : sj_G} {f5 : Nat} {f6 : Int32} {Q : Int32 → sj_W → Prop} {QX : String → sj_W → Prop} {E : sj_W → Prop} (hC : sj_C G p l s m args c cX6_repeat RX6 8) (hD : sj_D meth c) (hr : meth.sig.returnType = (some .int)) (hin : meth.name = "repeat") (hE : ∀ (w : sj_W) (H : Heap) (locs : List Loc) (ls : Array Slot), lv_has ls 8 [(5, .ref f5)] → sj_H G s w H locs → E w → W p l e rm_X6_repeat s m args below meth c H locs 2 12 (sj_MQ G below (va_Qi Q (sj_B G) (sj_F G)) QX args s rm_X6_repeat) (F0 m 110 ls [])) : ∀ (n : Nat) (v7 : Int32) (w : sj_W) (H : Heap) (locs : List Loc) (ls : Array Slot), lv_has ls 8 [(5, .ref f5), (6, .int f6), (7, .int v7)] → sj_H G s w H locs → sj_lp1 (vb_X6_repeat_75 f5 f6 Q QX E) n v7 w → W p l e rm_X6_repeat s m args below meth c H locs 2 12 (sj_MQ G below (va_Qi Q (sj_B G) (sj_F G)) QX args s rm_X6_repeat) (F0 m 75 ls []) := by
  have hx := hC.1
  have hb := hC.2.1
  intro n
  induction n with
  | zero =>
    intro v7 w H locs ls _ _ hv
    exact hv.elim
  | succ n ih =>
    intro v7 w H locs ls hl hH hv
    have hv : vb_X6_repeat_75 f5 f6 Q QX E (sj_lp1 (vb_X6_repeat_75 f5 f6 Q QX E) n) v7 w := hv
    have hc1 : rm_X6_repeat.cells = 3 := rfl
    have hc2 : rm_X6_repeat.slots = 18 := rfl
    refine lv_iload hx hb dX6_repeat_75 (lv_at hl 2 rfl) ?_
    refine lv_aload hx hb dX6_repeat_77 (lv_at hl 0 rfl) ?_
    refine gf_X6_46 hC hH hv.1 dX6_repeat_79 ?_
    refine lv_icmp_ge (tgt := 110) hx hb dX6_repeat_82 (by decide) (fun hc => ?_) (fun hc => ?_)
    · have hv13 := hv.2.1 hc
      exact hE  w _ _ _ (lv_sub hl [0] rfl) hH hv13
    · have hv14 := hv.2.2 hc
      refine lv_aload hx hb dX6_repeat_85 (lv_at hl 0 rfl) ?_
      refine gf_X6_57 hC hH hv14.1 hv14.2.1 dX6_repeat_87 ?_
      refine lv_iload hx hb dX6_repeat_90 (lv_at hl 2 rfl) ?_
      refine lv_aload hx hb dX6_repeat_92 (lv_at hl 0 rfl) ?_
      refine gf_X6_57 hC hH hv14.2.2.1 hv14.2.2.2.1 dX6_repeat_94 ?_
      refine lv_iload hx hb dX6_repeat_97 (lv_at hl 2 rfl) ?_
      refine lv_iload hx hb dX6_repeat_99 (lv_at hl 1 rfl) ?_
      refine lv_isub hx hb dX6_repeat_101 ?_
      refine sj_lald hC hH hv14.2.2.2.2.1 hv14.2.2.2.2.2.1 dX6_repeat_102 ?_
      refine sj_last hC hH hv14.2.2.2.2.2.2.1 hv14.2.2.2.2.2.2.2.1 dX6_repeat_103 (fun w15 H locs e16 hH => ?_)
      refine lv_iinc (v := (v7 + 1)) (lv' := [(7, .int (v7 + 1)), (5, .ref f5), (6, .int f6)]) hx hb dX6_repeat_104 hl (k := 2) rfl rfl (by decide) rfl (fun ls hl => ?_)
      refine lv_goto (tgt := 75) hx hb dX6_repeat_107 (by decide) ?_
      exact ih (v7 + 1) w15 _ _ _ (lv_sub hl [1, 2, 0] rfl) hH (hv14.2.2.2.2.2.2.2.2 w15 e16)
set_option maxHeartbeats 4000000 in
set_option maxRecDepth 100000 in
theorem wk_X6_repeat (G : sj_G) (l : Launch) (hlt : l.stackTraces = false) (self : Nat) (a1 : Int32) (a2 : Int32) (a3 : Int32) (w : sj_W) (Q : Int32 → sj_W → Prop) (QX : String → sj_W → Prop) (hv : vc_X6_repeat self a1 a2 a3 w Q QX) : sj_MI G l yX6_repeat (sj_ws yX6_repeat cX6_repeat 8 (some .int)) rm_X6_repeat [.ref self, .int a1, .int a2, .int a3] w Q QX := by
  refine sj_of (by decide +kernel) (Nat.le_of_ble_eq_true rfl) hlt ?_
  intro p e s m args below meth c ls hC hD hr hin hH hl
  have hx := hC.1
  have hb := hC.2.1
  have hl : lv_has ls 8 [(0, .ref self), (1, .int a1), (2, .int a2), (3, .int a3)] := hl
  refine lv_iload_n hx hb dX6_repeat_0 rfl (lv_at hl 1 rfl) ?_
  refine cl_X6_34 hC hD hH hv ⟨Nat.le_of_ble_eq_true rfl, Nat.le_of_ble_eq_true rfl⟩ ⟨(Nat.le_of_ble_eq_true rfl), (Nat.le_of_ble_eq_true rfl)⟩ ⟨(Nat.le_of_ble_eq_true rfl), (Nat.le_of_ble_eq_true rfl)⟩ hl.1 (Nat.le_of_ble_eq_true rfl) dX6_repeat_1 (fun r1 w2 H locs hH hv3 => ?_)
  refine lv_istore (lv' := [(4, .int r1), (0, .ref self), (1, .int a1), (2, .int a2), (3, .int a3)]) hx hb dX6_repeat_4 hl (by decide) rfl (fun ls hl => ?_)
  refine lv_iload_n hx hb dX6_repeat_6 rfl (lv_at hl 4 rfl) ?_
  refine lv_iconst (v := 1) hx hb dX6_repeat_7 (by decide) ?_
  refine lv_icmp_lt (tgt := 17) hx hb dX6_repeat_8 (by decide) (fun hc => ?_) (fun hc => ?_)
  · have hv4 := hv3.1 hc
    exact th_X6_67_69 hC hD hH hl.1 dX6_repeat_17 dX6_repeat_20 dX6_repeat_21 dX6_repeat_23 dX6_repeat_26 ⟨Nat.le_of_ble_eq_true rfl, Nat.le_of_ble_eq_true rfl⟩ ⟨(Nat.le_of_ble_eq_true rfl), (Nat.le_of_ble_eq_true rfl)⟩ ⟨(Nat.le_of_ble_eq_true rfl), (Nat.le_of_ble_eq_true rfl)⟩ hv4
  · have hv5 := hv3.2 hc
    refine lv_iload_n hx hb dX6_repeat_11 rfl (lv_at hl 4 rfl) ?_
    refine lv_bipush (v := 8) hx hb dX6_repeat_12 (by decide) ?_
    refine lv_icmp_le (tgt := 27) hx hb dX6_repeat_14 (by decide) (fun hc => ?_) (fun hc => ?_)
    · have hv6 := hv5.1 hc
      refine lv_aload_n hx hb dX6_repeat_27 rfl (lv_at hl 1 rfl) ?_
      refine lv_iload hx hb dX6_repeat_28 (lv_at hl 0 rfl) ?_
      refine lv_iload_n hx hb dX6_repeat_30 rfl (lv_at hl 3 rfl) ?_
      refine cl_X6_42 hC hD hH hv6.2 hv6.1 ⟨Nat.le_of_ble_eq_true rfl, Nat.le_of_ble_eq_true rfl⟩ ⟨(Nat.le_of_ble_eq_true rfl), (Nat.le_of_ble_eq_true rfl)⟩ ⟨(Nat.le_of_ble_eq_true rfl), (Nat.le_of_ble_eq_true rfl)⟩ hl.1 (Nat.le_of_ble_eq_true rfl) dX6_repeat_31 (fun r7 w8 H locs hH hv9 => ?_)
      refine lv_astore (lv' := [(5, .ref r7), (4, .int r1), (0, .ref self), (1, .int a1), (2, .int a2), (3, .int a3)]) hx hb dX6_repeat_34 hl (by decide) rfl (fun ls hl => ?_)
      refine lv_aload hx hb dX6_repeat_36 (lv_at hl 0 rfl) ?_
      refine gf_X6_46 hC hH hv9.1 dX6_repeat_38 ?_
      refine lv_istore (lv' := [(6, .int (sj_I w8 9 r7)), (5, .ref r7), (4, .int r1), (0, .ref self), (1, .int a1), (2, .int a2), (3, .int a3)]) hx hb dX6_repeat_41 hl (by decide) rfl (fun ls hl => ?_)
      refine lv_iload hx hb dX6_repeat_43 (lv_at hl 0 rfl) ?_
      refine lv_iload_n hx hb dX6_repeat_45 rfl (lv_at hl 6 rfl) ?_
      refine lv_imul hx hb dX6_repeat_46 ?_
      refine lv_bipush (v := 32) hx hb dX6_repeat_47 (by decide) ?_
      refine lv_icmp_le (tgt := 62) hx hb dX6_repeat_49 (by decide) (fun hc => ?_) (fun hc => ?_)
      · have hv10 := hv9.2.1 hc
        refine lv_aload hx hb dX6_repeat_62 (lv_at hl 1 rfl) ?_
        refine lv_iload hx hb dX6_repeat_64 (lv_at hl 0 rfl) ?_
        refine lv_iload_n hx hb dX6_repeat_66 rfl (lv_at hl 6 rfl) ?_
        refine lv_imul hx hb dX6_repeat_67 ?_
        refine pf_X6_46 hC hH hv10.1 dX6_repeat_68 (fun w11 H locs e12 hH => ?_)
        refine lv_iload hx hb dX6_repeat_71 (lv_at hl 0 rfl) ?_
        refine lv_istore (lv' := [(7, .int (sj_I w8 9 r7)), (6, .int (sj_I w8 9 r7)), (5, .ref r7), (4, .int r1), (0, .ref self), (1, .int a1), (2, .int a2), (3, .int a3)]) hx hb dX6_repeat_73 hl (by decide) rfl (fun ls hl => ?_)
        refine wl_X6_repeat_75 hC hD hr hin (fun w_75 H locs ls hl hH hv17 => ?_) 64 (sj_I w8 9 r7) w11 _ _ _ (lv_sub hl [2, 1, 0] rfl) hH (hv10.2 w11 e12)
        refine lv_aload hx hb dX6_repeat_110 (lv_at hl 0 rfl) ?_
        refine gf_X6_46 hC hH hv17.1 dX6_repeat_112 ?_
        exact sj_retI hC hD.2 hH hr rfl hv17.2 ⟨(Nat.le_of_ble_eq_true rfl), (Nat.le_of_ble_eq_true rfl)⟩ dX6_repeat_115
      · have hv18 := hv9.2.2 hc
        exact th_X6_70_54 hC hD hH hl.1 dX6_repeat_52 dX6_repeat_55 dX6_repeat_56 dX6_repeat_58 dX6_repeat_61 ⟨Nat.le_of_ble_eq_true rfl, Nat.le_of_ble_eq_true rfl⟩ ⟨(Nat.le_of_ble_eq_true rfl), (Nat.le_of_ble_eq_true rfl)⟩ ⟨(Nat.le_of_ble_eq_true rfl), (Nat.le_of_ble_eq_true rfl)⟩ hv18
    · have hv19 := hv5.2 hc
      exact th_X6_67_69 hC hD hH hl.1 dX6_repeat_17 dX6_repeat_20 dX6_repeat_21 dX6_repeat_23 dX6_repeat_26 ⟨Nat.le_of_ble_eq_true rfl, Nat.le_of_ble_eq_true rfl⟩ ⟨(Nat.le_of_ble_eq_true rfl), (Nat.le_of_ble_eq_true rfl)⟩ ⟨(Nat.le_of_ble_eq_true rfl), (Nat.le_of_ble_eq_true rfl)⟩ hv19
section SJL_X6_repeat
variable {p : Program} {l : Launch} {e : Env} {R : Room} {s : State} {m : MethodId} {args : Array Value} {below : List Frame} {meth : Method} {c : Code} {H : Heap} {locs : List Loc} {cells slots : Nat} {Q : State → Prop} {cc : ByteArray} {pc : Nat} {ls : Array Slot} {rest : List Value} {G : sj_G} {nL : Nat} {w : sj_W}
theorem cx_L_34 {QX : String → sj_W → Prop} {b : Nat} {b0 : Int32} {b1 : Int32} {b2 : Int32} {Qi : Int32 → sj_W → Prop} (hC : sj_C G p l s m args c cc RL nL) (hH : sj_H G s w H locs) (hv : vc_X6_repeat b b0 b1 b2 w Qi QX) (hT : sj_T w b = 5) (hR : rm_X6_repeat.frames + 1 ≤ R.frames ∧ 8 + (8 + 11) + rm_X6_repeat.locals ≤ R.locals) (hf : cells + 3 ≤ R.cells ∧ slots + 18 ≤ R.slots) (hls : ls.size = nL) (hW : (rest.map fun v => v.category).sum ≤ 8) (hdg : decode cc pc = .ok (.invokevirtual 34, 3)) (kx : ∀ (E : String) (ce : Cell) (q9 : Addr) (w1 : sj_W) (H1 : Heap) (locs1 : List Loc), sj_H G s w1 H1 locs1 → QX E w1 → H1[q9]? = some ce → ce.vm = .none → s.vm.findClass E = some ce.cls → vx_W p l e R s m args below meth c H1 locs1 (cells + 3) (slots + 18) Q (F0 m pc ls rest) q9) (kk : ∀ (r : Int32) (w1 : sj_W) (H : Heap) (locs : List Loc), sj_H G s w1 H locs → Qi r w1 → W p l e R s m args below meth c H locs (cells + 3) (slots + 18) Q (F0 m (pc + 3) ls (.int r :: rest))) : W p l e R s m args below meth c H locs cells slots Q (F0 m pc ls (.int b2 :: .int b1 :: .int b0 :: .ref b :: rest)) :=
  sj_xI hH (sj_runV (n := 3) hC hH (As := [.int b0, .int b1, .int b2]) (wk_X6_repeat G l hC.2.2.2.2.2.2 b b0 b1 b2 w Qi QX hv) (ci := 4) rfl (by decide) hT mb_290 mb_291 mb_292 mb_1 mb_293 (by decide +kernel) hR hf rfl hls hW hdg) kx kk
end SJL_X6_repeat
abbrev rm_X6_reverse : Room := { frames := 8, cells := 2, slots := 12, locals := 124 }
def vb_X6_reverse_21 (f3 : Nat) (Q : Int32 → sj_W → Prop) (QX : String → sj_W → Prop) (E : sj_W → Prop) (K : Int32 → Int32 → sj_W → Prop) (v4 : Int32) (v5 : Int32) (w : sj_W) : Prop := ((v4 ≤ v5 → E w) ∧ (¬ v4 ≤ v5 → sj_T w f3 = 2 ∧ sj_A w 8 f3 ≠ 0 ∧ sj_T w (sj_A w 8 f3) = 8 ∧ vp_in v5 (sj_N w (sj_A w 8 f3)) ∧ sj_T w f3 = 2 ∧ sj_A w 8 f3 ≠ 0 ∧ sj_T w f3 = 2 ∧ sj_A w 8 f3 ≠ 0 ∧ sj_T w (sj_A w 8 f3) = 8 ∧ vp_in v4 (sj_N w (sj_A w 8 f3)) ∧ sj_T w (sj_A w 8 f3) = 8 ∧ vp_in v5 (sj_N w (sj_A w 8 f3)) ∧ ∀ w9 : sj_W, w9 = sj_sl w (sj_A w 8 f3) v5.toNatClampNeg (sj_l w (sj_A w 8 f3) v4.toNatClampNeg) → sj_T w9 f3 = 2 ∧ sj_A w9 8 f3 ≠ 0 ∧ sj_T w9 (sj_A w9 8 f3) = 8 ∧ vp_in v4 (sj_N w9 (sj_A w9 8 f3)) ∧ ∀ w11 : sj_W, w11 = sj_sl w9 (sj_A w9 8 f3) v4.toNatClampNeg (sj_l w (sj_A w 8 f3) v5.toNatClampNeg) → K (v4 + (-1)) (v5 + 1) w11))
def vc_X6_reverse (self : Nat) (a1 : Int32) (a2 : Int32) (w : sj_W) (Q : Int32 → sj_W → Prop) (QX : String → sj_W → Prop) : Prop := vc_X6_kindOf a1 w (fun r1 w2 => sj_T w2 self = 5 ∧ vc_X6_rowOf self r1 a2 w2 (fun r4 w5 => sj_T w5 r4 = 2 ∧ sj_lp2 (vb_X6_reverse_21 r4 Q QX (fun w_21 => sj_T w_21 r4 = 2 ∧ Q (sj_I w_21 9 r4) w_21)) 64 ((sj_I w5 9 r4) - 1) 0 w5) QX) QX
set_option maxHeartbeats 4000000 in
set_option maxRecDepth 100000 in
theorem wl_X6_reverse_21 {p : Program} {l : Launch} {e : Env} {s : State} {m : MethodId} {args : Array Value} {below : List Frame} {meth : Method} {c : Code} {G : sj_G} {f3 : Nat} {Q : Int32 → sj_W → Prop} {QX : String → sj_W → Prop} {E : sj_W → Prop} (hC : sj_C G p l s m args c cX6_reverse RX6 8) (hD : sj_D meth c) (hr : meth.sig.returnType = (some .int)) (hin : meth.name = "reverse") (hE : ∀ (w : sj_W) (H : Heap) (locs : List Loc) (ls : Array Slot), lv_has ls 8 [(3, .ref f3)] → sj_H G s w H locs → E w → W p l e rm_X6_reverse s m args below meth c H locs 2 12 (sj_MQ G below (va_Qi Q (sj_B G) (sj_F G)) QX args s rm_X6_reverse) (F0 m 69 ls [])) : ∀ (n : Nat) (v4 : Int32) (v5 : Int32) (w : sj_W) (H : Heap) (locs : List Loc) (ls : Array Slot), lv_has ls 8 [(3, .ref f3), (4, .int v4), (5, .int v5)] → sj_H G s w H locs → sj_lp2 (vb_X6_reverse_21 f3 Q QX E) n v4 v5 w → W p l e rm_X6_reverse s m args below meth c H locs 2 12 (sj_MQ G below (va_Qi Q (sj_B G) (sj_F G)) QX args s rm_X6_reverse) (F0 m 21 ls []) := by
  have hx := hC.1
  have hb := hC.2.1
  intro n
  induction n with
  | zero =>
    intro v4 v5 w H locs ls _ _ hv
    exact hv.elim
  | succ n ih =>
    intro v4 v5 w H locs ls hl hH hv
    have hv : vb_X6_reverse_21 f3 Q QX E (sj_lp2 (vb_X6_reverse_21 f3 Q QX E) n) v4 v5 w := hv
    have hc1 : rm_X6_reverse.cells = 2 := rfl
    have hc2 : rm_X6_reverse.slots = 12 := rfl
    refine lv_iload hx hb dX6_reverse_21 (lv_at hl 2 rfl) ?_
    refine lv_iload hx hb dX6_reverse_23 (lv_at hl 1 rfl) ?_
    refine lv_icmp_ge (tgt := 69) hx hb dX6_reverse_25 (by decide) (fun hc => ?_) (fun hc => ?_)
    · have hv7 := hv.1 hc
      exact hE  w _ _ _ (lv_sub hl [0] rfl) hH hv7
    · have hv8 := hv.2 hc
      refine lv_aload_n hx hb dX6_reverse_28 rfl (lv_at hl 0 rfl) ?_
      refine gf_X6_57 hC hH hv8.1 hv8.2.1 dX6_reverse_29 ?_
      refine lv_iload hx hb dX6_reverse_32 (lv_at hl 2 rfl) ?_
      refine sj_lald hC hH hv8.2.2.1 hv8.2.2.2.1 dX6_reverse_34 ?_
      refine lv_lstore (lv' := [(6, .long (sj_l w (sj_A w 8 f3) v5.toNatClampNeg)), (3, .ref f3), (4, .int v4), (5, .int v5)]) hx hb dX6_reverse_35 hl (by decide) rfl (fun ls hl => ?_)
      refine lv_aload_n hx hb dX6_reverse_37 rfl (lv_at hl 1 rfl) ?_
      refine gf_X6_57 hC hH hv8.2.2.2.2.1 hv8.2.2.2.2.2.1 dX6_reverse_38 ?_
      refine lv_iload hx hb dX6_reverse_41 (lv_at hl 3 rfl) ?_
      refine lv_aload_n hx hb dX6_reverse_43 rfl (lv_at hl 1 rfl) ?_
      refine gf_X6_57 hC hH hv8.2.2.2.2.2.2.1 hv8.2.2.2.2.2.2.2.1 dX6_reverse_44 ?_
      refine lv_iload hx hb dX6_reverse_47 (lv_at hl 2 rfl) ?_
      refine sj_lald hC hH hv8.2.2.2.2.2.2.2.2.1 hv8.2.2.2.2.2.2.2.2.2.1 dX6_reverse_49 ?_
      refine sj_last hC hH hv8.2.2.2.2.2.2.2.2.2.2.1 hv8.2.2.2.2.2.2.2.2.2.2.2.1 dX6_reverse_50 (fun w9 H locs e10 hH => ?_)
      refine lv_aload_n hx hb dX6_reverse_51 rfl (lv_at hl 1 rfl) ?_
      refine gf_X6_57 hC hH (hv8.2.2.2.2.2.2.2.2.2.2.2.2 w9 e10).1 (hv8.2.2.2.2.2.2.2.2.2.2.2.2 w9 e10).2.1 dX6_reverse_52 ?_
      refine lv_iload hx hb dX6_reverse_55 (lv_at hl 2 rfl) ?_
      refine lv_lload hx hb dX6_reverse_57 (lv_at hl 0 rfl) ?_
      refine sj_last hC hH (hv8.2.2.2.2.2.2.2.2.2.2.2.2 w9 e10).2.2.1 (hv8.2.2.2.2.2.2.2.2.2.2.2.2 w9 e10).2.2.2.1 dX6_reverse_59 (fun w11 H locs e12 hH => ?_)
      refine lv_iinc (v := (v4 + (-1))) (lv' := [(4, .int (v4 + (-1))), (6, .long (sj_l w (sj_A w 8 f3) v5.toNatClampNeg)), (3, .ref f3), (5, .int v5)]) hx hb dX6_reverse_60 hl (k := 2) rfl rfl (by decide) rfl (fun ls hl => ?_)
      refine lv_iinc (v := (v5 + 1)) (lv' := [(5, .int (v5 + 1)), (4, .int (v4 + (-1))), (6, .long (sj_l w (sj_A w 8 f3) v5.toNatClampNeg)), (3, .ref f3)]) hx hb dX6_reverse_63 hl (k := 3) rfl rfl (by decide) rfl (fun ls hl => ?_)
      refine lv_goto (tgt := 21) hx hb dX6_reverse_66 (by decide) ?_
      exact ih (v4 + (-1)) (v5 + 1) w11 _ _ _ (lv_sub hl [3, 1, 0] rfl) hH ((hv8.2.2.2.2.2.2.2.2.2.2.2.2 w9 e10).2.2.2.2 w11 e12)
set_option maxHeartbeats 4000000 in
set_option maxRecDepth 100000 in
theorem wk_X6_reverse (G : sj_G) (l : Launch) (hlt : l.stackTraces = false) (self : Nat) (a1 : Int32) (a2 : Int32) (w : sj_W) (Q : Int32 → sj_W → Prop) (QX : String → sj_W → Prop) (hv : vc_X6_reverse self a1 a2 w Q QX) : sj_MI G l yX6_reverse (sj_ws yX6_reverse cX6_reverse 8 (some .int)) rm_X6_reverse [.ref self, .int a1, .int a2] w Q QX := by
  refine sj_of (by decide +kernel) (Nat.le_of_ble_eq_true rfl) hlt ?_
  intro p e s m args below meth c ls hC hD hr hin hH hl
  have hx := hC.1
  have hb := hC.2.1
  have hl : lv_has ls 8 [(0, .ref self), (1, .int a1), (2, .int a2)] := hl
  refine lv_aload_n hx hb dX6_reverse_0 rfl (lv_at hl 0 rfl) ?_
  refine lv_iload_n hx hb dX6_reverse_1 rfl (lv_at hl 1 rfl) ?_
  refine cl_X6_34 hC hD hH hv ⟨Nat.le_of_ble_eq_true rfl, Nat.le_of_ble_eq_true rfl⟩ ⟨(Nat.le_of_ble_eq_true rfl), (Nat.le_of_ble_eq_true rfl)⟩ ⟨(Nat.le_of_ble_eq_true rfl), (Nat.le_of_ble_eq_true rfl)⟩ hl.1 (Nat.le_of_ble_eq_true rfl) dX6_reverse_2 (fun r1 w2 H locs hH hv3 => ?_)
  refine lv_iload_n hx hb dX6_reverse_5 rfl (lv_at hl 2 rfl) ?_
  refine cl_X6_42 hC hD hH hv3.2 hv3.1 ⟨Nat.le_of_ble_eq_true rfl, Nat.le_of_ble_eq_true rfl⟩ ⟨(Nat.le_of_ble_eq_true rfl), (Nat.le_of_ble_eq_true rfl)⟩ ⟨(Nat.le_of_ble_eq_true rfl), (Nat.le_of_ble_eq_true rfl)⟩ hl.1 (Nat.le_of_ble_eq_true rfl) dX6_reverse_6 (fun r4 w5 H locs hH hv6 => ?_)
  refine lv_astore_n (lv' := [(3, .ref r4), (0, .ref self), (1, .int a1), (2, .int a2)]) hx hb dX6_reverse_9 rfl hl (by decide) rfl (fun ls hl => ?_)
  refine lv_aload_n hx hb dX6_reverse_10 rfl (lv_at hl 0 rfl) ?_
  refine gf_X6_46 hC hH hv6.1 dX6_reverse_11 ?_
  refine lv_iconst (v := 1) hx hb dX6_reverse_14 (by decide) ?_
  refine lv_isub hx hb dX6_reverse_15 ?_
  refine lv_istore (lv' := [(4, .int ((sj_I w5 9 r4) - 1)), (3, .ref r4), (0, .ref self), (1, .int a1), (2, .int a2)]) hx hb dX6_reverse_16 hl (by decide) rfl (fun ls hl => ?_)
  refine lv_iconst (v := 0) hx hb dX6_reverse_18 (by decide) ?_
  refine lv_istore (lv' := [(5, .int 0), (4, .int ((sj_I w5 9 r4) - 1)), (3, .ref r4), (0, .ref self), (1, .int a1), (2, .int a2)]) hx hb dX6_reverse_19 hl (by decide) rfl (fun ls hl => ?_)
  refine wl_X6_reverse_21 hC hD hr hin (fun w_21 H locs ls hl hH hv13 => ?_) 64 ((sj_I w5 9 r4) - 1) 0 w5 _ _ _ (lv_sub hl [2, 1, 0] rfl) hH hv6.2
  refine lv_aload_n hx hb dX6_reverse_69 rfl (lv_at hl 0 rfl) ?_
  refine gf_X6_46 hC hH hv13.1 dX6_reverse_70 ?_
  exact sj_retI hC hD.2 hH hr rfl hv13.2 ⟨(Nat.le_of_ble_eq_true rfl), (Nat.le_of_ble_eq_true rfl)⟩ dX6_reverse_73
section SJL_X6_reverse
variable {p : Program} {l : Launch} {e : Env} {R : Room} {s : State} {m : MethodId} {args : Array Value} {below : List Frame} {meth : Method} {c : Code} {H : Heap} {locs : List Loc} {cells slots : Nat} {Q : State → Prop} {cc : ByteArray} {pc : Nat} {ls : Array Slot} {rest : List Value} {G : sj_G} {nL : Nat} {w : sj_W}
theorem cx_L_38 {QX : String → sj_W → Prop} {b : Nat} {b0 : Int32} {b1 : Int32} {Qi : Int32 → sj_W → Prop} (hC : sj_C G p l s m args c cc RL nL) (hH : sj_H G s w H locs) (hv : vc_X6_reverse b b0 b1 w Qi QX) (hT : sj_T w b = 5) (hR : rm_X6_reverse.frames + 1 ≤ R.frames ∧ 8 + (8 + 11) + rm_X6_reverse.locals ≤ R.locals) (hf : cells + 2 ≤ R.cells ∧ slots + 12 ≤ R.slots) (hls : ls.size = nL) (hW : (rest.map fun v => v.category).sum ≤ 8) (hdg : decode cc pc = .ok (.invokevirtual 38, 3)) (kx : ∀ (E : String) (ce : Cell) (q9 : Addr) (w1 : sj_W) (H1 : Heap) (locs1 : List Loc), sj_H G s w1 H1 locs1 → QX E w1 → H1[q9]? = some ce → ce.vm = .none → s.vm.findClass E = some ce.cls → vx_W p l e R s m args below meth c H1 locs1 (cells + 2) (slots + 12) Q (F0 m pc ls rest) q9) (kk : ∀ (r : Int32) (w1 : sj_W) (H : Heap) (locs : List Loc), sj_H G s w1 H locs → Qi r w1 → W p l e R s m args below meth c H locs (cells + 2) (slots + 12) Q (F0 m (pc + 3) ls (.int r :: rest))) : W p l e R s m args below meth c H locs cells slots Q (F0 m pc ls (.int b1 :: .int b0 :: .ref b :: rest)) :=
  sj_xI hH (sj_runV (n := 2) hC hH (As := [.int b0, .int b1]) (wk_X6_reverse G l hC.2.2.2.2.2.2 b b0 b1 w Qi QX hv) (ci := 4) rfl (by decide) hT mb_299 mb_300 mb_301 mb_1 mb_302 (by decide +kernel) hR hf rfl hls hW hdg) kx kk
end SJL_X6_reverse
abbrev rm_X6_root : Room := { frames := 8, cells := 2, slots := 12, locals := 124 }
def vb_X6_root_13 (f3 : Nat) (Q : Int32 → sj_W → Prop) (QX : String → sj_W → Prop) (E : sj_W → Prop) (K : Int32 → sj_W → Prop) (v4 : Int32) (w : sj_W) : Prop := sj_T w f3 = 2 ∧ (((sj_I w 9 f3) ≤ v4 → E w) ∧ (¬ (sj_I w 9 f3) ≤ v4 → sj_T w f3 = 2 ∧ ¬ (v4 : Int32) = 0 ∧ ((¬ ((sj_I w 9 f3) - (sj_I w 9 f3) / v4 * v4) = 0 → K (v4 + 1) w) ∧ (((sj_I w 9 f3) - (sj_I w 9 f3) / v4 * v4) = 0 → sj_T w f3 = 2 ∧ vc_X1_hasPeriod f3 v4 w (fun r11 w12 => ((r11 = 0 → K (v4 + 1) w12) ∧ (¬ r11 = 0 → Q v4 w12)))))))
def vc_X6_root (self : Nat) (a1 : Int32) (a2 : Int32) (w : sj_W) (Q : Int32 → sj_W → Prop) (QX : String → sj_W → Prop) : Prop := vc_X6_kindOf a1 w (fun r1 w2 => sj_T w2 self = 5 ∧ vc_X6_rowOf self r1 a2 w2 (fun r4 w5 => sj_lp1 (vb_X6_root_13 r4 Q QX (fun w_13 => sj_T w_13 r4 = 2 ∧ Q (sj_I w_13 9 r4) w_13)) 64 1 w5) QX) QX
set_option maxHeartbeats 4000000 in
set_option maxRecDepth 100000 in
theorem wl_X6_root_13 {p : Program} {l : Launch} {e : Env} {s : State} {m : MethodId} {args : Array Value} {below : List Frame} {meth : Method} {c : Code} {G : sj_G} {f3 : Nat} {Q : Int32 → sj_W → Prop} {QX : String → sj_W → Prop} {E : sj_W → Prop} (hC : sj_C G p l s m args c cX6_root RX6 5) (hD : sj_D meth c) (hr : meth.sig.returnType = (some .int)) (hin : meth.name = "root") (hE : ∀ (w : sj_W) (H : Heap) (locs : List Loc) (ls : Array Slot), lv_has ls 5 [(3, .ref f3)] → sj_H G s w H locs → E w → W p l e rm_X6_root s m args below meth c H locs 2 12 (sj_MQ G below (va_Qi Q (sj_B G) (sj_F G)) QX args s rm_X6_root) (F0 m 50 ls [])) : ∀ (n : Nat) (v4 : Int32) (w : sj_W) (H : Heap) (locs : List Loc) (ls : Array Slot), lv_has ls 5 [(3, .ref f3), (4, .int v4)] → sj_H G s w H locs → sj_lp1 (vb_X6_root_13 f3 Q QX E) n v4 w → W p l e rm_X6_root s m args below meth c H locs 2 12 (sj_MQ G below (va_Qi Q (sj_B G) (sj_F G)) QX args s rm_X6_root) (F0 m 13 ls []) := by
  have hx := hC.1
  have hb := hC.2.1
  intro n
  induction n with
  | zero =>
    intro v4 w H locs ls _ _ hv
    exact hv.elim
  | succ n ih =>
    intro v4 w H locs ls hl hH hv
    have hv : vb_X6_root_13 f3 Q QX E (sj_lp1 (vb_X6_root_13 f3 Q QX E) n) v4 w := hv
    have hc1 : rm_X6_root.cells = 2 := rfl
    have hc2 : rm_X6_root.slots = 12 := rfl
    refine lv_iload hx hb dX6_root_13 (lv_at hl 1 rfl) ?_
    refine lv_aload_n hx hb dX6_root_15 rfl (lv_at hl 0 rfl) ?_
    refine gf_X6_46 hC hH hv.1 dX6_root_16 ?_
    refine lv_icmp_ge (tgt := 50) hx hb dX6_root_19 (by decide) (fun hc => ?_) (fun hc => ?_)
    · have hv7 := hv.2.1 hc
      exact hE  w _ _ _ (lv_sub hl [0] rfl) hH hv7
    · have hv8 := hv.2.2 hc
      refine lv_aload_n hx hb dX6_root_22 rfl (lv_at hl 0 rfl) ?_
      refine gf_X6_46 hC hH hv8.1 dX6_root_23 ?_
      refine lv_iload hx hb dX6_root_26 (lv_at hl 1 rfl) ?_
      refine lv_irem hx hb dX6_root_28 hv8.2.1 ?_
      refine lv_if_ne (tgt := 44) hx hb dX6_root_29 (by decide) (fun hc => ?_) (fun hc => ?_)
      · have hv9 := hv8.2.2.1 hc
        refine lv_iinc (v := (v4 + 1)) (lv' := [(4, .int (v4 + 1)), (3, .ref f3)]) hx hb dX6_root_44 hl (k := 1) rfl rfl (by decide) rfl (fun ls hl => ?_)
        refine lv_goto (tgt := 13) hx hb dX6_root_47 (by decide) ?_
        exact ih (v4 + 1) w _ _ _ (lv_sub hl [1, 0] rfl) hH hv9
      · have hv10 := hv8.2.2.2 hc
        refine lv_aload_n hx hb dX6_root_32 rfl (lv_at hl 0 rfl) ?_
        refine lv_iload hx hb dX6_root_33 (lv_at hl 1 rfl) ?_
        refine cl_X6_172 hC hD hH hv10.2 hv10.1 ⟨Nat.le_of_ble_eq_true rfl, Nat.le_of_ble_eq_true rfl⟩ ⟨(Nat.le_of_ble_eq_true rfl), (Nat.le_of_ble_eq_true rfl)⟩ ⟨(Nat.le_of_ble_eq_true rfl), (Nat.le_of_ble_eq_true rfl)⟩ hl.1 (Nat.le_of_ble_eq_true rfl) dX6_root_35 (fun r11 w12 H locs hH hv13 => ?_)
        refine lv_if_eq (tgt := 44) hx hb dX6_root_38 (by decide) (fun hc => ?_) (fun hc => ?_)
        · have hv14 := hv13.1 hc
          refine lv_iinc (v := (v4 + 1)) (lv' := [(4, .int (v4 + 1)), (3, .ref f3)]) hx hb dX6_root_44 hl (k := 1) rfl rfl (by decide) rfl (fun ls hl => ?_)
          refine lv_goto (tgt := 13) hx hb dX6_root_47 (by decide) ?_
          exact ih (v4 + 1) w12 _ _ _ (lv_sub hl [1, 0] rfl) hH hv14
        · have hv15 := hv13.2 hc
          refine lv_iload hx hb dX6_root_41 (lv_at hl 1 rfl) ?_
          exact sj_retI hC hD.2 hH hr rfl hv15 ⟨(Nat.le_of_ble_eq_true rfl), (Nat.le_of_ble_eq_true rfl)⟩ dX6_root_43
set_option maxHeartbeats 4000000 in
set_option maxRecDepth 100000 in
theorem wk_X6_root (G : sj_G) (l : Launch) (hlt : l.stackTraces = false) (self : Nat) (a1 : Int32) (a2 : Int32) (w : sj_W) (Q : Int32 → sj_W → Prop) (QX : String → sj_W → Prop) (hv : vc_X6_root self a1 a2 w Q QX) : sj_MI G l yX6_root (sj_ws yX6_root cX6_root 5 (some .int)) rm_X6_root [.ref self, .int a1, .int a2] w Q QX := by
  refine sj_of (by decide +kernel) (Nat.le_of_ble_eq_true rfl) hlt ?_
  intro p e s m args below meth c ls hC hD hr hin hH hl
  have hx := hC.1
  have hb := hC.2.1
  have hl : lv_has ls 5 [(0, .ref self), (1, .int a1), (2, .int a2)] := hl
  refine lv_aload_n hx hb dX6_root_0 rfl (lv_at hl 0 rfl) ?_
  refine lv_iload_n hx hb dX6_root_1 rfl (lv_at hl 1 rfl) ?_
  refine cl_X6_34 hC hD hH hv ⟨Nat.le_of_ble_eq_true rfl, Nat.le_of_ble_eq_true rfl⟩ ⟨(Nat.le_of_ble_eq_true rfl), (Nat.le_of_ble_eq_true rfl)⟩ ⟨(Nat.le_of_ble_eq_true rfl), (Nat.le_of_ble_eq_true rfl)⟩ hl.1 (Nat.le_of_ble_eq_true rfl) dX6_root_2 (fun r1 w2 H locs hH hv3 => ?_)
  refine lv_iload_n hx hb dX6_root_5 rfl (lv_at hl 2 rfl) ?_
  refine cl_X6_42 hC hD hH hv3.2 hv3.1 ⟨Nat.le_of_ble_eq_true rfl, Nat.le_of_ble_eq_true rfl⟩ ⟨(Nat.le_of_ble_eq_true rfl), (Nat.le_of_ble_eq_true rfl)⟩ ⟨(Nat.le_of_ble_eq_true rfl), (Nat.le_of_ble_eq_true rfl)⟩ hl.1 (Nat.le_of_ble_eq_true rfl) dX6_root_6 (fun r4 w5 H locs hH hv6 => ?_)
  refine lv_astore_n (lv' := [(3, .ref r4), (0, .ref self), (1, .int a1), (2, .int a2)]) hx hb dX6_root_9 rfl hl (by decide) rfl (fun ls hl => ?_)
  refine lv_iconst (v := 1) hx hb dX6_root_10 (by decide) ?_
  refine lv_istore (lv' := [(4, .int 1), (3, .ref r4), (0, .ref self), (1, .int a1), (2, .int a2)]) hx hb dX6_root_11 hl (by decide) rfl (fun ls hl => ?_)
  refine wl_X6_root_13 hC hD hr hin (fun w_13 H locs ls hl hH hv16 => ?_) 64 1 w5 _ _ _ (lv_sub hl [1, 0] rfl) hH hv6
  refine lv_aload_n hx hb dX6_root_50 rfl (lv_at hl 0 rfl) ?_
  refine gf_X6_46 hC hH hv16.1 dX6_root_51 ?_
  exact sj_retI hC hD.2 hH hr rfl hv16.2 ⟨(Nat.le_of_ble_eq_true rfl), (Nat.le_of_ble_eq_true rfl)⟩ dX6_root_54
section SJL_X6_root
variable {p : Program} {l : Launch} {e : Env} {R : Room} {s : State} {m : MethodId} {args : Array Value} {below : List Frame} {meth : Method} {c : Code} {H : Heap} {locs : List Loc} {cells slots : Nat} {Q : State → Prop} {cc : ByteArray} {pc : Nat} {ls : Array Slot} {rest : List Value} {G : sj_G} {nL : Nat} {w : sj_W}
theorem cx_L_106 {QX : String → sj_W → Prop} {b : Nat} {b0 : Int32} {b1 : Int32} {Qi : Int32 → sj_W → Prop} (hC : sj_C G p l s m args c cc RL nL) (hH : sj_H G s w H locs) (hv : vc_X6_root b b0 b1 w Qi QX) (hT : sj_T w b = 5) (hR : rm_X6_root.frames + 1 ≤ R.frames ∧ 8 + (5 + 11) + rm_X6_root.locals ≤ R.locals) (hf : cells + 2 ≤ R.cells ∧ slots + 12 ≤ R.slots) (hls : ls.size = nL) (hW : (rest.map fun v => v.category).sum ≤ 8) (hdg : decode cc pc = .ok (.invokevirtual 106, 3)) (kx : ∀ (E : String) (ce : Cell) (q9 : Addr) (w1 : sj_W) (H1 : Heap) (locs1 : List Loc), sj_H G s w1 H1 locs1 → QX E w1 → H1[q9]? = some ce → ce.vm = .none → s.vm.findClass E = some ce.cls → vx_W p l e R s m args below meth c H1 locs1 (cells + 2) (slots + 12) Q (F0 m pc ls rest) q9) (kk : ∀ (r : Int32) (w1 : sj_W) (H : Heap) (locs : List Loc), sj_H G s w1 H locs → Qi r w1 → W p l e R s m args below meth c H locs (cells + 2) (slots + 12) Q (F0 m (pc + 3) ls (.int r :: rest))) : W p l e R s m args below meth c H locs cells slots Q (F0 m pc ls (.int b1 :: .int b0 :: .ref b :: rest)) :=
  sj_xI hH (sj_runV (n := 2) hC hH (As := [.int b0, .int b1]) (wk_X6_root G l hC.2.2.2.2.2.2 b b0 b1 w Qi QX hv) (ci := 4) rfl (by decide) hT mb_552 mb_553 mb_554 mb_1 mb_555 (by decide +kernel) hR hf rfl hls hW hdg) kx kk
end SJL_X6_root
abbrev rm_X1_atRound : Room := { frames := 0, cells := 0, slots := 0, locals := 0 }
def vc_X1_atRound (self : Nat) (a1 : Int32) (w : sj_W) (Q : Int64 → sj_W → Prop) : Prop := sj_T w self = 2 ∧ sj_A w 8 self ≠ 0 ∧ sj_T w self = 2 ∧ (((sj_I w 9 self) ≤ a1 → sj_T w self = 2 ∧ sj_T w (sj_A w 8 self) = 8 ∧ vp_in (a1 - (sj_I w 9 self)) (sj_N w (sj_A w 8 self)) ∧ Q (sj_l w (sj_A w 8 self) (a1 - (sj_I w 9 self)).toNatClampNeg) w) ∧ (¬ (sj_I w 9 self) ≤ a1 → sj_T w (sj_A w 8 self) = 8 ∧ vp_in a1 (sj_N w (sj_A w 8 self)) ∧ Q (sj_l w (sj_A w 8 self) a1.toNatClampNeg) w))
set_option maxHeartbeats 4000000 in
set_option maxRecDepth 100000 in
theorem wk_X1_atRound (G : sj_G) (l : Launch) (hlt : l.stackTraces = false) (self : Nat) (a1 : Int32) (w : sj_W) (Q : Int64 → sj_W → Prop) (QX : String → sj_W → Prop) (hv : vc_X1_atRound self a1 w Q) : sj_ML G l yX1_atRound (sj_ws yX1_atRound cX1_atRound 2 (some .long)) rm_X1_atRound [.ref self, .int a1] w Q QX := by
  refine sj_of (by decide +kernel) (Nat.le_of_ble_eq_true rfl) hlt ?_
  intro p e s m args below meth c ls hC hD hr hin hH hl
  have hx := hC.1
  have hb := hC.2.1
  have hl : lv_has ls 2 [(0, .ref self), (1, .int a1)] := hl
  refine lv_aload_n hx hb dX1_atRound_0 rfl (lv_at hl 0 rfl) ?_
  refine gf_X1_9 hC hH hv.1 hv.2.1 dX1_atRound_1 ?_
  refine lv_iload_n hx hb dX1_atRound_4 rfl (lv_at hl 1 rfl) ?_
  refine lv_aload_n hx hb dX1_atRound_5 rfl (lv_at hl 0 rfl) ?_
  refine gf_X1_15 hC hH hv.2.2.1 dX1_atRound_6 ?_
  refine lv_icmp_ge (tgt := 16) hx hb dX1_atRound_9 (by decide) (fun hc => ?_) (fun hc => ?_)
  · have hv1 := hv.2.2.2.1 hc
    refine lv_iload_n hx hb dX1_atRound_16 rfl (lv_at hl 1 rfl) ?_
    refine lv_aload_n hx hb dX1_atRound_17 rfl (lv_at hl 0 rfl) ?_
    refine gf_X1_15 hC hH hv1.1 dX1_atRound_18 ?_
    refine lv_isub hx hb dX1_atRound_21 ?_
    refine sj_lald hC hH hv1.2.1 hv1.2.2.1 dX1_atRound_22 ?_
    exact sj_retL hC hD.2 hH hr hv1.2.2.2 ⟨(Nat.le_of_ble_eq_true rfl), (Nat.le_of_ble_eq_true rfl)⟩ dX1_atRound_23
  · have hv2 := hv.2.2.2.2 hc
    refine lv_iload_n hx hb dX1_atRound_12 rfl (lv_at hl 1 rfl) ?_
    refine lv_goto (tgt := 22) hx hb dX1_atRound_13 (by decide) ?_
    refine sj_lald hC hH hv2.1 hv2.2.1 dX1_atRound_22 ?_
    exact sj_retL hC hD.2 hH hr hv2.2.2 ⟨(Nat.le_of_ble_eq_true rfl), (Nat.le_of_ble_eq_true rfl)⟩ dX1_atRound_23
section SJL_X1_atRound
variable {p : Program} {l : Launch} {e : Env} {R : Room} {s : State} {m : MethodId} {args : Array Value} {below : List Frame} {meth : Method} {c : Code} {H : Heap} {locs : List Loc} {cells slots : Nat} {Q : State → Prop} {cc : ByteArray} {pc : Nat} {ls : Array Slot} {rest : List Value} {G : sj_G} {nL : Nat} {w : sj_W}
theorem cl_X1_19 {rmM : Room} {QcM : Array Value → State → Outcome → State → Prop} {QX : String → sj_W → Prop} {b : Nat} {b0 : Int32} {Qi : Int64 → sj_W → Prop} (hC : sj_C G p l s m args c cc RX1 nL) (hD : sj_D meth c) (hH : sj_H G s w H locs) (hv : vc_X1_atRound b b0 w Qi) (hT : sj_T w b = 2) (hR : rm_X1_atRound.frames + 1 ≤ R.frames ∧ 8 + (2 + 11) + rm_X1_atRound.locals ≤ R.locals) (hf : cells + 0 ≤ R.cells ∧ slots + 0 ≤ R.slots) (hfM : cells + 0 ≤ rmM.cells ∧ slots + 0 ≤ rmM.slots) (hls : ls.size = nL) (hW : (rest.map fun v => v.category).sum ≤ 8) (hdg : decode cc pc = .ok (.invokevirtual 19, 3)) (kk : ∀ (r : Int64) (w1 : sj_W) (H : Heap) (locs : List Loc), sj_H G s w1 H locs → Qi r w1 → W p l e R s m args below meth c H locs (cells + 0) (slots + 0) (sj_MQ G below QcM QX args s rmM) (F0 m (pc + 3) ls (.long r :: rest))) : W p l e R s m args below meth c H locs cells slots (sj_MQ G below QcM QX args s rmM) (F0 m pc ls (.int b0 :: .ref b :: rest)) :=
  sj_cL hD hH (sj_runV (n := 1) hC hH (As := [.int b0]) (wk_X1_atRound G l hC.2.2.2.2.2.2 b b0 w Qi QX hv) (ci := 1) rfl (by decide) hT mb_567 mb_569 mb_s17 mb_3 mb_570 (by decide +kernel) hR hf rfl hls hW hdg) hfM kk
end SJL_X1_atRound
abbrev rm_X1_compareRotations : Room := { frames := 1, cells := 0, slots := 0, locals := 28 }
def vb_X1_compareRotations_3 (f0 : Nat) (f1 : Int32) (f2 : Int32) (f3 : Int32) (Q : Int32 → sj_W → Prop) (E : sj_W → Prop) (K : Int32 → sj_W → Prop) (v4 : Int32) (w : sj_W) : Prop := sj_T w f0 = 2 ∧ (((sj_I w 9 f0) ≤ v4 → E w) ∧ (¬ (sj_I w 9 f0) ≤ v4 → sj_T w f0 = 2 ∧ vc_X1_atRound f0 (f1 + v4) w (fun r3 w4 => sj_T w4 f0 = 2 ∧ vc_X1_atRound f0 (f2 + v4) w4 (fun r6 w7 => vc_X6_compareNumbers r3 r6 f3 w7 (fun r9 w10 => ((r9 = 0 → K (v4 + 1) w10) ∧ (¬ r9 = 0 → Q r9 w10)))))))
def vc_X1_compareRotations (self : Nat) (a1 : Int32) (a2 : Int32) (a3 : Int32) (w : sj_W) (Q : Int32 → sj_W → Prop) : Prop := sj_lp1 (vb_X1_compareRotations_3 self a1 a2 a3 Q (fun w_3 => Q 0 w_3)) 64 0 w
set_option maxHeartbeats 4000000 in
set_option maxRecDepth 100000 in
theorem wl_X1_compareRotations_3 {p : Program} {l : Launch} {e : Env} {s : State} {m : MethodId} {args : Array Value} {below : List Frame} {meth : Method} {c : Code} {G : sj_G} {f0 : Nat} {f1 : Int32} {f2 : Int32} {f3 : Int32} {Q : Int32 → sj_W → Prop} {QX : String → sj_W → Prop} {E : sj_W → Prop} (hC : sj_C G p l s m args c cX1_compareRotations RX1 6) (hD : sj_D meth c) (hr : meth.sig.returnType = (some .int)) (hin : meth.name = "compareRotations") (hE : ∀ (w : sj_W) (H : Heap) (locs : List Loc) (ls : Array Slot), lv_has ls 6 [] → sj_H G s w H locs → E w → W p l e rm_X1_compareRotations s m args below meth c H locs 0 0 (sj_MQ G below (va_Qi Q (sj_B G) (sj_F G)) QX args s rm_X1_compareRotations) (F0 m 48 ls [])) : ∀ (n : Nat) (v4 : Int32) (w : sj_W) (H : Heap) (locs : List Loc) (ls : Array Slot), lv_has ls 6 [(0, .ref f0), (1, .int f1), (2, .int f2), (3, .int f3), (4, .int v4)] → sj_H G s w H locs → sj_lp1 (vb_X1_compareRotations_3 f0 f1 f2 f3 Q E) n v4 w → W p l e rm_X1_compareRotations s m args below meth c H locs 0 0 (sj_MQ G below (va_Qi Q (sj_B G) (sj_F G)) QX args s rm_X1_compareRotations) (F0 m 3 ls []) := by
  have hx := hC.1
  have hb := hC.2.1
  intro n
  induction n with
  | zero =>
    intro v4 w H locs ls _ _ hv
    exact hv.elim
  | succ n ih =>
    intro v4 w H locs ls hl hH hv
    have hv : vb_X1_compareRotations_3 f0 f1 f2 f3 Q E (sj_lp1 (vb_X1_compareRotations_3 f0 f1 f2 f3 Q E) n) v4 w := hv
    have hc1 : rm_X1_compareRotations.cells = 0 := rfl
    have hc2 : rm_X1_compareRotations.slots = 0 := rfl
    refine lv_iload hx hb dX1_compareRotations_3 (lv_at hl 4 rfl) ?_
    refine lv_aload_n hx hb dX1_compareRotations_5 rfl (lv_at hl 0 rfl) ?_
    refine gf_X1_15 hC hH hv.1 dX1_compareRotations_6 ?_
    refine lv_icmp_ge (tgt := 48) hx hb dX1_compareRotations_9 (by decide) (fun hc => ?_) (fun hc => ?_)
    · have hv1 := hv.2.1 hc
      exact hE  w _ _ _ (lv_sub hl [] rfl) hH hv1
    · have hv2 := hv.2.2 hc
      refine lv_aload_n hx hb dX1_compareRotations_12 rfl (lv_at hl 0 rfl) ?_
      refine lv_iload_n hx hb dX1_compareRotations_13 rfl (lv_at hl 1 rfl) ?_
      refine lv_iload hx hb dX1_compareRotations_14 (lv_at hl 4 rfl) ?_
      refine lv_iadd hx hb dX1_compareRotations_16 ?_
      refine cl_X1_19 hC hD hH hv2.2 hv2.1 ⟨Nat.le_of_ble_eq_true rfl, Nat.le_of_ble_eq_true rfl⟩ ⟨(Nat.le_of_ble_eq_true rfl), (Nat.le_of_ble_eq_true rfl)⟩ ⟨(Nat.le_of_ble_eq_true rfl), (Nat.le_of_ble_eq_true rfl)⟩ hl.1 (Nat.le_of_ble_eq_true rfl) dX1_compareRotations_17 (fun r3 w4 H locs hH hv5 => ?_)
      refine lv_aload_n hx hb dX1_compareRotations_20 rfl (lv_at hl 0 rfl) ?_
      refine lv_iload_n hx hb dX1_compareRotations_21 rfl (lv_at hl 2 rfl) ?_
      refine lv_iload hx hb dX1_compareRotations_22 (lv_at hl 4 rfl) ?_
      refine lv_iadd hx hb dX1_compareRotations_24 ?_
      refine cl_X1_19 hC hD hH hv5.2 hv5.1 ⟨Nat.le_of_ble_eq_true rfl, Nat.le_of_ble_eq_true rfl⟩ ⟨(Nat.le_of_ble_eq_true rfl), (Nat.le_of_ble_eq_true rfl)⟩ ⟨(Nat.le_of_ble_eq_true rfl), (Nat.le_of_ble_eq_true rfl)⟩ hl.1 (Nat.le_of_ble_eq_true rfl) dX1_compareRotations_25 (fun r6 w7 H locs hH hv8 => ?_)
      refine lv_iload_n hx hb dX1_compareRotations_28 rfl (lv_at hl 3 rfl) ?_
      refine cl_X1_23 hC hD hH hv8 ⟨Nat.le_of_ble_eq_true rfl, Nat.le_of_ble_eq_true rfl⟩ ⟨(Nat.le_of_ble_eq_true rfl), (Nat.le_of_ble_eq_true rfl)⟩ ⟨(Nat.le_of_ble_eq_true rfl), (Nat.le_of_ble_eq_true rfl)⟩ hl.1 (Nat.le_of_ble_eq_true rfl) dX1_compareRotations_29 (fun r9 w10 H locs hH hv11 => ?_)
      refine lv_istore (lv' := [(5, .int r9), (0, .ref f0), (1, .int f1), (2, .int f2), (3, .int f3), (4, .int v4)]) hx hb dX1_compareRotations_32 hl (by decide) rfl (fun ls hl => ?_)
      refine lv_iload hx hb dX1_compareRotations_34 (lv_at hl 0 rfl) ?_
      refine lv_if_eq (tgt := 42) hx hb dX1_compareRotations_36 (by decide) (fun hc => ?_) (fun hc => ?_)
      · have hv12 := hv11.1 hc
        refine lv_iinc (v := (v4 + 1)) (lv' := [(4, .int (v4 + 1)), (5, .int r9), (0, .ref f0), (1, .int f1), (2, .int f2), (3, .int f3)]) hx hb dX1_compareRotations_42 hl (k := 5) rfl rfl (by decide) rfl (fun ls hl => ?_)
        refine lv_goto (tgt := 3) hx hb dX1_compareRotations_45 (by decide) ?_
        exact ih (v4 + 1) w10 _ _ _ (lv_sub hl [2, 3, 4, 5, 0] rfl) hH hv12
      · have hv13 := hv11.2 hc
        refine lv_iload hx hb dX1_compareRotations_39 (lv_at hl 0 rfl) ?_
        exact sj_retI hC hD.2 hH hr rfl hv13 ⟨(Nat.le_of_ble_eq_true rfl), (Nat.le_of_ble_eq_true rfl)⟩ dX1_compareRotations_41
set_option maxHeartbeats 4000000 in
set_option maxRecDepth 100000 in
theorem wk_X1_compareRotations (G : sj_G) (l : Launch) (hlt : l.stackTraces = false) (self : Nat) (a1 : Int32) (a2 : Int32) (a3 : Int32) (w : sj_W) (Q : Int32 → sj_W → Prop) (QX : String → sj_W → Prop) (hv : vc_X1_compareRotations self a1 a2 a3 w Q) : sj_MI G l yX1_compareRotations (sj_ws yX1_compareRotations cX1_compareRotations 6 (some .int)) rm_X1_compareRotations [.ref self, .int a1, .int a2, .int a3] w Q QX := by
  refine sj_of (by decide +kernel) (Nat.le_of_ble_eq_true rfl) hlt ?_
  intro p e s m args below meth c ls hC hD hr hin hH hl
  have hx := hC.1
  have hb := hC.2.1
  have hl : lv_has ls 6 [(0, .ref self), (1, .int a1), (2, .int a2), (3, .int a3)] := hl
  refine lv_iconst (v := 0) hx hb dX1_compareRotations_0 (by decide) ?_
  refine lv_istore (lv' := [(4, .int 0), (0, .ref self), (1, .int a1), (2, .int a2), (3, .int a3)]) hx hb dX1_compareRotations_1 hl (by decide) rfl (fun ls hl => ?_)
  refine wl_X1_compareRotations_3 hC hD hr hin (fun w_3 H locs ls hl hH hv14 => ?_) 64 0 w _ _ _ (lv_sub hl [1, 2, 3, 4, 0] rfl) hH hv
  refine lv_iconst (v := 0) hx hb dX1_compareRotations_48 (by decide) ?_
  exact sj_retI hC hD.2 hH hr rfl hv14 ⟨(Nat.le_of_ble_eq_true rfl), (Nat.le_of_ble_eq_true rfl)⟩ dX1_compareRotations_49
section SJL_X1_compareRotations
variable {p : Program} {l : Launch} {e : Env} {R : Room} {s : State} {m : MethodId} {args : Array Value} {below : List Frame} {meth : Method} {c : Code} {H : Heap} {locs : List Loc} {cells slots : Nat} {Q : State → Prop} {cc : ByteArray} {pc : Nat} {ls : Array Slot} {rest : List Value} {G : sj_G} {nL : Nat} {w : sj_W}
theorem cl_X6_176 {rmM : Room} {QcM : Array Value → State → Outcome → State → Prop} {QX : String → sj_W → Prop} {b : Nat} {b0 : Int32} {b1 : Int32} {b2 : Int32} {Qi : Int32 → sj_W → Prop} (hC : sj_C G p l s m args c cc RX6 nL) (hD : sj_D meth c) (hH : sj_H G s w H locs) (hv : vc_X1_compareRotations b b0 b1 b2 w Qi) (hT : sj_T w b = 2) (hR : rm_X1_compareRotations.frames + 1 ≤ R.frames ∧ 8 + (6 + 11) + rm_X1_compareRotations.locals ≤ R.locals) (hf : cells + 0 ≤ R.cells ∧ slots + 0 ≤ R.slots) (hfM : cells + 0 ≤ rmM.cells ∧ slots + 0 ≤ rmM.slots) (hls : ls.size = nL) (hW : (rest.map fun v => v.category).sum ≤ 8) (hdg : decode cc pc = .ok (.invokevirtual 176, 3)) (kk : ∀ (r : Int32) (w1 : sj_W) (H : Heap) (locs : List Loc), sj_H G s w1 H locs → Qi r w1 → W p l e R s m args below meth c H locs (cells + 0) (slots + 0) (sj_MQ G below QcM QX args s rmM) (F0 m (pc + 3) ls (.int r :: rest))) : W p l e R s m args below meth c H locs cells slots (sj_MQ G below QcM QX args s rmM) (F0 m pc ls (.int b2 :: .int b1 :: .int b0 :: .ref b :: rest)) :=
  sj_cI hD hH (sj_runVN (n := 3) hC hH (As := [.int b0, .int b1, .int b2]) (wk_X1_compareRotations G l hC.2.2.2.2.2.2 b b0 b1 b2 w Qi QX hv) (ci := 1) rfl (by decide) hT mb_563 mb_565 mb_s16 mb_3 mb_566 (by decide +kernel) hR hf rfl hls hW hdg) hfM kk
end SJL_X1_compareRotations
abbrev rm_X6_rotation : Room := { frames := 8, cells := 3, slots := 18, locals := 124 }
def vb_X6_rotation_37 (f5 : Int32) (f6 : Nat) (Q : Int32 → sj_W → Prop) (QX : String → sj_W → Prop) (E : Int32 → sj_W → Prop) (K : Int32 → Int32 → sj_W → Prop) (v7 : Int32) (v8 : Int32) (w : sj_W) : Prop := sj_T w f6 = 2 ∧ (((sj_I w 9 f6) ≤ v8 → E v7 w) ∧ (¬ (sj_I w 9 f6) ≤ v8 → sj_T w f6 = 2 ∧ vc_X1_compareRotations f6 v8 v7 f5 w (fun r13 w14 => ((0 ≤ r13 → K v7 (v8 + 1) w14) ∧ (¬ 0 ≤ r13 → K v8 (v8 + 1) w14)))))
def vc_X6_rotation (self : Nat) (a1 : Int32) (a2 : Int32) (a3 : Int32) (w : sj_W) (Q : Int32 → sj_W → Prop) (QX : String → sj_W → Prop) : Prop := vc_X6_kindOf a1 w (fun r1 w2 => vc_X6_isUnsigned a2 w2 (fun r4 w5 => sj_T w5 self = 5 ∧ vc_X6_rowOf self r1 a3 w5 (fun r7 w8 => sj_T w8 r7 = 2 ∧ ((¬ (sj_I w8 9 r7) = 0 → sj_lp2 (vb_X6_rotation_37 r4 r7 Q QX (fun z7_37 w_37 => Q z7_37 w_37)) 64 0 1 w8) ∧ ((sj_I w8 9 r7) = 0 → Q (-1) w8))) QX) QX) QX
set_option maxHeartbeats 4000000 in
set_option maxRecDepth 100000 in
theorem wl_X6_rotation_37 {p : Program} {l : Launch} {e : Env} {s : State} {m : MethodId} {args : Array Value} {below : List Frame} {meth : Method} {c : Code} {G : sj_G} {f5 : Int32} {f6 : Nat} {Q : Int32 → sj_W → Prop} {QX : String → sj_W → Prop} {E : Int32 → sj_W → Prop} (hC : sj_C G p l s m args c cX6_rotation RX6 9) (hD : sj_D meth c) (hr : meth.sig.returnType = (some .int)) (hin : meth.name = "rotation") (hE : ∀ (v7 : Int32) (w : sj_W) (H : Heap) (locs : List Loc) (ls : Array Slot), lv_has ls 9 [(7, .int v7)] → sj_H G s w H locs → E v7 w → W p l e rm_X6_rotation s m args below meth c H locs 3 18 (sj_MQ G below (va_Qi Q (sj_B G) (sj_F G)) QX args s rm_X6_rotation) (F0 m 71 ls [])) : ∀ (n : Nat) (v7 : Int32) (v8 : Int32) (w : sj_W) (H : Heap) (locs : List Loc) (ls : Array Slot), lv_has ls 9 [(5, .int f5), (6, .ref f6), (7, .int v7), (8, .int v8)] → sj_H G s w H locs → sj_lp2 (vb_X6_rotation_37 f5 f6 Q QX E) n v7 v8 w → W p l e rm_X6_rotation s m args below meth c H locs 3 18 (sj_MQ G below (va_Qi Q (sj_B G) (sj_F G)) QX args s rm_X6_rotation) (F0 m 37 ls []) := by
  have hx := hC.1
  have hb := hC.2.1
  intro n
  induction n with
  | zero =>
    intro v7 v8 w H locs ls _ _ hv
    exact hv.elim
  | succ n ih =>
    intro v7 v8 w H locs ls hl hH hv
    have hv : vb_X6_rotation_37 f5 f6 Q QX E (sj_lp2 (vb_X6_rotation_37 f5 f6 Q QX E) n) v7 v8 w := hv
    have hc1 : rm_X6_rotation.cells = 3 := rfl
    have hc2 : rm_X6_rotation.slots = 18 := rfl
    refine lv_iload hx hb dX6_rotation_37 (lv_at hl 3 rfl) ?_
    refine lv_aload hx hb dX6_rotation_39 (lv_at hl 1 rfl) ?_
    refine gf_X6_46 hC hH hv.1 dX6_rotation_41 ?_
    refine lv_icmp_ge (tgt := 71) hx hb dX6_rotation_44 (by decide) (fun hc => ?_) (fun hc => ?_)
    · have hv11 := hv.2.1 hc
      exact hE v7 w _ _ _ (lv_sub hl [2] rfl) hH hv11
    · have hv12 := hv.2.2 hc
      refine lv_aload hx hb dX6_rotation_47 (lv_at hl 1 rfl) ?_
      refine lv_iload hx hb dX6_rotation_49 (lv_at hl 3 rfl) ?_
      refine lv_iload hx hb dX6_rotation_51 (lv_at hl 2 rfl) ?_
      refine lv_iload hx hb dX6_rotation_53 (lv_at hl 0 rfl) ?_
      refine cl_X6_176 hC hD hH hv12.2 hv12.1 ⟨Nat.le_of_ble_eq_true rfl, Nat.le_of_ble_eq_true rfl⟩ ⟨(Nat.le_of_ble_eq_true rfl), (Nat.le_of_ble_eq_true rfl)⟩ ⟨(Nat.le_of_ble_eq_true rfl), (Nat.le_of_ble_eq_true rfl)⟩ hl.1 (Nat.le_of_ble_eq_true rfl) dX6_rotation_55 (fun r13 w14 H locs hH hv15 => ?_)
      refine lv_if_ge (tgt := 65) hx hb dX6_rotation_58 (by decide) (fun hc => ?_) (fun hc => ?_)
      · have hv16 := hv15.1 hc
        refine lv_iinc (v := (v8 + 1)) (lv' := [(8, .int (v8 + 1)), (5, .int f5), (6, .ref f6), (7, .int v7)]) hx hb dX6_rotation_65 hl (k := 3) rfl rfl (by decide) rfl (fun ls hl => ?_)
        refine lv_goto (tgt := 37) hx hb dX6_rotation_68 (by decide) ?_
        exact ih v7 (v8 + 1) w14 _ _ _ (lv_sub hl [1, 2, 3, 0] rfl) hH hv16
      · have hv17 := hv15.2 hc
        refine lv_iload hx hb dX6_rotation_61 (lv_at hl 3 rfl) ?_
        refine lv_istore (lv' := [(7, .int v8), (5, .int f5), (6, .ref f6), (8, .int v8)]) hx hb dX6_rotation_63 hl (by decide) rfl (fun ls hl => ?_)
        refine lv_iinc (v := (v8 + 1)) (lv' := [(8, .int (v8 + 1)), (7, .int v8), (5, .int f5), (6, .ref f6)]) hx hb dX6_rotation_65 hl (k := 3) rfl rfl (by decide) rfl (fun ls hl => ?_)
        refine lv_goto (tgt := 37) hx hb dX6_rotation_68 (by decide) ?_
        exact ih v8 (v8 + 1) w14 _ _ _ (lv_sub hl [2, 3, 1, 0] rfl) hH hv17
set_option maxHeartbeats 4000000 in
set_option maxRecDepth 100000 in
theorem wk_X6_rotation (G : sj_G) (l : Launch) (hlt : l.stackTraces = false) (self : Nat) (a1 : Int32) (a2 : Int32) (a3 : Int32) (w : sj_W) (Q : Int32 → sj_W → Prop) (QX : String → sj_W → Prop) (hv : vc_X6_rotation self a1 a2 a3 w Q QX) : sj_MI G l yX6_rotation (sj_ws yX6_rotation cX6_rotation 9 (some .int)) rm_X6_rotation [.ref self, .int a1, .int a2, .int a3] w Q QX := by
  refine sj_of (by decide +kernel) (Nat.le_of_ble_eq_true rfl) hlt ?_
  intro p e s m args below meth c ls hC hD hr hin hH hl
  have hx := hC.1
  have hb := hC.2.1
  have hl : lv_has ls 9 [(0, .ref self), (1, .int a1), (2, .int a2), (3, .int a3)] := hl
  refine lv_iload_n hx hb dX6_rotation_0 rfl (lv_at hl 1 rfl) ?_
  refine cl_X6_34 hC hD hH hv ⟨Nat.le_of_ble_eq_true rfl, Nat.le_of_ble_eq_true rfl⟩ ⟨(Nat.le_of_ble_eq_true rfl), (Nat.le_of_ble_eq_true rfl)⟩ ⟨(Nat.le_of_ble_eq_true rfl), (Nat.le_of_ble_eq_true rfl)⟩ hl.1 (Nat.le_of_ble_eq_true rfl) dX6_rotation_1 (fun r1 w2 H locs hH hv3 => ?_)
  refine lv_istore (lv' := [(4, .int r1), (0, .ref self), (1, .int a1), (2, .int a2), (3, .int a3)]) hx hb dX6_rotation_4 hl (by decide) rfl (fun ls hl => ?_)
  refine lv_iload_n hx hb dX6_rotation_6 rfl (lv_at hl 3 rfl) ?_
  refine cl_X6_133 hC hD hH hv3 ⟨Nat.le_of_ble_eq_true rfl, Nat.le_of_ble_eq_true rfl⟩ ⟨(Nat.le_of_ble_eq_true rfl), (Nat.le_of_ble_eq_true rfl)⟩ ⟨(Nat.le_of_ble_eq_true rfl), (Nat.le_of_ble_eq_true rfl)⟩ hl.1 (Nat.le_of_ble_eq_true rfl) dX6_rotation_7 (fun r4 w5 H locs hH hv6 => ?_)
  refine lv_istore (lv' := [(5, .int r4), (4, .int r1), (0, .ref self), (1, .int a1), (2, .int a2), (3, .int a3)]) hx hb dX6_rotation_10 hl (by decide) rfl (fun ls hl => ?_)
  refine lv_aload_n hx hb dX6_rotation_12 rfl (lv_at hl 2 rfl) ?_
  refine lv_iload hx hb dX6_rotation_13 (lv_at hl 1 rfl) ?_
  refine lv_iload_n hx hb dX6_rotation_15 rfl (lv_at hl 5 rfl) ?_
  refine cl_X6_42 hC hD hH hv6.2 hv6.1 ⟨Nat.le_of_ble_eq_true rfl, Nat.le_of_ble_eq_true rfl⟩ ⟨(Nat.le_of_ble_eq_true rfl), (Nat.le_of_ble_eq_true rfl)⟩ ⟨(Nat.le_of_ble_eq_true rfl), (Nat.le_of_ble_eq_true rfl)⟩ hl.1 (Nat.le_of_ble_eq_true rfl) dX6_rotation_16 (fun r7 w8 H locs hH hv9 => ?_)
  refine lv_astore (lv' := [(6, .ref r7), (5, .int r4), (4, .int r1), (0, .ref self), (1, .int a1), (2, .int a2), (3, .int a3)]) hx hb dX6_rotation_19 hl (by decide) rfl (fun ls hl => ?_)
  refine lv_aload hx hb dX6_rotation_21 (lv_at hl 0 rfl) ?_
  refine gf_X6_46 hC hH hv9.1 dX6_rotation_23 ?_
  refine lv_if_ne (tgt := 31) hx hb dX6_rotation_26 (by decide) (fun hc => ?_) (fun hc => ?_)
  · have hv10 := hv9.2.1 hc
    refine lv_iconst (v := 0) hx hb dX6_rotation_31 (by decide) ?_
    refine lv_istore (lv' := [(7, .int 0), (6, .ref r7), (5, .int r4), (4, .int r1), (0, .ref self), (1, .int a1), (2, .int a2), (3, .int a3)]) hx hb dX6_rotation_32 hl (by decide) rfl (fun ls hl => ?_)
    refine lv_iconst (v := 1) hx hb dX6_rotation_34 (by decide) ?_
    refine lv_istore (lv' := [(8, .int 1), (7, .int 0), (6, .ref r7), (5, .int r4), (4, .int r1), (0, .ref self), (1, .int a1), (2, .int a2), (3, .int a3)]) hx hb dX6_rotation_35 hl (by decide) rfl (fun ls hl => ?_)
    refine wl_X6_rotation_37 hC hD hr hin (fun z7_37 w_37 H locs ls hl hH hv18 => ?_) 64 0 1 w8 _ _ _ (lv_sub hl [3, 2, 1, 0] rfl) hH hv10
    refine lv_iload hx hb dX6_rotation_71 (lv_at hl 0 rfl) ?_
    exact sj_retI hC hD.2 hH hr rfl hv18 ⟨(Nat.le_of_ble_eq_true rfl), (Nat.le_of_ble_eq_true rfl)⟩ dX6_rotation_73
  · have hv19 := hv9.2.2 hc
    refine lv_iconst (v := (-1)) hx hb dX6_rotation_29 (by decide) ?_
    exact sj_retI hC hD.2 hH hr rfl hv19 ⟨(Nat.le_of_ble_eq_true rfl), (Nat.le_of_ble_eq_true rfl)⟩ dX6_rotation_30
section SJL_X6_rotation
variable {p : Program} {l : Launch} {e : Env} {R : Room} {s : State} {m : MethodId} {args : Array Value} {below : List Frame} {meth : Method} {c : Code} {H : Heap} {locs : List Loc} {cells slots : Nat} {Q : State → Prop} {cc : ByteArray} {pc : Nat} {ls : Array Slot} {rest : List Value} {G : sj_G} {nL : Nat} {w : sj_W}
theorem cx_L_109 {QX : String → sj_W → Prop} {b : Nat} {b0 : Int32} {b1 : Int32} {b2 : Int32} {Qi : Int32 → sj_W → Prop} (hC : sj_C G p l s m args c cc RL nL) (hH : sj_H G s w H locs) (hv : vc_X6_rotation b b0 b1 b2 w Qi QX) (hT : sj_T w b = 5) (hR : rm_X6_rotation.frames + 1 ≤ R.frames ∧ 8 + (9 + 11) + rm_X6_rotation.locals ≤ R.locals) (hf : cells + 3 ≤ R.cells ∧ slots + 18 ≤ R.slots) (hls : ls.size = nL) (hW : (rest.map fun v => v.category).sum ≤ 8) (hdg : decode cc pc = .ok (.invokevirtual 109, 3)) (kx : ∀ (E : String) (ce : Cell) (q9 : Addr) (w1 : sj_W) (H1 : Heap) (locs1 : List Loc), sj_H G s w1 H1 locs1 → QX E w1 → H1[q9]? = some ce → ce.vm = .none → s.vm.findClass E = some ce.cls → vx_W p l e R s m args below meth c H1 locs1 (cells + 3) (slots + 18) Q (F0 m pc ls rest) q9) (kk : ∀ (r : Int32) (w1 : sj_W) (H : Heap) (locs : List Loc), sj_H G s w1 H locs → Qi r w1 → W p l e R s m args below meth c H locs (cells + 3) (slots + 18) Q (F0 m (pc + 3) ls (.int r :: rest))) : W p l e R s m args below meth c H locs cells slots Q (F0 m pc ls (.int b2 :: .int b1 :: .int b0 :: .ref b :: rest)) :=
  sj_xI hH (sj_runV (n := 3) hC hH (As := [.int b0, .int b1, .int b2]) (wk_X6_rotation G l hC.2.2.2.2.2.2 b b0 b1 b2 w Qi QX hv) (ci := 4) rfl (by decide) hT mb_559 mb_560 mb_561 mb_1 mb_562 (by decide +kernel) hR hf rfl hls hW hdg) kx kk
end SJL_X6_rotation
abbrev rm_X2_countIsTrue : Room := { frames := 3, cells := 0, slots := 0, locals := 58 }
def vb_X2_countIsTrue_16 (f0 : Nat) (Q : Int32 → sj_W → Prop) (E : Int32 → sj_W → Prop) (K : Int32 → Int32 → sj_W → Prop) (v1 : Int32) (v2 : Int32) (w : sj_W) : Prop := sj_T w f0 = 1 ∧ (((sj_I w 6 f0) ≤ v2 → E v1 w) ∧ (¬ (sj_I w 6 f0) ≤ v2 → sj_T w f0 = 1 ∧ sj_A w 0 f0 ≠ 0 ∧ sj_T w f0 = 1 ∧ sj_A w 2 f0 ≠ 0 ∧ sj_T w (sj_A w 2 f0) = 7 ∧ vp_in (v2 - 1) (sj_N w (sj_A w 2 f0)) ∧ sj_T w (sj_A w 0 f0) = 13 ∧ vp_in (sj_i w (sj_A w 2 f0) (v2 - 1).toNatClampNeg) (sj_N w (sj_A w 0 f0)) ∧ (sj_r w (sj_A w 0 f0) (sj_i w (sj_A w 2 f0) (v2 - 1).toNatClampNeg).toNatClampNeg) ≠ 0 ∧ sj_T w f0 = 1 ∧ sj_A w 2 f0 ≠ 0 ∧ sj_T w (sj_A w 2 f0) = 7 ∧ vp_in v2 (sj_N w (sj_A w 2 f0)) ∧ sj_T w (sj_r w (sj_A w 0 f0) (sj_i w (sj_A w 2 f0) (v2 - 1).toNatClampNeg).toNatClampNeg) = 7 ∧ vp_in (sj_i w (sj_A w 2 f0) v2.toNatClampNeg) (sj_N w (sj_r w (sj_A w 0 f0) (sj_i w (sj_A w 2 f0) (v2 - 1).toNatClampNeg).toNatClampNeg)) ∧ K (v1 - (sj_i w (sj_r w (sj_A w 0 f0) (sj_i w (sj_A w 2 f0) (v2 - 1).toNatClampNeg).toNatClampNeg) (sj_i w (sj_A w 2 f0) v2.toNatClampNeg).toNatClampNeg)) (v2 + 1) w))
def vc_X2_countIsTrue (a1 : Nat) (w : sj_W) (Q : Int32 → sj_W → Prop) : Prop := sj_T w a1 = 1 ∧ sj_T w a1 = 1 ∧ sj_lp2 (vb_X2_countIsTrue_16 a1 Q (fun z1_16 w_16 => sj_T w_16 a1 = 1 ∧ vc_X0_countWords a1 w_16 (fun r4 w5 => ((¬ z1_16 = r4 → Q 0 w5) ∧ (z1_16 = r4 → Q 1 w5))))) 64 (((sj_I w 6 a1) * ((sj_I w 6 a1) + 1)) / 2) 1 w
set_option maxHeartbeats 4000000 in
set_option maxRecDepth 100000 in
theorem wl_X2_countIsTrue_16 {p : Program} {l : Launch} {e : Env} {s : State} {m : MethodId} {args : Array Value} {below : List Frame} {meth : Method} {c : Code} {G : sj_G} {f0 : Nat} {Q : Int32 → sj_W → Prop} {QX : String → sj_W → Prop} {E : Int32 → sj_W → Prop} (hC : sj_C G p l s m args c cX2_countIsTrue RX2 3) (hD : sj_D meth c) (hr : meth.sig.returnType = (some .boolean)) (hin : meth.name = "countIsTrue") (hE : ∀ (v1 : Int32) (w : sj_W) (H : Heap) (locs : List Loc) (ls : Array Slot), lv_has ls 3 [(0, .ref f0), (1, .int v1)] → sj_H G s w H locs → E v1 w → W p l e rm_X2_countIsTrue s m args below meth c H locs 0 0 (sj_MQ G below (va_Qi Q (sj_B G) (sj_F G)) QX args s rm_X2_countIsTrue) (F0 m 53 ls [])) : ∀ (n : Nat) (v1 : Int32) (v2 : Int32) (w : sj_W) (H : Heap) (locs : List Loc) (ls : Array Slot), lv_has ls 3 [(0, .ref f0), (1, .int v1), (2, .int v2)] → sj_H G s w H locs → sj_lp2 (vb_X2_countIsTrue_16 f0 Q E) n v1 v2 w → W p l e rm_X2_countIsTrue s m args below meth c H locs 0 0 (sj_MQ G below (va_Qi Q (sj_B G) (sj_F G)) QX args s rm_X2_countIsTrue) (F0 m 16 ls []) := by
  have hx := hC.1
  have hb := hC.2.1
  intro n
  induction n with
  | zero =>
    intro v1 v2 w H locs ls _ _ hv
    exact hv.elim
  | succ n ih =>
    intro v1 v2 w H locs ls hl hH hv
    have hv : vb_X2_countIsTrue_16 f0 Q E (sj_lp2 (vb_X2_countIsTrue_16 f0 Q E) n) v1 v2 w := hv
    have hc1 : rm_X2_countIsTrue.cells = 0 := rfl
    have hc2 : rm_X2_countIsTrue.slots = 0 := rfl
    refine lv_iload_n hx hb dX2_countIsTrue_16 rfl (lv_at hl 2 rfl) ?_
    refine lv_aload_n hx hb dX2_countIsTrue_17 rfl (lv_at hl 0 rfl) ?_
    refine gf_X2_7 hC hH hv.1 dX2_countIsTrue_18 ?_
    refine lv_icmp_ge (tgt := 53) hx hb dX2_countIsTrue_21 (by decide) (fun hc => ?_) (fun hc => ?_)
    · have hv1 := hv.2.1 hc
      exact hE v1 w _ _ _ (lv_sub hl [0, 1] rfl) hH hv1
    · have hv2 := hv.2.2 hc
      refine lv_iload_n hx hb dX2_countIsTrue_24 rfl (lv_at hl 1 rfl) ?_
      refine lv_aload_n hx hb dX2_countIsTrue_25 rfl (lv_at hl 0 rfl) ?_
      refine gf_X2_13 hC hH hv2.1 hv2.2.1 dX2_countIsTrue_26 ?_
      refine lv_aload_n hx hb dX2_countIsTrue_29 rfl (lv_at hl 0 rfl) ?_
      refine gf_X2_17 hC hH hv2.2.2.1 hv2.2.2.2.1 dX2_countIsTrue_30 ?_
      refine lv_iload_n hx hb dX2_countIsTrue_33 rfl (lv_at hl 2 rfl) ?_
      refine lv_iconst (v := 1) hx hb dX2_countIsTrue_34 (by decide) ?_
      refine lv_isub hx hb dX2_countIsTrue_35 ?_
      refine sj_iald hC hH hv2.2.2.2.2.1 hv2.2.2.2.2.2.1 dX2_countIsTrue_36 ?_
      refine sj_aaldI hC hH hv2.2.2.2.2.2.2.1 hv2.2.2.2.2.2.2.2.1 hv2.2.2.2.2.2.2.2.2.1 dX2_countIsTrue_37 ?_
      refine lv_aload_n hx hb dX2_countIsTrue_38 rfl (lv_at hl 0 rfl) ?_
      refine gf_X2_17 hC hH hv2.2.2.2.2.2.2.2.2.2.1 hv2.2.2.2.2.2.2.2.2.2.2.1 dX2_countIsTrue_39 ?_
      refine lv_iload_n hx hb dX2_countIsTrue_42 rfl (lv_at hl 2 rfl) ?_
      refine sj_iald hC hH hv2.2.2.2.2.2.2.2.2.2.2.2.1 hv2.2.2.2.2.2.2.2.2.2.2.2.2.1 dX2_countIsTrue_43 ?_
      refine sj_iald hC hH hv2.2.2.2.2.2.2.2.2.2.2.2.2.2.1 hv2.2.2.2.2.2.2.2.2.2.2.2.2.2.2.1 dX2_countIsTrue_44 ?_
      refine lv_isub hx hb dX2_countIsTrue_45 ?_
      refine lv_istore_n (lv' := [(1, .int (v1 - (sj_i w (sj_r w (sj_A w 0 f0) (sj_i w (sj_A w 2 f0) (v2 - 1).toNatClampNeg).toNatClampNeg) (sj_i w (sj_A w 2 f0) v2.toNatClampNeg).toNatClampNeg))), (0, .ref f0), (2, .int v2)]) hx hb dX2_countIsTrue_46 rfl hl (by decide) rfl (fun ls hl => ?_)
      refine lv_iinc (v := (v2 + 1)) (lv' := [(2, .int (v2 + 1)), (1, .int (v1 - (sj_i w (sj_r w (sj_A w 0 f0) (sj_i w (sj_A w 2 f0) (v2 - 1).toNatClampNeg).toNatClampNeg) (sj_i w (sj_A w 2 f0) v2.toNatClampNeg).toNatClampNeg))), (0, .ref f0)]) hx hb dX2_countIsTrue_47 hl (k := 2) rfl rfl (by decide) rfl (fun ls hl => ?_)
      refine lv_goto (tgt := 16) hx hb dX2_countIsTrue_50 (by decide) ?_
      exact ih (v1 - (sj_i w (sj_r w (sj_A w 0 f0) (sj_i w (sj_A w 2 f0) (v2 - 1).toNatClampNeg).toNatClampNeg) (sj_i w (sj_A w 2 f0) v2.toNatClampNeg).toNatClampNeg)) (v2 + 1) w _ _ _ (lv_sub hl [2, 1, 0] rfl) hH hv2.2.2.2.2.2.2.2.2.2.2.2.2.2.2.2
set_option maxHeartbeats 4000000 in
set_option maxRecDepth 100000 in
theorem wk_X2_countIsTrue (G : sj_G) (l : Launch) (hlt : l.stackTraces = false) (a1 : Nat) (w : sj_W) (Q : Int32 → sj_W → Prop) (QX : String → sj_W → Prop) (hv : vc_X2_countIsTrue a1 w Q) : sj_MI G l yX2_countIsTrue (sj_ws yX2_countIsTrue cX2_countIsTrue 3 (some .boolean)) rm_X2_countIsTrue [.ref a1] w Q QX := by
  refine sj_of (by decide +kernel) (Nat.le_of_ble_eq_true rfl) hlt ?_
  intro p e s m args below meth c ls hC hD hr hin hH hl
  have hx := hC.1
  have hb := hC.2.1
  have hl : lv_has ls 3 [(0, .ref a1)] := hl
  refine lv_aload_n hx hb dX2_countIsTrue_0 rfl (lv_at hl 0 rfl) ?_
  refine gf_X2_7 hC hH hv.1 dX2_countIsTrue_1 ?_
  refine lv_aload_n hx hb dX2_countIsTrue_4 rfl (lv_at hl 0 rfl) ?_
  refine gf_X2_7 hC hH hv.2.1 dX2_countIsTrue_5 ?_
  refine lv_iconst (v := 1) hx hb dX2_countIsTrue_8 (by decide) ?_
  refine lv_iadd hx hb dX2_countIsTrue_9 ?_
  refine lv_imul hx hb dX2_countIsTrue_10 ?_
  refine lv_iconst (v := 2) hx hb dX2_countIsTrue_11 (by decide) ?_
  refine lv_idiv hx hb dX2_countIsTrue_12 (by decide) ?_
  refine lv_istore_n (lv' := [(1, .int (((sj_I w 6 a1) * ((sj_I w 6 a1) + 1)) / 2)), (0, .ref a1)]) hx hb dX2_countIsTrue_13 rfl hl (by decide) rfl (fun ls hl => ?_)
  refine lv_iconst (v := 1) hx hb dX2_countIsTrue_14 (by decide) ?_
  refine lv_istore_n (lv' := [(2, .int 1), (1, .int (((sj_I w 6 a1) * ((sj_I w 6 a1) + 1)) / 2)), (0, .ref a1)]) hx hb dX2_countIsTrue_15 rfl hl (by decide) rfl (fun ls hl => ?_)
  refine wl_X2_countIsTrue_16 hC hD hr hin (fun z1_16 w_16 H locs ls hl hH hv3 => ?_) 64 (((sj_I w 6 a1) * ((sj_I w 6 a1) + 1)) / 2) 1 w _ _ _ (lv_sub hl [2, 1, 0] rfl) hH hv.2.2
  refine lv_iload_n hx hb dX2_countIsTrue_53 rfl (lv_at hl 1 rfl) ?_
  refine lv_aload_n hx hb dX2_countIsTrue_54 rfl (lv_at hl 0 rfl) ?_
  refine cl_X2_21 hC hD hH hv3.2 hv3.1 ⟨Nat.le_of_ble_eq_true rfl, Nat.le_of_ble_eq_true rfl⟩ ⟨(Nat.le_of_ble_eq_true rfl), (Nat.le_of_ble_eq_true rfl)⟩ ⟨(Nat.le_of_ble_eq_true rfl), (Nat.le_of_ble_eq_true rfl)⟩ hl.1 (Nat.le_of_ble_eq_true rfl) dX2_countIsTrue_55 (fun r4 w5 H locs hH hv6 => ?_)
  refine lv_icmp_ne (tgt := 65) hx hb dX2_countIsTrue_58 (by decide) (fun hc => ?_) (fun hc => ?_)
  · have hv7 := hv6.1 hc
    refine lv_iconst (v := 0) hx hb dX2_countIsTrue_65 (by decide) ?_
    exact sj_retI hC hD.2 hH hr rfl hv7 ⟨(Nat.le_of_ble_eq_true rfl), (Nat.le_of_ble_eq_true rfl)⟩ dX2_countIsTrue_66
  · have hv8 := hv6.2 hc
    refine lv_iconst (v := 1) hx hb dX2_countIsTrue_61 (by decide) ?_
    refine lv_goto (tgt := 66) hx hb dX2_countIsTrue_62 (by decide) ?_
    exact sj_retI hC hD.2 hH hr rfl hv8 ⟨(Nat.le_of_ble_eq_true rfl), (Nat.le_of_ble_eq_true rfl)⟩ dX2_countIsTrue_66
section SJL_X2_countIsTrue
variable {p : Program} {l : Launch} {e : Env} {R : Room} {s : State} {m : MethodId} {args : Array Value} {below : List Frame} {meth : Method} {c : Code} {H : Heap} {locs : List Loc} {cells slots : Nat} {Q : State → Prop} {cc : ByteArray} {pc : Nat} {ls : Array Slot} {rest : List Value} {G : sj_G} {nL : Nat} {w : sj_W}
theorem cl_X6_210 {rmM : Room} {QcM : Array Value → State → Outcome → State → Prop} {QX : String → sj_W → Prop} {b0 : Nat} {Qi : Int32 → sj_W → Prop} (hC : sj_C G p l s m args c cc RX6 nL) (hD : sj_D meth c) (hH : sj_H G s w H locs) (hv : vc_X2_countIsTrue b0 w Qi) (hR : rm_X2_countIsTrue.frames + 1 ≤ R.frames ∧ 8 + (3 + 11) + rm_X2_countIsTrue.locals ≤ R.locals) (hf : cells + 0 ≤ R.cells ∧ slots + 0 ≤ R.slots) (hfM : cells + 0 ≤ rmM.cells ∧ slots + 0 ≤ rmM.slots) (hls : ls.size = nL) (hW : (rest.map fun v => v.category).sum ≤ 8) (hdg : decode cc pc = .ok (.invokestatic 210, 3)) (kk : ∀ (r : Int32) (w1 : sj_W) (H : Heap) (locs : List Loc), sj_H G s w1 H locs → Qi r w1 → W p l e R s m args below meth c H locs (cells + 0) (slots + 0) (sj_MQ G below QcM QX args s rmM) (F0 m (pc + 3) ls (.int r :: rest))) : W p l e R s m args below meth c H locs cells slots (sj_MQ G below QcM QX args s rmM) (F0 m pc ls (.ref b0 :: rest)) :=
  sj_cI hD hH (sj_runSN (n := 1) hC hH (As := [.ref b0]) (wk_X2_countIsTrue G l hC.2.2.2.2.2.2 b0 w Qi QX hv) mb_668 mb_669 mb_15 mb_670 (by decide +kernel) hR hf rfl hls hW hdg) hfM kk
end SJL_X2_countIsTrue
abbrev rm_X2_greatestDivisor : Room := { frames := 1, cells := 0, slots := 0, locals := 13 }
def vb_X2_greatestDivisor_6 (f0 : Int32) (f1 : Int32) (Q : Int32 → sj_W → Prop) (E : sj_W → Prop) (K : Int32 → sj_W → Prop) (v2 : Int32) (w : sj_W) : Prop := ((v2 ≤ 1 → E w) ∧ (¬ v2 ≤ 1 → ¬ (v2 : Int32) = 0 ∧ ((¬ (f0 - f0 / v2 * v2) = 0 → K (v2 + (-1)) w) ∧ ((f0 - f0 / v2 * v2) = 0 → ¬ (v2 : Int32) = 0 ∧ ((¬ (f1 - f1 / v2 * v2) = 0 → K (v2 + (-1)) w) ∧ ((f1 - f1 / v2 * v2) = 0 → Q v2 w))))))
def vc_X2_greatestDivisor (a1 : Int32) (a2 : Int32) (w : sj_W) (Q : Int32 → sj_W → Prop) : Prop := sj_lp1 (vb_X2_greatestDivisor_6 a1 a2 Q (fun w_6 => Q 1 w_6)) 64 (if a2 < a1 then a2 else a1) w
set_option maxHeartbeats 4000000 in
set_option maxRecDepth 100000 in
theorem wl_X2_greatestDivisor_6 {p : Program} {l : Launch} {e : Env} {s : State} {m : MethodId} {args : Array Value} {below : List Frame} {meth : Method} {c : Code} {G : sj_G} {f0 : Int32} {f1 : Int32} {Q : Int32 → sj_W → Prop} {QX : String → sj_W → Prop} {E : sj_W → Prop} (hC : sj_C G p l s m args c cX2_greatestDivisor RX2 3) (hD : sj_D meth c) (hr : meth.sig.returnType = (some .int)) (hin : meth.name = "greatestDivisor") (hE : ∀ (w : sj_W) (H : Heap) (locs : List Loc) (ls : Array Slot), lv_has ls 3 [] → sj_H G s w H locs → E w → W p l e rm_X2_greatestDivisor s m args below meth c H locs 0 0 (sj_MQ G below (va_Qi Q (sj_B G) (sj_F G)) QX args s rm_X2_greatestDivisor) (F0 m 31 ls [])) : ∀ (n : Nat) (v2 : Int32) (w : sj_W) (H : Heap) (locs : List Loc) (ls : Array Slot), lv_has ls 3 [(0, .int f0), (1, .int f1), (2, .int v2)] → sj_H G s w H locs → sj_lp1 (vb_X2_greatestDivisor_6 f0 f1 Q E) n v2 w → W p l e rm_X2_greatestDivisor s m args below meth c H locs 0 0 (sj_MQ G below (va_Qi Q (sj_B G) (sj_F G)) QX args s rm_X2_greatestDivisor) (F0 m 6 ls []) := by
  have hx := hC.1
  have hb := hC.2.1
  intro n
  induction n with
  | zero =>
    intro v2 w H locs ls _ _ hv
    exact hv.elim
  | succ n ih =>
    intro v2 w H locs ls hl hH hv
    have hv : vb_X2_greatestDivisor_6 f0 f1 Q E (sj_lp1 (vb_X2_greatestDivisor_6 f0 f1 Q E) n) v2 w := hv
    have hc1 : rm_X2_greatestDivisor.cells = 0 := rfl
    have hc2 : rm_X2_greatestDivisor.slots = 0 := rfl
    refine lv_iload_n hx hb dX2_greatestDivisor_6 rfl (lv_at hl 2 rfl) ?_
    refine lv_iconst (v := 1) hx hb dX2_greatestDivisor_7 (by decide) ?_
    refine lv_icmp_le (tgt := 31) hx hb dX2_greatestDivisor_8 (by decide) (fun hc => ?_) (fun hc => ?_)
    · have hv1 := hv.1 hc
      exact hE  w _ _ _ (lv_sub hl [] rfl) hH hv1
    · have hv2 := hv.2 hc
      refine lv_iload_n hx hb dX2_greatestDivisor_11 rfl (lv_at hl 0 rfl) ?_
      refine lv_iload_n hx hb dX2_greatestDivisor_12 rfl (lv_at hl 2 rfl) ?_
      refine lv_irem hx hb dX2_greatestDivisor_13 hv2.1 ?_
      refine lv_if_ne (tgt := 25) hx hb dX2_greatestDivisor_14 (by decide) (fun hc => ?_) (fun hc => ?_)
      · have hv3 := hv2.2.1 hc
        refine lv_iinc (v := (v2 + (-1))) (lv' := [(2, .int (v2 + (-1))), (0, .int f0), (1, .int f1)]) hx hb dX2_greatestDivisor_25 hl (k := 2) rfl rfl (by decide) rfl (fun ls hl => ?_)
        refine lv_goto (tgt := 6) hx hb dX2_greatestDivisor_28 (by decide) ?_
        exact ih (v2 + (-1)) w _ _ _ (lv_sub hl [1, 2, 0] rfl) hH hv3
      · have hv4 := hv2.2.2 hc
        refine lv_iload_n hx hb dX2_greatestDivisor_17 rfl (lv_at hl 1 rfl) ?_
        refine lv_iload_n hx hb dX2_greatestDivisor_18 rfl (lv_at hl 2 rfl) ?_
        refine lv_irem hx hb dX2_greatestDivisor_19 hv4.1 ?_
        refine lv_if_ne (tgt := 25) hx hb dX2_greatestDivisor_20 (by decide) (fun hc => ?_) (fun hc => ?_)
        · have hv5 := hv4.2.1 hc
          refine lv_iinc (v := (v2 + (-1))) (lv' := [(2, .int (v2 + (-1))), (0, .int f0), (1, .int f1)]) hx hb dX2_greatestDivisor_25 hl (k := 2) rfl rfl (by decide) rfl (fun ls hl => ?_)
          refine lv_goto (tgt := 6) hx hb dX2_greatestDivisor_28 (by decide) ?_
          exact ih (v2 + (-1)) w _ _ _ (lv_sub hl [1, 2, 0] rfl) hH hv5
        · have hv6 := hv4.2.2 hc
          refine lv_iload_n hx hb dX2_greatestDivisor_23 rfl (lv_at hl 2 rfl) ?_
          exact sj_retI hC hD.2 hH hr rfl hv6 ⟨(Nat.le_of_ble_eq_true rfl), (Nat.le_of_ble_eq_true rfl)⟩ dX2_greatestDivisor_24
set_option maxHeartbeats 4000000 in
set_option maxRecDepth 100000 in
theorem wk_X2_greatestDivisor (G : sj_G) (l : Launch) (hlt : l.stackTraces = false) (a1 : Int32) (a2 : Int32) (w : sj_W) (Q : Int32 → sj_W → Prop) (QX : String → sj_W → Prop) (hv : vc_X2_greatestDivisor a1 a2 w Q) : sj_MI G l yX2_greatestDivisor (sj_ws yX2_greatestDivisor cX2_greatestDivisor 3 (some .int)) rm_X2_greatestDivisor [.int a1, .int a2] w Q QX := by
  refine sj_of (by decide +kernel) (Nat.le_of_ble_eq_true rfl) hlt ?_
  intro p e s m args below meth c ls hC hD hr hin hH hl
  have hx := hC.1
  have hb := hC.2.1
  have hl : lv_has ls 3 [(0, .int a1), (1, .int a2)] := hl
  refine lv_iload_n hx hb dX2_greatestDivisor_0 rfl (lv_at hl 0 rfl) ?_
  refine lv_iload_n hx hb dX2_greatestDivisor_1 rfl (lv_at hl 1 rfl) ?_
  refine va_mmin hx hb (hC.2.2.1.trans hl.1.symm) hC.2.2.2.1 (hC.2.2.2.2.1 _ mb_683) (hC.2.2.2.2.1 _ mb_408) (hC.2.2.2.2.1 _ mb_13) (hC.2.2.2.2.1 _ mb_409) (Nat.le_of_ble_eq_true rfl) (Nat.le_of_ble_eq_true rfl) (Nat.le_of_ble_eq_true rfl) (Nat.le_of_ble_eq_true rfl) dX2_greatestDivisor_2 ?_
  refine lv_istore_n (lv' := [(2, .int (if a2 < a1 then a2 else a1)), (0, .int a1), (1, .int a2)]) hx hb dX2_greatestDivisor_5 rfl hl (by decide) rfl (fun ls hl => ?_)
  refine wl_X2_greatestDivisor_6 hC hD hr hin (fun w_6 H locs ls hl hH hv7 => ?_) 64 (if a2 < a1 then a2 else a1) w _ _ _ (lv_sub hl [1, 2, 0] rfl) hH hv
  refine lv_iconst (v := 1) hx hb dX2_greatestDivisor_31 (by decide) ?_
  exact sj_retI hC hD.2 hH hr rfl hv7 ⟨(Nat.le_of_ble_eq_true rfl), (Nat.le_of_ble_eq_true rfl)⟩ dX2_greatestDivisor_32
section SJL_X2_greatestDivisor
variable {p : Program} {l : Launch} {e : Env} {R : Room} {s : State} {m : MethodId} {args : Array Value} {below : List Frame} {meth : Method} {c : Code} {H : Heap} {locs : List Loc} {cells slots : Nat} {Q : State → Prop} {cc : ByteArray} {pc : Nat} {ls : Array Slot} {rest : List Value} {G : sj_G} {nL : Nat} {w : sj_W}
theorem cl_X2_42 {rmM : Room} {QcM : Array Value → State → Outcome → State → Prop} {QX : String → sj_W → Prop} {b0 : Int32} {b1 : Int32} {Qi : Int32 → sj_W → Prop} (hC : sj_C G p l s m args c cc RX2 nL) (hD : sj_D meth c) (hH : sj_H G s w H locs) (hv : vc_X2_greatestDivisor b0 b1 w Qi) (hR : rm_X2_greatestDivisor.frames + 1 ≤ R.frames ∧ 8 + (3 + 11) + rm_X2_greatestDivisor.locals ≤ R.locals) (hf : cells + 0 ≤ R.cells ∧ slots + 0 ≤ R.slots) (hfM : cells + 0 ≤ rmM.cells ∧ slots + 0 ≤ rmM.slots) (hls : ls.size = nL) (hW : (rest.map fun v => v.category).sum ≤ 8) (hdg : decode cc pc = .ok (.invokestatic 42, 3)) (kk : ∀ (r : Int32) (w1 : sj_W) (H : Heap) (locs : List Loc), sj_H G s w1 H locs → Qi r w1 → W p l e R s m args below meth c H locs (cells + 0) (slots + 0) (sj_MQ G below QcM QX args s rmM) (F0 m (pc + 3) ls (.int r :: rest))) : W p l e R s m args below meth c H locs cells slots (sj_MQ G below QcM QX args s rmM) (F0 m pc ls (.int b1 :: .int b0 :: rest)) :=
  sj_cI hD hH (sj_runS (n := 2) hC hH (As := [.int b0, .int b1]) (wk_X2_greatestDivisor G l hC.2.2.2.2.2.2 b0 b1 w Qi QX hv) mb_680 mb_681 mb_15 mb_682 (by decide +kernel) hR hf rfl hls hW hdg) hfM kk
end SJL_X2_greatestDivisor
abbrev rm_X2_divisorIsTrue : Room := { frames := 2, cells := 0, slots := 0, locals := 35 }
def vc_X2_divisorIsTrue (a1 : Nat) (a2 : Int32) (a3 : Int32) (w : sj_W) (Q : Int32 → sj_W → Prop) : Prop := vc_X2_greatestDivisor a2 a3 w (fun r1 w2 => sj_T w2 a1 = 2 ∧ (((sj_I w2 9 a1) < ((a2 + a3) - r1) → Q 1 w2) ∧ (¬ (sj_I w2 9 a1) < ((a2 + a3) - r1) → sj_T w2 a1 = 2 ∧ vc_X1_hasPeriod a1 r1 w2 (fun r6 w7 => ((r6 = 0 → Q 0 w7) ∧ (¬ r6 = 0 → Q 1 w7))))))
set_option maxHeartbeats 4000000 in
set_option maxRecDepth 100000 in
theorem wk_X2_divisorIsTrue (G : sj_G) (l : Launch) (hlt : l.stackTraces = false) (a1 : Nat) (a2 : Int32) (a3 : Int32) (w : sj_W) (Q : Int32 → sj_W → Prop) (QX : String → sj_W → Prop) (hv : vc_X2_divisorIsTrue a1 a2 a3 w Q) : sj_MI G l yX2_divisorIsTrue (sj_ws yX2_divisorIsTrue cX2_divisorIsTrue 4 (some .boolean)) rm_X2_divisorIsTrue [.ref a1, .int a2, .int a3] w Q QX := by
  refine sj_of (by decide +kernel) (Nat.le_of_ble_eq_true rfl) hlt ?_
  intro p e s m args below meth c ls hC hD hr hin hH hl
  have hx := hC.1
  have hb := hC.2.1
  have hl : lv_has ls 4 [(0, .ref a1), (1, .int a2), (2, .int a3)] := hl
  refine lv_iload_n hx hb dX2_divisorIsTrue_0 rfl (lv_at hl 1 rfl) ?_
  refine lv_iload_n hx hb dX2_divisorIsTrue_1 rfl (lv_at hl 2 rfl) ?_
  refine cl_X2_42 hC hD hH hv ⟨Nat.le_of_ble_eq_true rfl, Nat.le_of_ble_eq_true rfl⟩ ⟨(Nat.le_of_ble_eq_true rfl), (Nat.le_of_ble_eq_true rfl)⟩ ⟨(Nat.le_of_ble_eq_true rfl), (Nat.le_of_ble_eq_true rfl)⟩ hl.1 (Nat.le_of_ble_eq_true rfl) dX2_divisorIsTrue_2 (fun r1 w2 H locs hH hv3 => ?_)
  refine lv_istore_n (lv' := [(3, .int r1), (0, .ref a1), (1, .int a2), (2, .int a3)]) hx hb dX2_divisorIsTrue_5 rfl hl (by decide) rfl (fun ls hl => ?_)
  refine lv_iload_n hx hb dX2_divisorIsTrue_6 rfl (lv_at hl 2 rfl) ?_
  refine lv_iload_n hx hb dX2_divisorIsTrue_7 rfl (lv_at hl 3 rfl) ?_
  refine lv_iadd hx hb dX2_divisorIsTrue_8 ?_
  refine lv_iload_n hx hb dX2_divisorIsTrue_9 rfl (lv_at hl 0 rfl) ?_
  refine lv_isub hx hb dX2_divisorIsTrue_10 ?_
  refine lv_aload_n hx hb dX2_divisorIsTrue_11 rfl (lv_at hl 1 rfl) ?_
  refine gf_X2_25 hC hH hv3.1 dX2_divisorIsTrue_12 ?_
  refine lv_icmp_gt (tgt := 26) hx hb dX2_divisorIsTrue_15 (by decide) (fun hc => ?_) (fun hc => ?_)
  · have hv4 := hv3.2.1 hc
    refine lv_iconst (v := 1) hx hb dX2_divisorIsTrue_26 (by decide) ?_
    refine lv_goto (tgt := 31) hx hb dX2_divisorIsTrue_27 (by decide) ?_
    exact sj_retI hC hD.2 hH hr rfl hv4 ⟨(Nat.le_of_ble_eq_true rfl), (Nat.le_of_ble_eq_true rfl)⟩ dX2_divisorIsTrue_31
  · have hv5 := hv3.2.2 hc
    refine lv_aload_n hx hb dX2_divisorIsTrue_18 rfl (lv_at hl 1 rfl) ?_
    refine lv_iload_n hx hb dX2_divisorIsTrue_19 rfl (lv_at hl 0 rfl) ?_
    refine cl_X2_32 hC hD hH hv5.2 hv5.1 ⟨Nat.le_of_ble_eq_true rfl, Nat.le_of_ble_eq_true rfl⟩ ⟨(Nat.le_of_ble_eq_true rfl), (Nat.le_of_ble_eq_true rfl)⟩ ⟨(Nat.le_of_ble_eq_true rfl), (Nat.le_of_ble_eq_true rfl)⟩ hl.1 (Nat.le_of_ble_eq_true rfl) dX2_divisorIsTrue_20 (fun r6 w7 H locs hH hv8 => ?_)
    refine lv_if_eq (tgt := 30) hx hb dX2_divisorIsTrue_23 (by decide) (fun hc => ?_) (fun hc => ?_)
    · have hv9 := hv8.1 hc
      refine lv_iconst (v := 0) hx hb dX2_divisorIsTrue_30 (by decide) ?_
      exact sj_retI hC hD.2 hH hr rfl hv9 ⟨(Nat.le_of_ble_eq_true rfl), (Nat.le_of_ble_eq_true rfl)⟩ dX2_divisorIsTrue_31
    · have hv10 := hv8.2 hc
      refine lv_iconst (v := 1) hx hb dX2_divisorIsTrue_26 (by decide) ?_
      refine lv_goto (tgt := 31) hx hb dX2_divisorIsTrue_27 (by decide) ?_
      exact sj_retI hC hD.2 hH hr rfl hv10 ⟨(Nat.le_of_ble_eq_true rfl), (Nat.le_of_ble_eq_true rfl)⟩ dX2_divisorIsTrue_31
section SJL_X2_divisorIsTrue
variable {p : Program} {l : Launch} {e : Env} {R : Room} {s : State} {m : MethodId} {args : Array Value} {below : List Frame} {meth : Method} {c : Code} {H : Heap} {locs : List Loc} {cells slots : Nat} {Q : State → Prop} {cc : ByteArray} {pc : Nat} {ls : Array Slot} {rest : List Value} {G : sj_G} {nL : Nat} {w : sj_W}
theorem cl_X2_36 {rmM : Room} {QcM : Array Value → State → Outcome → State → Prop} {QX : String → sj_W → Prop} {b0 : Nat} {b1 : Int32} {b2 : Int32} {Qi : Int32 → sj_W → Prop} (hC : sj_C G p l s m args c cc RX2 nL) (hD : sj_D meth c) (hH : sj_H G s w H locs) (hv : vc_X2_divisorIsTrue b0 b1 b2 w Qi) (hR : rm_X2_divisorIsTrue.frames + 1 ≤ R.frames ∧ 8 + (4 + 11) + rm_X2_divisorIsTrue.locals ≤ R.locals) (hf : cells + 0 ≤ R.cells ∧ slots + 0 ≤ R.slots) (hfM : cells + 0 ≤ rmM.cells ∧ slots + 0 ≤ rmM.slots) (hls : ls.size = nL) (hW : (rest.map fun v => v.category).sum ≤ 8) (hdg : decode cc pc = .ok (.invokestatic 36, 3)) (kk : ∀ (r : Int32) (w1 : sj_W) (H : Heap) (locs : List Loc), sj_H G s w1 H locs → Qi r w1 → W p l e R s m args below meth c H locs (cells + 0) (slots + 0) (sj_MQ G below QcM QX args s rmM) (F0 m (pc + 3) ls (.int r :: rest))) : W p l e R s m args below meth c H locs cells slots (sj_MQ G below QcM QX args s rmM) (F0 m pc ls (.int b2 :: .int b1 :: .ref b0 :: rest)) :=
  sj_cI hD hH (sj_runS (n := 3) hC hH (As := [.ref b0, .int b1, .int b2]) (wk_X2_divisorIsTrue G l hC.2.2.2.2.2.2 b0 b1 b2 w Qi QX hv) mb_677 mb_678 mb_15 mb_679 (by decide +kernel) hR hf rfl hls hW hdg) hfM kk
end SJL_X2_divisorIsTrue
abbrev rm_X2_periodsAreTrue : Room := { frames := 3, cells := 0, slots := 0, locals := 58 }
def vb_X2_periodsAreTrue_47 (f0 : Nat) (f1 : Nat) (f2 : Int32) (f3 : Int32) (f4 : Int32) (Q : Int32 → sj_W → Prop) (E : sj_W → Prop) (K : Int32 → sj_W → Prop) (v5 : Int32) (w : sj_W) : Prop := ((f3 ≤ v5 → E w) ∧ (¬ f3 ≤ v5 → ((f4 = 0 → E w) ∧ (¬ f4 = 0 → sj_T w f0 = 2 ∧ vc_X1_hasPeriod f0 v5 w (fun r22 w23 => ((r22 = 0 → K (v5 + 1) w23) ∧ (¬ r22 = 0 → vc_X2_divisorIsTrue f0 f3 v5 w23 (fun r27 w28 => ((¬ r27 = 0 → K (v5 + 1) w28) ∧ (r27 = 0 → Q 0 w28))))))))))
def vb_X2_periodsAreTrue_7 (f0 : Nat) (f1 : Nat) (f2 : Int32) (Q : Int32 → sj_W → Prop) (E : sj_W → Prop) (K : Int32 → sj_W → Prop) (v3 : Int32) (w : sj_W) : Prop := ((f2 < v3 → E w) ∧ (¬ f2 < v3 → sj_T w f1 = 1 ∧ vc_X0_compareParts f1 0 (f2 - v3) v3 f2 w (fun r3 w4 => sj_jn1 (fun (E6 : Int32 → sj_W → Prop) => ((¬ r3 = 0 → E6 0 w4) ∧ (r3 = 0 → E6 1 w4))) (fun (y0_30 : Int32) (w_30 : sj_W) => sj_T w_30 f0 = 2 ∧ vc_X1_hasPeriod f0 v3 w_30 (fun r14 w15 => ((r14 = y0_30 → sj_lp1 (vb_X2_periodsAreTrue_47 f0 f1 f2 v3 y0_30 Q (fun w_47 => K (v3 + 1) w_47)) 64 1 w15) ∧ (¬ r14 = y0_30 → Q 0 w15)))))))
def vc_X2_periodsAreTrue (a1 : Nat) (a2 : Nat) (w : sj_W) (Q : Int32 → sj_W → Prop) : Prop := sj_T w a1 = 2 ∧ sj_lp1 (vb_X2_periodsAreTrue_7 a1 a2 (sj_I w 9 a1) Q (fun w_7 => Q 1 w_7)) 64 1 w
set_option maxHeartbeats 4000000 in
set_option maxRecDepth 100000 in
theorem wl_X2_periodsAreTrue_47 {p : Program} {l : Launch} {e : Env} {s : State} {m : MethodId} {args : Array Value} {below : List Frame} {meth : Method} {c : Code} {G : sj_G} {f0 : Nat} {f1 : Nat} {f2 : Int32} {f3 : Int32} {f4 : Int32} {Q : Int32 → sj_W → Prop} {QX : String → sj_W → Prop} {E : sj_W → Prop} (hC : sj_C G p l s m args c cX2_periodsAreTrue RX2 6) (hD : sj_D meth c) (hr : meth.sig.returnType = (some .boolean)) (hin : meth.name = "periodsAreTrue") (hE : ∀ (w : sj_W) (H : Heap) (locs : List Loc) (ls : Array Slot), lv_has ls 6 [(0, .ref f0), (1, .ref f1), (2, .int f2), (3, .int f3)] → sj_H G s w H locs → E w → W p l e rm_X2_periodsAreTrue s m args below meth c H locs 0 0 (sj_MQ G below (va_Qi Q (sj_B G) (sj_F G)) QX args s rm_X2_periodsAreTrue) (F0 m 85 ls [])) : ∀ (n : Nat) (v5 : Int32) (w : sj_W) (H : Heap) (locs : List Loc) (ls : Array Slot), lv_has ls 6 [(0, .ref f0), (1, .ref f1), (2, .int f2), (3, .int f3), (4, .int f4), (5, .int v5)] → sj_H G s w H locs → sj_lp1 (vb_X2_periodsAreTrue_47 f0 f1 f2 f3 f4 Q E) n v5 w → W p l e rm_X2_periodsAreTrue s m args below meth c H locs 0 0 (sj_MQ G below (va_Qi Q (sj_B G) (sj_F G)) QX args s rm_X2_periodsAreTrue) (F0 m 47 ls []) := by
  have hx := hC.1
  have hb := hC.2.1
  intro n
  induction n with
  | zero =>
    intro v5 w H locs ls _ _ hv
    exact hv.elim
  | succ n ih =>
    intro v5 w H locs ls hl hH hv
    have hv : vb_X2_periodsAreTrue_47 f0 f1 f2 f3 f4 Q E (sj_lp1 (vb_X2_periodsAreTrue_47 f0 f1 f2 f3 f4 Q E) n) v5 w := hv
    have hc1 : rm_X2_periodsAreTrue.cells = 0 := rfl
    have hc2 : rm_X2_periodsAreTrue.slots = 0 := rfl
    refine lv_iload hx hb dX2_periodsAreTrue_47 (lv_at hl 5 rfl) ?_
    refine lv_iload_n hx hb dX2_periodsAreTrue_49 rfl (lv_at hl 3 rfl) ?_
    refine lv_icmp_ge (tgt := 85) hx hb dX2_periodsAreTrue_50 (by decide) (fun hc => ?_) (fun hc => ?_)
    · have hv18 := hv.1 hc
      exact hE  w _ _ _ (lv_sub hl [0, 1, 2, 3] rfl) hH hv18
    · have hv19 := hv.2 hc
      refine lv_iload hx hb dX2_periodsAreTrue_53 (lv_at hl 4 rfl) ?_
      refine lv_if_eq (tgt := 85) hx hb dX2_periodsAreTrue_55 (by decide) (fun hc => ?_) (fun hc => ?_)
      · have hv20 := hv19.1 hc
        exact hE  w _ _ _ (lv_sub hl [0, 1, 2, 3] rfl) hH hv20
      · have hv21 := hv19.2 hc
        refine lv_aload_n hx hb dX2_periodsAreTrue_58 rfl (lv_at hl 0 rfl) ?_
        refine lv_iload hx hb dX2_periodsAreTrue_59 (lv_at hl 5 rfl) ?_
        refine cl_X2_32 hC hD hH hv21.2 hv21.1 ⟨Nat.le_of_ble_eq_true rfl, Nat.le_of_ble_eq_true rfl⟩ ⟨(Nat.le_of_ble_eq_true rfl), (Nat.le_of_ble_eq_true rfl)⟩ ⟨(Nat.le_of_ble_eq_true rfl), (Nat.le_of_ble_eq_true rfl)⟩ hl.1 (Nat.le_of_ble_eq_true rfl) dX2_periodsAreTrue_61 (fun r22 w23 H locs hH hv24 => ?_)
        refine lv_if_eq (tgt := 79) hx hb dX2_periodsAreTrue_64 (by decide) (fun hc => ?_) (fun hc => ?_)
        · have hv25 := hv24.1 hc
          refine lv_iinc (v := (v5 + 1)) (lv' := [(5, .int (v5 + 1)), (0, .ref f0), (1, .ref f1), (2, .int f2), (3, .int f3), (4, .int f4)]) hx hb dX2_periodsAreTrue_79 hl (k := 5) rfl rfl (by decide) rfl (fun ls hl => ?_)
          refine lv_goto (tgt := 47) hx hb dX2_periodsAreTrue_82 (by decide) ?_
          exact ih (v5 + 1) w23 _ _ _ (lv_sub hl [1, 2, 3, 4, 5, 0] rfl) hH hv25
        · have hv26 := hv24.2 hc
          refine lv_aload_n hx hb dX2_periodsAreTrue_67 rfl (lv_at hl 0 rfl) ?_
          refine lv_iload_n hx hb dX2_periodsAreTrue_68 rfl (lv_at hl 3 rfl) ?_
          refine lv_iload hx hb dX2_periodsAreTrue_69 (lv_at hl 5 rfl) ?_
          refine cl_X2_36 hC hD hH hv26 ⟨Nat.le_of_ble_eq_true rfl, Nat.le_of_ble_eq_true rfl⟩ ⟨(Nat.le_of_ble_eq_true rfl), (Nat.le_of_ble_eq_true rfl)⟩ ⟨(Nat.le_of_ble_eq_true rfl), (Nat.le_of_ble_eq_true rfl)⟩ hl.1 (Nat.le_of_ble_eq_true rfl) dX2_periodsAreTrue_71 (fun r27 w28 H locs hH hv29 => ?_)
          refine lv_if_ne (tgt := 79) hx hb dX2_periodsAreTrue_74 (by decide) (fun hc => ?_) (fun hc => ?_)
          · have hv30 := hv29.1 hc
            refine lv_iinc (v := (v5 + 1)) (lv' := [(5, .int (v5 + 1)), (0, .ref f0), (1, .ref f1), (2, .int f2), (3, .int f3), (4, .int f4)]) hx hb dX2_periodsAreTrue_79 hl (k := 5) rfl rfl (by decide) rfl (fun ls hl => ?_)
            refine lv_goto (tgt := 47) hx hb dX2_periodsAreTrue_82 (by decide) ?_
            exact ih (v5 + 1) w28 _ _ _ (lv_sub hl [1, 2, 3, 4, 5, 0] rfl) hH hv30
          · have hv31 := hv29.2 hc
            refine lv_iconst (v := 0) hx hb dX2_periodsAreTrue_77 (by decide) ?_
            exact sj_retI hC hD.2 hH hr rfl hv31 ⟨(Nat.le_of_ble_eq_true rfl), (Nat.le_of_ble_eq_true rfl)⟩ dX2_periodsAreTrue_78
set_option maxHeartbeats 4000000 in
set_option maxRecDepth 100000 in
theorem wl_X2_periodsAreTrue_7 {p : Program} {l : Launch} {e : Env} {s : State} {m : MethodId} {args : Array Value} {below : List Frame} {meth : Method} {c : Code} {G : sj_G} {f0 : Nat} {f1 : Nat} {f2 : Int32} {Q : Int32 → sj_W → Prop} {QX : String → sj_W → Prop} {E : sj_W → Prop} (hC : sj_C G p l s m args c cX2_periodsAreTrue RX2 6) (hD : sj_D meth c) (hr : meth.sig.returnType = (some .boolean)) (hin : meth.name = "periodsAreTrue") (hE : ∀ (w : sj_W) (H : Heap) (locs : List Loc) (ls : Array Slot), lv_has ls 6 [] → sj_H G s w H locs → E w → W p l e rm_X2_periodsAreTrue s m args below meth c H locs 0 0 (sj_MQ G below (va_Qi Q (sj_B G) (sj_F G)) QX args s rm_X2_periodsAreTrue) (F0 m 91 ls [])) : ∀ (n : Nat) (v3 : Int32) (w : sj_W) (H : Heap) (locs : List Loc) (ls : Array Slot), lv_has ls 6 [(0, .ref f0), (1, .ref f1), (2, .int f2), (3, .int v3)] → sj_H G s w H locs → sj_lp1 (vb_X2_periodsAreTrue_7 f0 f1 f2 Q E) n v3 w → W p l e rm_X2_periodsAreTrue s m args below meth c H locs 0 0 (sj_MQ G below (va_Qi Q (sj_B G) (sj_F G)) QX args s rm_X2_periodsAreTrue) (F0 m 7 ls []) := by
  have hx := hC.1
  have hb := hC.2.1
  intro n
  induction n with
  | zero =>
    intro v3 w H locs ls _ _ hv
    exact hv.elim
  | succ n ih =>
    intro v3 w H locs ls hl hH hv
    have hv : vb_X2_periodsAreTrue_7 f0 f1 f2 Q E (sj_lp1 (vb_X2_periodsAreTrue_7 f0 f1 f2 Q E) n) v3 w := hv
    have hc1 : rm_X2_periodsAreTrue.cells = 0 := rfl
    have hc2 : rm_X2_periodsAreTrue.slots = 0 := rfl
    refine lv_iload_n hx hb dX2_periodsAreTrue_7 rfl (lv_at hl 3 rfl) ?_
    refine lv_iload_n hx hb dX2_periodsAreTrue_8 rfl (lv_at hl 2 rfl) ?_
    refine lv_icmp_gt (tgt := 91) hx hb dX2_periodsAreTrue_9 (by decide) (fun hc => ?_) (fun hc => ?_)
    · have hv1 := hv.1 hc
      exact hE  w _ _ _ (lv_sub hl [] rfl) hH hv1
    · have hv2 := hv.2 hc
      refine lv_aload_n hx hb dX2_periodsAreTrue_12 rfl (lv_at hl 1 rfl) ?_
      refine lv_iconst (v := 0) hx hb dX2_periodsAreTrue_13 (by decide) ?_
      refine lv_iload_n hx hb dX2_periodsAreTrue_14 rfl (lv_at hl 2 rfl) ?_
      refine lv_iload_n hx hb dX2_periodsAreTrue_15 rfl (lv_at hl 3 rfl) ?_
      refine lv_isub hx hb dX2_periodsAreTrue_16 ?_
      refine lv_iload_n hx hb dX2_periodsAreTrue_17 rfl (lv_at hl 3 rfl) ?_
      refine lv_iload_n hx hb dX2_periodsAreTrue_18 rfl (lv_at hl 2 rfl) ?_
      refine cl_X2_28 hC hD hH hv2.2 hv2.1 ⟨Nat.le_of_ble_eq_true rfl, Nat.le_of_ble_eq_true rfl⟩ ⟨(Nat.le_of_ble_eq_true rfl), (Nat.le_of_ble_eq_true rfl)⟩ ⟨(Nat.le_of_ble_eq_true rfl), (Nat.le_of_ble_eq_true rfl)⟩ hl.1 (Nat.le_of_ble_eq_true rfl) dX2_periodsAreTrue_19 (fun r3 w4 H locs hH hv5 => ?_)
      obtain ⟨E6, hE7, hv10⟩ := sj_jn1_e hv5
      have hJ8 : ∀ (y0_30 : Int32) (w_30 : sj_W) (H : Heap) (locs : List Loc) (ls : Array Slot), lv_has ls 6 [(0, .ref f0), (1, .ref f1), (2, .int f2), (3, .int v3)] → sj_H G s w_30 H locs → E6 y0_30 w_30 → W p l e rm_X2_periodsAreTrue s m args below meth c H locs 0 0 (sj_MQ G below (va_Qi Q (sj_B G) (sj_F G)) QX args s rm_X2_periodsAreTrue) (F0 m 30 ls [.int y0_30]) := by
        intro y0_30 w_30 H locs ls hl hH hv11
        rw [hE7] at hv11
        refine lv_istore (lv' := [(4, .int y0_30), (0, .ref f0), (1, .ref f1), (2, .int f2), (3, .int v3)]) hx hb dX2_periodsAreTrue_30 hl (by decide) rfl (fun ls hl => ?_)
        refine lv_aload_n hx hb dX2_periodsAreTrue_32 rfl (lv_at hl 1 rfl) ?_
        refine lv_iload_n hx hb dX2_periodsAreTrue_33 rfl (lv_at hl 4 rfl) ?_
        refine cl_X2_32 hC hD hH hv11.2 hv11.1 ⟨Nat.le_of_ble_eq_true rfl, Nat.le_of_ble_eq_true rfl⟩ ⟨(Nat.le_of_ble_eq_true rfl), (Nat.le_of_ble_eq_true rfl)⟩ ⟨(Nat.le_of_ble_eq_true rfl), (Nat.le_of_ble_eq_true rfl)⟩ hl.1 (Nat.le_of_ble_eq_true rfl) dX2_periodsAreTrue_34 (fun r14 w15 H locs hH hv16 => ?_)
        refine lv_iload hx hb dX2_periodsAreTrue_37 (lv_at hl 0 rfl) ?_
        refine lv_icmp_eq (tgt := 44) hx hb dX2_periodsAreTrue_39 (by decide) (fun hc => ?_) (fun hc => ?_)
        · have hv17 := hv16.1 hc
          refine lv_iconst (v := 1) hx hb dX2_periodsAreTrue_44 (by decide) ?_
          refine lv_istore (lv' := [(5, .int 1), (4, .int y0_30), (0, .ref f0), (1, .ref f1), (2, .int f2), (3, .int v3)]) hx hb dX2_periodsAreTrue_45 hl (by decide) rfl (fun ls hl => ?_)
          refine wl_X2_periodsAreTrue_47 hC hD hr hin (fun w_47 H locs ls hl hH hv32 => ?_) 64 1 w15 _ _ _ (lv_sub hl [2, 3, 4, 5, 1, 0] rfl) hH hv17
          refine lv_iinc (v := (v3 + 1)) (lv' := [(3, .int (v3 + 1)), (0, .ref f0), (1, .ref f1), (2, .int f2)]) hx hb dX2_periodsAreTrue_85 hl (k := 3) rfl rfl (by decide) rfl (fun ls hl => ?_)
          refine lv_goto (tgt := 7) hx hb dX2_periodsAreTrue_88 (by decide) ?_
          exact ih (v3 + 1) w_47 _ _ _ (lv_sub hl [1, 2, 3, 0] rfl) hH hv32
        · have hv33 := hv16.2 hc
          refine lv_iconst (v := 0) hx hb dX2_periodsAreTrue_42 (by decide) ?_
          exact sj_retI hC hD.2 hH hr rfl hv33 ⟨(Nat.le_of_ble_eq_true rfl), (Nat.le_of_ble_eq_true rfl)⟩ dX2_periodsAreTrue_43
      clear hE7
      refine lv_if_ne (tgt := 29) hx hb dX2_periodsAreTrue_22 (by decide) (fun hc => ?_) (fun hc => ?_)
      · have hv12 := hv10.1 hc
        refine lv_iconst (v := 0) hx hb dX2_periodsAreTrue_29 (by decide) ?_
        exact hJ8 0 w4 _ _ _ (lv_sub hl [0, 1, 2, 3] rfl) hH hv12
      · have hv13 := hv10.2 hc
        refine lv_iconst (v := 1) hx hb dX2_periodsAreTrue_25 (by decide) ?_
        refine lv_goto (tgt := 30) hx hb dX2_periodsAreTrue_26 (by decide) ?_
        exact hJ8 1 w4 _ _ _ (lv_sub hl [0, 1, 2, 3] rfl) hH hv13
set_option maxHeartbeats 4000000 in
set_option maxRecDepth 100000 in
theorem wk_X2_periodsAreTrue (G : sj_G) (l : Launch) (hlt : l.stackTraces = false) (a1 : Nat) (a2 : Nat) (w : sj_W) (Q : Int32 → sj_W → Prop) (QX : String → sj_W → Prop) (hv : vc_X2_periodsAreTrue a1 a2 w Q) : sj_MI G l yX2_periodsAreTrue (sj_ws yX2_periodsAreTrue cX2_periodsAreTrue 6 (some .boolean)) rm_X2_periodsAreTrue [.ref a1, .ref a2] w Q QX := by
  refine sj_of (by decide +kernel) (Nat.le_of_ble_eq_true rfl) hlt ?_
  intro p e s m args below meth c ls hC hD hr hin hH hl
  have hx := hC.1
  have hb := hC.2.1
  have hl : lv_has ls 6 [(0, .ref a1), (1, .ref a2)] := hl
  refine lv_aload_n hx hb dX2_periodsAreTrue_0 rfl (lv_at hl 0 rfl) ?_
  refine gf_X2_25 hC hH hv.1 dX2_periodsAreTrue_1 ?_
  refine lv_istore_n (lv' := [(2, .int (sj_I w 9 a1)), (0, .ref a1), (1, .ref a2)]) hx hb dX2_periodsAreTrue_4 rfl hl (by decide) rfl (fun ls hl => ?_)
  refine lv_iconst (v := 1) hx hb dX2_periodsAreTrue_5 (by decide) ?_
  refine lv_istore_n (lv' := [(3, .int 1), (2, .int (sj_I w 9 a1)), (0, .ref a1), (1, .ref a2)]) hx hb dX2_periodsAreTrue_6 rfl hl (by decide) rfl (fun ls hl => ?_)
  refine wl_X2_periodsAreTrue_7 hC hD hr hin (fun w_7 H locs ls hl hH hv34 => ?_) 64 1 w _ _ _ (lv_sub hl [2, 3, 1, 0] rfl) hH hv.2
  refine lv_iconst (v := 1) hx hb dX2_periodsAreTrue_91 (by decide) ?_
  exact sj_retI hC hD.2 hH hr rfl hv34 ⟨(Nat.le_of_ble_eq_true rfl), (Nat.le_of_ble_eq_true rfl)⟩ dX2_periodsAreTrue_92
section SJL_X2_periodsAreTrue
variable {p : Program} {l : Launch} {e : Env} {R : Room} {s : State} {m : MethodId} {args : Array Value} {below : List Frame} {meth : Method} {c : Code} {H : Heap} {locs : List Loc} {cells slots : Nat} {Q : State → Prop} {cc : ByteArray} {pc : Nat} {ls : Array Slot} {rest : List Value} {G : sj_G} {nL : Nat} {w : sj_W}
theorem cl_X6_216 {rmM : Room} {QcM : Array Value → State → Outcome → State → Prop} {QX : String → sj_W → Prop} {b0 : Nat} {b1 : Nat} {Qi : Int32 → sj_W → Prop} (hC : sj_C G p l s m args c cc RX6 nL) (hD : sj_D meth c) (hH : sj_H G s w H locs) (hv : vc_X2_periodsAreTrue b0 b1 w Qi) (hR : rm_X2_periodsAreTrue.frames + 1 ≤ R.frames ∧ 8 + (6 + 11) + rm_X2_periodsAreTrue.locals ≤ R.locals) (hf : cells + 0 ≤ R.cells ∧ slots + 0 ≤ R.slots) (hfM : cells + 0 ≤ rmM.cells ∧ slots + 0 ≤ rmM.slots) (hls : ls.size = nL) (hW : (rest.map fun v => v.category).sum ≤ 8) (hdg : decode cc pc = .ok (.invokestatic 216, 3)) (kk : ∀ (r : Int32) (w1 : sj_W) (H : Heap) (locs : List Loc), sj_H G s w1 H locs → Qi r w1 → W p l e R s m args below meth c H locs (cells + 0) (slots + 0) (sj_MQ G below QcM QX args s rmM) (F0 m (pc + 3) ls (.int r :: rest))) : W p l e R s m args below meth c H locs cells slots (sj_MQ G below QcM QX args s rmM) (F0 m pc ls (.ref b1 :: .ref b0 :: rest)) :=
  sj_cI hD hH (sj_runSN (n := 2) hC hH (As := [.ref b0, .ref b1]) (wk_X2_periodsAreTrue G l hC.2.2.2.2.2.2 b0 b1 w Qi QX hv) mb_672 mb_673 mb_15 mb_674 (by decide +kernel) hR hf rfl hls hW hdg) hfM kk
end SJL_X2_periodsAreTrue
abbrev rm_X0_factorEnd : Room := { frames := 0, cells := 0, slots := 0, locals := 0 }
def vc_X0_factorEnd (self : Nat) (a1 : Int32) (w : sj_W) (Q : Int32 → sj_W → Prop) : Prop := sj_T w self = 1 ∧ (((sj_I w 4 self) ≤ (a1 + 1) → sj_T w self = 1 ∧ Q (sj_I w 6 self) w) ∧ (¬ (sj_I w 4 self) ≤ (a1 + 1) → sj_T w self = 1 ∧ sj_A w 3 self ≠ 0 ∧ sj_T w (sj_A w 3 self) = 7 ∧ vp_in (a1 + 1) (sj_N w (sj_A w 3 self)) ∧ Q (sj_i w (sj_A w 3 self) (a1 + 1).toNatClampNeg) w))
set_option maxHeartbeats 4000000 in
set_option maxRecDepth 100000 in
theorem wk_X0_factorEnd (G : sj_G) (l : Launch) (hlt : l.stackTraces = false) (self : Nat) (a1 : Int32) (w : sj_W) (Q : Int32 → sj_W → Prop) (QX : String → sj_W → Prop) (hv : vc_X0_factorEnd self a1 w Q) : sj_MI G l yX0_factorEnd (sj_ws yX0_factorEnd cX0_factorEnd 2 (some .int)) rm_X0_factorEnd [.ref self, .int a1] w Q QX := by
  refine sj_of (by decide +kernel) (Nat.le_of_ble_eq_true rfl) hlt ?_
  intro p e s m args below meth c ls hC hD hr hin hH hl
  have hx := hC.1
  have hb := hC.2.1
  have hl : lv_has ls 2 [(0, .ref self), (1, .int a1)] := hl
  refine lv_iload_n hx hb dX0_factorEnd_0 rfl (lv_at hl 1 rfl) ?_
  refine lv_iconst (v := 1) hx hb dX0_factorEnd_1 (by decide) ?_
  refine lv_iadd hx hb dX0_factorEnd_2 ?_
  refine lv_aload_n hx hb dX0_factorEnd_3 rfl (lv_at hl 0 rfl) ?_
  refine gf_X0_60 hC hH hv.1 dX0_factorEnd_4 ?_
  refine lv_icmp_ge (tgt := 21) hx hb dX0_factorEnd_7 (by decide) (fun hc => ?_) (fun hc => ?_)
  · have hv1 := hv.2.1 hc
    refine lv_aload_n hx hb dX0_factorEnd_21 rfl (lv_at hl 0 rfl) ?_
    refine gf_X0_37 hC hH hv1.1 dX0_factorEnd_22 ?_
    exact sj_retI hC hD.2 hH hr rfl hv1.2 ⟨(Nat.le_of_ble_eq_true rfl), (Nat.le_of_ble_eq_true rfl)⟩ dX0_factorEnd_25
  · have hv2 := hv.2.2 hc
    refine lv_aload_n hx hb dX0_factorEnd_10 rfl (lv_at hl 0 rfl) ?_
    refine gf_X0_23 hC hH hv2.1 hv2.2.1 dX0_factorEnd_11 ?_
    refine lv_iload_n hx hb dX0_factorEnd_14 rfl (lv_at hl 1 rfl) ?_
    refine lv_iconst (v := 1) hx hb dX0_factorEnd_15 (by decide) ?_
    refine lv_iadd hx hb dX0_factorEnd_16 ?_
    refine sj_iald hC hH hv2.2.2.1 hv2.2.2.2.1 dX0_factorEnd_17 ?_
    refine lv_goto (tgt := 25) hx hb dX0_factorEnd_18 (by decide) ?_
    exact sj_retI hC hD.2 hH hr rfl hv2.2.2.2.2 ⟨(Nat.le_of_ble_eq_true rfl), (Nat.le_of_ble_eq_true rfl)⟩ dX0_factorEnd_25
section SJL_X0_factorEnd
variable {p : Program} {l : Launch} {e : Env} {R : Room} {s : State} {m : MethodId} {args : Array Value} {below : List Frame} {meth : Method} {c : Code} {H : Heap} {locs : List Loc} {cells slots : Nat} {Q : State → Prop} {cc : ByteArray} {pc : Nat} {ls : Array Slot} {rest : List Value} {G : sj_G} {nL : Nat} {w : sj_W}
theorem cl_X2_57 {rmM : Room} {QcM : Array Value → State → Outcome → State → Prop} {QX : String → sj_W → Prop} {b : Nat} {b0 : Int32} {Qi : Int32 → sj_W → Prop} (hC : sj_C G p l s m args c cc RX2 nL) (hD : sj_D meth c) (hH : sj_H G s w H locs) (hv : vc_X0_factorEnd b b0 w Qi) (hT : sj_T w b = 1) (hR : rm_X0_factorEnd.frames + 1 ≤ R.frames ∧ 8 + (2 + 11) + rm_X0_factorEnd.locals ≤ R.locals) (hf : cells + 0 ≤ R.cells ∧ slots + 0 ≤ R.slots) (hfM : cells + 0 ≤ rmM.cells ∧ slots + 0 ≤ rmM.slots) (hls : ls.size = nL) (hW : (rest.map fun v => v.category).sum ≤ 8) (hdg : decode cc pc = .ok (.invokevirtual 57, 3)) (kk : ∀ (r : Int32) (w1 : sj_W) (H : Heap) (locs : List Loc), sj_H G s w1 H locs → Qi r w1 → W p l e R s m args below meth c H locs (cells + 0) (slots + 0) (sj_MQ G below QcM QX args s rmM) (F0 m (pc + 3) ls (.int r :: rest))) : W p l e R s m args below meth c H locs cells slots (sj_MQ G below QcM QX args s rmM) (F0 m pc ls (.int b0 :: .ref b :: rest)) :=
  sj_cI hD hH (sj_runVN (n := 1) hC hH (As := [.int b0]) (wk_X0_factorEnd G l hC.2.2.2.2.2.2 b b0 w Qi QX hv) (ci := 0) rfl (by decide) hT mb_687 mb_689 mb_s22 mb_2 mb_690 (by decide +kernel) hR hf rfl hls hW hdg) hfM kk
end SJL_X0_factorEnd
abbrev rm_X0_isLyndon : Room := { frames := 2, cells := 0, slots := 0, locals := 55 }
def vb_X0_isLyndon_4 (f0 : Nat) (f1 : Int32) (f2 : Int32) (Q : Int32 → sj_W → Prop) (E : sj_W → Prop) (K : Int32 → sj_W → Prop) (v3 : Int32) (w : sj_W) : Prop := ((f2 ≤ v3 → E w) ∧ (¬ f2 ≤ v3 → sj_T w f0 = 1 ∧ vc_X0_compareParts f0 f1 f2 v3 f2 w (fun r3 w4 => ((r3 < 0 → K (v3 + 1) w4) ∧ (¬ r3 < 0 → Q 0 w4)))))
def vc_X0_isLyndon (self : Nat) (a1 : Int32) (a2 : Int32) (w : sj_W) (Q : Int32 → sj_W → Prop) : Prop := sj_lp1 (vb_X0_isLyndon_4 self a1 a2 Q (fun w_4 => ((a2 ≤ a1 → Q 0 w_4) ∧ (¬ a2 ≤ a1 → Q 1 w_4)))) 64 (a1 + 1) w
set_option maxHeartbeats 4000000 in
set_option maxRecDepth 100000 in
theorem wl_X0_isLyndon_4 {p : Program} {l : Launch} {e : Env} {s : State} {m : MethodId} {args : Array Value} {below : List Frame} {meth : Method} {c : Code} {G : sj_G} {f0 : Nat} {f1 : Int32} {f2 : Int32} {Q : Int32 → sj_W → Prop} {QX : String → sj_W → Prop} {E : sj_W → Prop} (hC : sj_C G p l s m args c cX0_isLyndon RX0 4) (hD : sj_D meth c) (hr : meth.sig.returnType = (some .boolean)) (hin : meth.name = "isLyndon") (hE : ∀ (w : sj_W) (H : Heap) (locs : List Loc) (ls : Array Slot), lv_has ls 4 [(1, .int f1), (2, .int f2)] → sj_H G s w H locs → E w → W p l e rm_X0_isLyndon s m args below meth c H locs 0 0 (sj_MQ G below (va_Qi Q (sj_B G) (sj_F G)) QX args s rm_X0_isLyndon) (F0 m 28 ls [])) : ∀ (n : Nat) (v3 : Int32) (w : sj_W) (H : Heap) (locs : List Loc) (ls : Array Slot), lv_has ls 4 [(0, .ref f0), (1, .int f1), (2, .int f2), (3, .int v3)] → sj_H G s w H locs → sj_lp1 (vb_X0_isLyndon_4 f0 f1 f2 Q E) n v3 w → W p l e rm_X0_isLyndon s m args below meth c H locs 0 0 (sj_MQ G below (va_Qi Q (sj_B G) (sj_F G)) QX args s rm_X0_isLyndon) (F0 m 4 ls []) := by
  have hx := hC.1
  have hb := hC.2.1
  intro n
  induction n with
  | zero =>
    intro v3 w H locs ls _ _ hv
    exact hv.elim
  | succ n ih =>
    intro v3 w H locs ls hl hH hv
    have hv : vb_X0_isLyndon_4 f0 f1 f2 Q E (sj_lp1 (vb_X0_isLyndon_4 f0 f1 f2 Q E) n) v3 w := hv
    have hc1 : rm_X0_isLyndon.cells = 0 := rfl
    have hc2 : rm_X0_isLyndon.slots = 0 := rfl
    refine lv_iload_n hx hb dX0_isLyndon_4 rfl (lv_at hl 3 rfl) ?_
    refine lv_iload_n hx hb dX0_isLyndon_5 rfl (lv_at hl 2 rfl) ?_
    refine lv_icmp_ge (tgt := 28) hx hb dX0_isLyndon_6 (by decide) (fun hc => ?_) (fun hc => ?_)
    · have hv1 := hv.1 hc
      exact hE  w _ _ _ (lv_sub hl [1, 2] rfl) hH hv1
    · have hv2 := hv.2 hc
      refine lv_aload_n hx hb dX0_isLyndon_9 rfl (lv_at hl 0 rfl) ?_
      refine lv_iload_n hx hb dX0_isLyndon_10 rfl (lv_at hl 1 rfl) ?_
      refine lv_iload_n hx hb dX0_isLyndon_11 rfl (lv_at hl 2 rfl) ?_
      refine lv_iload_n hx hb dX0_isLyndon_12 rfl (lv_at hl 3 rfl) ?_
      refine lv_iload_n hx hb dX0_isLyndon_13 rfl (lv_at hl 2 rfl) ?_
      refine cl_X0_46 hC hD hH hv2.2 hv2.1 ⟨Nat.le_of_ble_eq_true rfl, Nat.le_of_ble_eq_true rfl⟩ ⟨(Nat.le_of_ble_eq_true rfl), (Nat.le_of_ble_eq_true rfl)⟩ ⟨(Nat.le_of_ble_eq_true rfl), (Nat.le_of_ble_eq_true rfl)⟩ hl.1 (Nat.le_of_ble_eq_true rfl) dX0_isLyndon_14 (fun r3 w4 H locs hH hv5 => ?_)
      refine lv_if_lt (tgt := 22) hx hb dX0_isLyndon_17 (by decide) (fun hc => ?_) (fun hc => ?_)
      · have hv6 := hv5.1 hc
        refine lv_iinc (v := (v3 + 1)) (lv' := [(3, .int (v3 + 1)), (0, .ref f0), (1, .int f1), (2, .int f2)]) hx hb dX0_isLyndon_22 hl (k := 3) rfl rfl (by decide) rfl (fun ls hl => ?_)
        refine lv_goto (tgt := 4) hx hb dX0_isLyndon_25 (by decide) ?_
        exact ih (v3 + 1) w4 _ _ _ (lv_sub hl [1, 2, 3, 0] rfl) hH hv6
      · have hv7 := hv5.2 hc
        refine lv_iconst (v := 0) hx hb dX0_isLyndon_20 (by decide) ?_
        exact sj_retI hC hD.2 hH hr rfl hv7 ⟨(Nat.le_of_ble_eq_true rfl), (Nat.le_of_ble_eq_true rfl)⟩ dX0_isLyndon_21
set_option maxHeartbeats 4000000 in
set_option maxRecDepth 100000 in
theorem wk_X0_isLyndon (G : sj_G) (l : Launch) (hlt : l.stackTraces = false) (self : Nat) (a1 : Int32) (a2 : Int32) (w : sj_W) (Q : Int32 → sj_W → Prop) (QX : String → sj_W → Prop) (hv : vc_X0_isLyndon self a1 a2 w Q) : sj_MI G l yX0_isLyndon (sj_ws yX0_isLyndon cX0_isLyndon 4 (some .boolean)) rm_X0_isLyndon [.ref self, .int a1, .int a2] w Q QX := by
  refine sj_of (by decide +kernel) (Nat.le_of_ble_eq_true rfl) hlt ?_
  intro p e s m args below meth c ls hC hD hr hin hH hl
  have hx := hC.1
  have hb := hC.2.1
  have hl : lv_has ls 4 [(0, .ref self), (1, .int a1), (2, .int a2)] := hl
  refine lv_iload_n hx hb dX0_isLyndon_0 rfl (lv_at hl 1 rfl) ?_
  refine lv_iconst (v := 1) hx hb dX0_isLyndon_1 (by decide) ?_
  refine lv_iadd hx hb dX0_isLyndon_2 ?_
  refine lv_istore_n (lv' := [(3, .int (a1 + 1)), (0, .ref self), (1, .int a1), (2, .int a2)]) hx hb dX0_isLyndon_3 rfl hl (by decide) rfl (fun ls hl => ?_)
  refine wl_X0_isLyndon_4 hC hD hr hin (fun w_4 H locs ls hl hH hv8 => ?_) 64 (a1 + 1) w _ _ _ (lv_sub hl [1, 2, 3, 0] rfl) hH hv
  refine lv_iload_n hx hb dX0_isLyndon_28 rfl (lv_at hl 0 rfl) ?_
  refine lv_iload_n hx hb dX0_isLyndon_29 rfl (lv_at hl 1 rfl) ?_
  refine lv_icmp_ge (tgt := 37) hx hb dX0_isLyndon_30 (by decide) (fun hc => ?_) (fun hc => ?_)
  · have hv9 := hv8.1 hc
    refine lv_iconst (v := 0) hx hb dX0_isLyndon_37 (by decide) ?_
    exact sj_retI hC hD.2 hH hr rfl hv9 ⟨(Nat.le_of_ble_eq_true rfl), (Nat.le_of_ble_eq_true rfl)⟩ dX0_isLyndon_38
  · have hv10 := hv8.2 hc
    refine lv_iconst (v := 1) hx hb dX0_isLyndon_33 (by decide) ?_
    refine lv_goto (tgt := 38) hx hb dX0_isLyndon_34 (by decide) ?_
    exact sj_retI hC hD.2 hH hr rfl hv10 ⟨(Nat.le_of_ble_eq_true rfl), (Nat.le_of_ble_eq_true rfl)⟩ dX0_isLyndon_38
section SJL_X0_isLyndon
variable {p : Program} {l : Launch} {e : Env} {R : Room} {s : State} {m : MethodId} {args : Array Value} {below : List Frame} {meth : Method} {c : Code} {H : Heap} {locs : List Loc} {cells slots : Nat} {Q : State → Prop} {cc : ByteArray} {pc : Nat} {ls : Array Slot} {rest : List Value} {G : sj_G} {nL : Nat} {w : sj_W}
theorem cl_X0_63 {rmM : Room} {QcM : Array Value → State → Outcome → State → Prop} {QX : String → sj_W → Prop} {b : Nat} {b0 : Int32} {b1 : Int32} {Qi : Int32 → sj_W → Prop} (hC : sj_C G p l s m args c cc RX0 nL) (hD : sj_D meth c) (hH : sj_H G s w H locs) (hv : vc_X0_isLyndon b b0 b1 w Qi) (hT : sj_T w b = 1) (hR : rm_X0_isLyndon.frames + 1 ≤ R.frames ∧ 8 + (4 + 11) + rm_X0_isLyndon.locals ≤ R.locals) (hf : cells + 0 ≤ R.cells ∧ slots + 0 ≤ R.slots) (hfM : cells + 0 ≤ rmM.cells ∧ slots + 0 ≤ rmM.slots) (hls : ls.size = nL) (hW : (rest.map fun v => v.category).sum ≤ 8) (hdg : decode cc pc = .ok (.invokevirtual 63, 3)) (kk : ∀ (r : Int32) (w1 : sj_W) (H : Heap) (locs : List Loc), sj_H G s w1 H locs → Qi r w1 → W p l e R s m args below meth c H locs (cells + 0) (slots + 0) (sj_MQ G below QcM QX args s rmM) (F0 m (pc + 3) ls (.int r :: rest))) : W p l e R s m args below meth c H locs cells slots (sj_MQ G below QcM QX args s rmM) (F0 m pc ls (.int b1 :: .int b0 :: .ref b :: rest)) :=
  sj_cI hD hH (sj_runV (n := 2) hC hH (As := [.int b0, .int b1]) (wk_X0_isLyndon G l hC.2.2.2.2.2.2 b b0 b1 w Qi QX hv) (ci := 0) rfl (by decide) hT mb_699 mb_693 mb_s23 mb_2 mb_694 (by decide +kernel) hR hf rfl hls hW hdg) hfM kk
theorem cl_X2_61 {rmM : Room} {QcM : Array Value → State → Outcome → State → Prop} {QX : String → sj_W → Prop} {b : Nat} {b0 : Int32} {b1 : Int32} {Qi : Int32 → sj_W → Prop} (hC : sj_C G p l s m args c cc RX2 nL) (hD : sj_D meth c) (hH : sj_H G s w H locs) (hv : vc_X0_isLyndon b b0 b1 w Qi) (hT : sj_T w b = 1) (hR : rm_X0_isLyndon.frames + 1 ≤ R.frames ∧ 8 + (4 + 11) + rm_X0_isLyndon.locals ≤ R.locals) (hf : cells + 0 ≤ R.cells ∧ slots + 0 ≤ R.slots) (hfM : cells + 0 ≤ rmM.cells ∧ slots + 0 ≤ rmM.slots) (hls : ls.size = nL) (hW : (rest.map fun v => v.category).sum ≤ 8) (hdg : decode cc pc = .ok (.invokevirtual 61, 3)) (kk : ∀ (r : Int32) (w1 : sj_W) (H : Heap) (locs : List Loc), sj_H G s w1 H locs → Qi r w1 → W p l e R s m args below meth c H locs (cells + 0) (slots + 0) (sj_MQ G below QcM QX args s rmM) (F0 m (pc + 3) ls (.int r :: rest))) : W p l e R s m args below meth c H locs cells slots (sj_MQ G below QcM QX args s rmM) (F0 m pc ls (.int b1 :: .int b0 :: .ref b :: rest)) :=
  sj_cI hD hH (sj_runVN (n := 2) hC hH (As := [.int b0, .int b1]) (wk_X0_isLyndon G l hC.2.2.2.2.2.2 b b0 b1 w Qi QX hv) (ci := 0) rfl (by decide) hT mb_691 mb_693 mb_s23 mb_2 mb_694 (by decide +kernel) hR hf rfl hls hW hdg) hfM kk
end SJL_X0_isLyndon
abbrev rm_X0_waysBehind : Room := { frames := 2, cells := 0, slots := 0, locals := 55 }
def vb_X0_waysBehind_17 (f0 : Nat) (f1 : Int32) (f2 : Int32) (Q : Int32 → sj_W → Prop) (E : Int32 → sj_W → Prop) (K : Int32 → Int32 → sj_W → Prop) (v3 : Int32) (v4 : Int32) (w : sj_W) : Prop := sj_T w f0 = 1 ∧ (((sj_I w 6 f0) < v4 → E v3 w) ∧ (¬ (sj_I w 6 f0) < v4 → sj_T w f0 = 1 ∧ sj_A w 1 f0 ≠ 0 ∧ sj_T w (sj_A w 1 f0) = 13 ∧ vp_in f2 (sj_N w (sj_A w 1 f0)) ∧ (sj_r w (sj_A w 1 f0) f2.toNatClampNeg) ≠ 0 ∧ sj_T w (sj_r w (sj_A w 1 f0) f2.toNatClampNeg) = 7 ∧ vp_in v4 (sj_N w (sj_r w (sj_A w 1 f0) f2.toNatClampNeg)) ∧ (((sj_i w (sj_r w (sj_A w 1 f0) f2.toNatClampNeg) v4.toNatClampNeg) = 0 → K v3 (v4 + 1) w) ∧ (¬ (sj_i w (sj_r w (sj_A w 1 f0) f2.toNatClampNeg) v4.toNatClampNeg) = 0 → sj_T w f0 = 1 ∧ vc_X0_compareParts f0 f1 f2 f2 v4 w (fun r6 w7 => ((r6 < 0 → K v3 (v4 + 1) w7) ∧ (¬ r6 < 0 → sj_T w7 f0 = 1 ∧ sj_A w7 1 f0 ≠ 0 ∧ sj_T w7 (sj_A w7 1 f0) = 13 ∧ vp_in f2 (sj_N w7 (sj_A w7 1 f0)) ∧ (sj_r w7 (sj_A w7 1 f0) f2.toNatClampNeg) ≠ 0 ∧ sj_T w7 (sj_r w7 (sj_A w7 1 f0) f2.toNatClampNeg) = 7 ∧ vp_in v4 (sj_N w7 (sj_r w7 (sj_A w7 1 f0) f2.toNatClampNeg)) ∧ K (v3 + (sj_i w7 (sj_r w7 (sj_A w7 1 f0) f2.toNatClampNeg) v4.toNatClampNeg)) (v4 + 1) w7)))))))
def vc_X0_waysBehind (self : Nat) (a1 : Int32) (a2 : Int32) (w : sj_W) (Q : Int32 → sj_W → Prop) : Prop := sj_T w self = 1 ∧ ((¬ a2 = (sj_I w 6 self) → sj_lp2 (vb_X0_waysBehind_17 self a1 a2 Q (fun z3_17 w_17 => Q z3_17 w_17)) 64 0 (a2 + 1) w) ∧ (a2 = (sj_I w 6 self) → Q 1 w))
set_option maxHeartbeats 4000000 in
set_option maxRecDepth 100000 in
theorem wl_X0_waysBehind_17 {p : Program} {l : Launch} {e : Env} {s : State} {m : MethodId} {args : Array Value} {below : List Frame} {meth : Method} {c : Code} {G : sj_G} {f0 : Nat} {f1 : Int32} {f2 : Int32} {Q : Int32 → sj_W → Prop} {QX : String → sj_W → Prop} {E : Int32 → sj_W → Prop} (hC : sj_C G p l s m args c cX0_waysBehind RX0 5) (hD : sj_D meth c) (hr : meth.sig.returnType = (some .int)) (hin : meth.name = "waysBehind") (hE : ∀ (v3 : Int32) (w : sj_W) (H : Heap) (locs : List Loc) (ls : Array Slot), lv_has ls 5 [(3, .int v3)] → sj_H G s w H locs → E v3 w → W p l e rm_X0_waysBehind s m args below meth c H locs 0 0 (sj_MQ G below (va_Qi Q (sj_B G) (sj_F G)) QX args s rm_X0_waysBehind) (F0 m 68 ls [])) : ∀ (n : Nat) (v3 : Int32) (v4 : Int32) (w : sj_W) (H : Heap) (locs : List Loc) (ls : Array Slot), lv_has ls 5 [(0, .ref f0), (1, .int f1), (2, .int f2), (3, .int v3), (4, .int v4)] → sj_H G s w H locs → sj_lp2 (vb_X0_waysBehind_17 f0 f1 f2 Q E) n v3 v4 w → W p l e rm_X0_waysBehind s m args below meth c H locs 0 0 (sj_MQ G below (va_Qi Q (sj_B G) (sj_F G)) QX args s rm_X0_waysBehind) (F0 m 17 ls []) := by
  have hx := hC.1
  have hb := hC.2.1
  intro n
  induction n with
  | zero =>
    intro v3 v4 w H locs ls _ _ hv
    exact hv.elim
  | succ n ih =>
    intro v3 v4 w H locs ls hl hH hv
    have hv : vb_X0_waysBehind_17 f0 f1 f2 Q E (sj_lp2 (vb_X0_waysBehind_17 f0 f1 f2 Q E) n) v3 v4 w := hv
    have hc1 : rm_X0_waysBehind.cells = 0 := rfl
    have hc2 : rm_X0_waysBehind.slots = 0 := rfl
    refine lv_iload hx hb dX0_waysBehind_17 (lv_at hl 4 rfl) ?_
    refine lv_aload_n hx hb dX0_waysBehind_19 rfl (lv_at hl 0 rfl) ?_
    refine gf_X0_37 hC hH hv.1 dX0_waysBehind_20 ?_
    refine lv_icmp_gt (tgt := 68) hx hb dX0_waysBehind_23 (by decide) (fun hc => ?_) (fun hc => ?_)
    · have hv2 := hv.2.1 hc
      exact hE v3 w _ _ _ (lv_sub hl [3] rfl) hH hv2
    · have hv3 := hv.2.2 hc
      refine lv_aload_n hx hb dX0_waysBehind_26 rfl (lv_at hl 0 rfl) ?_
      refine gf_X0_16 hC hH hv3.1 hv3.2.1 dX0_waysBehind_27 ?_
      refine lv_iload_n hx hb dX0_waysBehind_30 rfl (lv_at hl 2 rfl) ?_
      refine sj_aaldI hC hH hv3.2.2.1 hv3.2.2.2.1 hv3.2.2.2.2.1 dX0_waysBehind_31 ?_
      refine lv_iload hx hb dX0_waysBehind_32 (lv_at hl 4 rfl) ?_
      refine sj_iald hC hH hv3.2.2.2.2.2.1 hv3.2.2.2.2.2.2.1 dX0_waysBehind_34 ?_
      refine lv_if_eq (tgt := 62) hx hb dX0_waysBehind_35 (by decide) (fun hc => ?_) (fun hc => ?_)
      · have hv4 := hv3.2.2.2.2.2.2.2.1 hc
        refine lv_iinc (v := (v4 + 1)) (lv' := [(4, .int (v4 + 1)), (0, .ref f0), (1, .int f1), (2, .int f2), (3, .int v3)]) hx hb dX0_waysBehind_62 hl (k := 4) rfl rfl (by decide) rfl (fun ls hl => ?_)
        refine lv_goto (tgt := 17) hx hb dX0_waysBehind_65 (by decide) ?_
        exact ih v3 (v4 + 1) w _ _ _ (lv_sub hl [1, 2, 3, 4, 0] rfl) hH hv4
      · have hv5 := hv3.2.2.2.2.2.2.2.2 hc
        refine lv_aload_n hx hb dX0_waysBehind_38 rfl (lv_at hl 0 rfl) ?_
        refine lv_iload_n hx hb dX0_waysBehind_39 rfl (lv_at hl 1 rfl) ?_
        refine lv_iload_n hx hb dX0_waysBehind_40 rfl (lv_at hl 2 rfl) ?_
        refine lv_iload_n hx hb dX0_waysBehind_41 rfl (lv_at hl 2 rfl) ?_
        refine lv_iload hx hb dX0_waysBehind_42 (lv_at hl 4 rfl) ?_
        refine cl_X0_46 hC hD hH hv5.2 hv5.1 ⟨Nat.le_of_ble_eq_true rfl, Nat.le_of_ble_eq_true rfl⟩ ⟨(Nat.le_of_ble_eq_true rfl), (Nat.le_of_ble_eq_true rfl)⟩ ⟨(Nat.le_of_ble_eq_true rfl), (Nat.le_of_ble_eq_true rfl)⟩ hl.1 (Nat.le_of_ble_eq_true rfl) dX0_waysBehind_44 (fun r6 w7 H locs hH hv8 => ?_)
        refine lv_if_lt (tgt := 62) hx hb dX0_waysBehind_47 (by decide) (fun hc => ?_) (fun hc => ?_)
        · have hv9 := hv8.1 hc
          refine lv_iinc (v := (v4 + 1)) (lv' := [(4, .int (v4 + 1)), (0, .ref f0), (1, .int f1), (2, .int f2), (3, .int v3)]) hx hb dX0_waysBehind_62 hl (k := 4) rfl rfl (by decide) rfl (fun ls hl => ?_)
          refine lv_goto (tgt := 17) hx hb dX0_waysBehind_65 (by decide) ?_
          exact ih v3 (v4 + 1) w7 _ _ _ (lv_sub hl [1, 2, 3, 4, 0] rfl) hH hv9
        · have hv10 := hv8.2 hc
          refine lv_iload_n hx hb dX0_waysBehind_50 rfl (lv_at hl 3 rfl) ?_
          refine lv_aload_n hx hb dX0_waysBehind_51 rfl (lv_at hl 0 rfl) ?_
          refine gf_X0_16 hC hH hv10.1 hv10.2.1 dX0_waysBehind_52 ?_
          refine lv_iload_n hx hb dX0_waysBehind_55 rfl (lv_at hl 2 rfl) ?_
          refine sj_aaldI hC hH hv10.2.2.1 hv10.2.2.2.1 hv10.2.2.2.2.1 dX0_waysBehind_56 ?_
          refine lv_iload hx hb dX0_waysBehind_57 (lv_at hl 4 rfl) ?_
          refine sj_iald hC hH hv10.2.2.2.2.2.1 hv10.2.2.2.2.2.2.1 dX0_waysBehind_59 ?_
          refine lv_iadd hx hb dX0_waysBehind_60 ?_
          refine lv_istore_n (lv' := [(3, .int (v3 + (sj_i w7 (sj_r w7 (sj_A w7 1 f0) f2.toNatClampNeg) v4.toNatClampNeg))), (0, .ref f0), (1, .int f1), (2, .int f2), (4, .int v4)]) hx hb dX0_waysBehind_61 rfl hl (by decide) rfl (fun ls hl => ?_)
          refine lv_iinc (v := (v4 + 1)) (lv' := [(4, .int (v4 + 1)), (3, .int (v3 + (sj_i w7 (sj_r w7 (sj_A w7 1 f0) f2.toNatClampNeg) v4.toNatClampNeg))), (0, .ref f0), (1, .int f1), (2, .int f2)]) hx hb dX0_waysBehind_62 hl (k := 4) rfl rfl (by decide) rfl (fun ls hl => ?_)
          refine lv_goto (tgt := 17) hx hb dX0_waysBehind_65 (by decide) ?_
          exact ih (v3 + (sj_i w7 (sj_r w7 (sj_A w7 1 f0) f2.toNatClampNeg) v4.toNatClampNeg)) (v4 + 1) w7 _ _ _ (lv_sub hl [2, 3, 4, 1, 0] rfl) hH hv10.2.2.2.2.2.2.2
set_option maxHeartbeats 4000000 in
set_option maxRecDepth 100000 in
theorem wk_X0_waysBehind (G : sj_G) (l : Launch) (hlt : l.stackTraces = false) (self : Nat) (a1 : Int32) (a2 : Int32) (w : sj_W) (Q : Int32 → sj_W → Prop) (QX : String → sj_W → Prop) (hv : vc_X0_waysBehind self a1 a2 w Q) : sj_MI G l yX0_waysBehind (sj_ws yX0_waysBehind cX0_waysBehind 5 (some .int)) rm_X0_waysBehind [.ref self, .int a1, .int a2] w Q QX := by
  refine sj_of (by decide +kernel) (Nat.le_of_ble_eq_true rfl) hlt ?_
  intro p e s m args below meth c ls hC hD hr hin hH hl
  have hx := hC.1
  have hb := hC.2.1
  have hl : lv_has ls 5 [(0, .ref self), (1, .int a1), (2, .int a2)] := hl
  refine lv_iload_n hx hb dX0_waysBehind_0 rfl (lv_at hl 2 rfl) ?_
  refine lv_aload_n hx hb dX0_waysBehind_1 rfl (lv_at hl 0 rfl) ?_
  refine gf_X0_37 hC hH hv.1 dX0_waysBehind_2 ?_
  refine lv_icmp_ne (tgt := 10) hx hb dX0_waysBehind_5 (by decide) (fun hc => ?_) (fun hc => ?_)
  · have hv1 := hv.2.1 hc
    refine lv_iconst (v := 0) hx hb dX0_waysBehind_10 (by decide) ?_
    refine lv_istore_n (lv' := [(3, .int 0), (0, .ref self), (1, .int a1), (2, .int a2)]) hx hb dX0_waysBehind_11 rfl hl (by decide) rfl (fun ls hl => ?_)
    refine lv_iload_n hx hb dX0_waysBehind_12 rfl (lv_at hl 3 rfl) ?_
    refine lv_iconst (v := 1) hx hb dX0_waysBehind_13 (by decide) ?_
    refine lv_iadd hx hb dX0_waysBehind_14 ?_
    refine lv_istore (lv' := [(4, .int (a2 + 1)), (3, .int 0), (0, .ref self), (1, .int a1), (2, .int a2)]) hx hb dX0_waysBehind_15 hl (by decide) rfl (fun ls hl => ?_)
    refine wl_X0_waysBehind_17 hC hD hr hin (fun z3_17 w_17 H locs ls hl hH hv11 => ?_) 64 0 (a2 + 1) w _ _ _ (lv_sub hl [2, 3, 4, 1, 0] rfl) hH hv1
    refine lv_iload_n hx hb dX0_waysBehind_68 rfl (lv_at hl 0 rfl) ?_
    exact sj_retI hC hD.2 hH hr rfl hv11 ⟨(Nat.le_of_ble_eq_true rfl), (Nat.le_of_ble_eq_true rfl)⟩ dX0_waysBehind_69
  · have hv12 := hv.2.2 hc
    refine lv_iconst (v := 1) hx hb dX0_waysBehind_8 (by decide) ?_
    exact sj_retI hC hD.2 hH hr rfl hv12 ⟨(Nat.le_of_ble_eq_true rfl), (Nat.le_of_ble_eq_true rfl)⟩ dX0_waysBehind_9
section SJL_X0_waysBehind
variable {p : Program} {l : Launch} {e : Env} {R : Room} {s : State} {m : MethodId} {args : Array Value} {below : List Frame} {meth : Method} {c : Code} {H : Heap} {locs : List Loc} {cells slots : Nat} {Q : State → Prop} {cc : ByteArray} {pc : Nat} {ls : Array Slot} {rest : List Value} {G : sj_G} {nL : Nat} {w : sj_W}
theorem cl_X0_67 {rmM : Room} {QcM : Array Value → State → Outcome → State → Prop} {QX : String → sj_W → Prop} {b : Nat} {b0 : Int32} {b1 : Int32} {Qi : Int32 → sj_W → Prop} (hC : sj_C G p l s m args c cc RX0 nL) (hD : sj_D meth c) (hH : sj_H G s w H locs) (hv : vc_X0_waysBehind b b0 b1 w Qi) (hT : sj_T w b = 1) (hR : rm_X0_waysBehind.frames + 1 ≤ R.frames ∧ 8 + (5 + 11) + rm_X0_waysBehind.locals ≤ R.locals) (hf : cells + 0 ≤ R.cells ∧ slots + 0 ≤ R.slots) (hfM : cells + 0 ≤ rmM.cells ∧ slots + 0 ≤ rmM.slots) (hls : ls.size = nL) (hW : (rest.map fun v => v.category).sum ≤ 8) (hdg : decode cc pc = .ok (.invokevirtual 67, 3)) (kk : ∀ (r : Int32) (w1 : sj_W) (H : Heap) (locs : List Loc), sj_H G s w1 H locs → Qi r w1 → W p l e R s m args below meth c H locs (cells + 0) (slots + 0) (sj_MQ G below QcM QX args s rmM) (F0 m (pc + 3) ls (.int r :: rest))) : W p l e R s m args below meth c H locs cells slots (sj_MQ G below QcM QX args s rmM) (F0 m pc ls (.int b1 :: .int b0 :: .ref b :: rest)) :=
  sj_cI hD hH (sj_runV (n := 2) hC hH (As := [.int b0, .int b1]) (wk_X0_waysBehind G l hC.2.2.2.2.2.2 b b0 b1 w Qi QX hv) (ci := 0) rfl (by decide) hT mb_700 mb_702 mb_s25 mb_2 mb_703 (by decide +kernel) hR hf rfl hls hW hdg) hfM kk
end SJL_X0_waysBehind

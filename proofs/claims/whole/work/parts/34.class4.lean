abbrev rm_X1_atRound : Room := { frames := 0, cells := 0, slots := 0, locals := 0 }
def vc_X1_atRound (self : Nat) (a1 : Int32) (w : sj_W) (Q : Int64 → sj_W → Prop) : Prop := sj_T w self = 2 ∧ sj_A w 8 self ≠ 0 ∧ sj_T w self = 2 ∧ (((sj_I w 9 self) ≤ a1 → sj_T w self = 2 ∧ sj_T w (sj_A w 8 self) = 8 ∧ vp_in (a1 - (sj_I w 9 self)) (sj_N w (sj_A w 8 self)) ∧ Q (sj_l w (sj_A w 8 self) (a1 - (sj_I w 9 self)).toNatClampNeg) w) ∧ (¬ (sj_I w 9 self) ≤ a1 → sj_T w (sj_A w 8 self) = 8 ∧ vp_in a1 (sj_N w (sj_A w 8 self)) ∧ Q (sj_l w (sj_A w 8 self) a1.toNatClampNeg) w))
set_option maxHeartbeats 4000000 in
set_option maxRecDepth 100000 in
theorem wk_X1_atRound (G : sj_G) (l : Launch) (hlt : l.stackTraces = false) (self : Nat) (a1 : Int32) (w : sj_W) (Q : Int64 → sj_W → Prop) (QX : String → sj_W → Prop) (hv : vc_X1_atRound self a1 w Q) : sj_ML G l yX1_atRound (sj_ws yX1_atRound cX1_atRound 2 (some .long)) rm_X1_atRound [.ref self, .int a1] w Q QX := by
  refine sj_of (by decide +kernel) (Nat.le_of_ble_eq_true rfl) hlt ?_
  intro p e s m args below meth c ls hC hD hr hin hH hl
  have hx := hC.1
  have hb := hC.2.1
  have hl : lv_has ls 2 [(0, .ref self), (1, .int a1)] := hl
  refine lv_aload_n hx hb dX1_atRound_0 rfl (lv_at hl 0 rfl) ?_
  refine gf_X1_9 hC hH hv.1 hv.2.1 dX1_atRound_1 ?_
  refine lv_iload_n hx hb dX1_atRound_4 rfl (lv_at hl 1 rfl) ?_
  refine lv_aload_n hx hb dX1_atRound_5 rfl (lv_at hl 0 rfl) ?_
  refine gf_X1_15 hC hH hv.2.2.1 dX1_atRound_6 ?_
  refine lv_icmp_ge (tgt := 16) hx hb dX1_atRound_9 (by decide) (fun hc => ?_) (fun hc => ?_)
  · have hv1 := hv.2.2.2.1 hc
    refine lv_iload_n hx hb dX1_atRound_16 rfl (lv_at hl 1 rfl) ?_
    refine lv_aload_n hx hb dX1_atRound_17 rfl (lv_at hl 0 rfl) ?_
    refine gf_X1_15 hC hH hv1.1 dX1_atRound_18 ?_
    refine lv_isub hx hb dX1_atRound_21 ?_
    refine sj_lald hC hH hv1.2.1 hv1.2.2.1 dX1_atRound_22 ?_
    exact sj_retL hC hD hH hr hv1.2.2.2 ⟨(Nat.le_of_ble_eq_true rfl), (Nat.le_of_ble_eq_true rfl)⟩ dX1_atRound_23
  · have hv2 := hv.2.2.2.2 hc
    refine lv_iload_n hx hb dX1_atRound_12 rfl (lv_at hl 1 rfl) ?_
    refine lv_goto (tgt := 22) hx hb dX1_atRound_13 (by decide) ?_
    refine sj_lald hC hH hv2.1 hv2.2.1 dX1_atRound_22 ?_
    exact sj_retL hC hD hH hr hv2.2.2 ⟨(Nat.le_of_ble_eq_true rfl), (Nat.le_of_ble_eq_true rfl)⟩ dX1_atRound_23
section SJL_X1_atRound
variable {p : Program} {l : Launch} {e : Env} {R : Room} {s : State} {m : MethodId} {args : Array Value} {below : List Frame} {meth : Method} {c : Code} {H : Heap} {locs : List Loc} {cells slots : Nat} {Q : State → Prop} {cc : ByteArray} {pc : Nat} {ls : Array Slot} {rest : List Value} {G : sj_G} {nL : Nat} {w : sj_W}
theorem cl_X1_19 {rmM : Room} {QcM : Array Value → State → Outcome → State → Prop} {QX : String → sj_W → Prop} {b : Nat} {b0 : Int32} {Qi : Int64 → sj_W → Prop} (hC : sj_C G p l s m args c cc RX1 nL) (hD : sj_D meth c) (hH : sj_H G s w H locs) (hv : vc_X1_atRound b b0 w Qi) (hT : sj_T w b = 2) (hR : rm_X1_atRound.frames + 1 ≤ R.frames ∧ 8 + (2 + 11) + rm_X1_atRound.locals ≤ R.locals) (hf : cells + 0 ≤ R.cells ∧ slots + 0 ≤ R.slots) (hfM : cells + 0 ≤ rmM.cells ∧ slots + 0 ≤ rmM.slots) (hls : ls.size = nL) (hW : (rest.map fun v => v.category).sum ≤ 8) (hdg : decode cc pc = .ok (.invokevirtual 19, 3)) (kk : ∀ (r : Int64) (w1 : sj_W) (H : Heap) (locs : List Loc), sj_H G s w1 H locs → Qi r w1 → W p l e R s m args below meth c H locs (cells + 0) (slots + 0) (sj_MQ G below QcM QX args s rmM) (F0 m (pc + 3) ls (.long r :: rest))) : W p l e R s m args below meth c H locs cells slots (sj_MQ G below QcM QX args s rmM) (F0 m pc ls (.int b0 :: .ref b :: rest)) :=
  sj_cL hD hH (sj_runV (n := 1) hC hH (As := [.int b0]) (wk_X1_atRound G l hC.2.2.2.2.2.2 b b0 w Qi QX hv) (ci := 1) rfl (by decide) hT mb_567 mb_569 mb_s17 mb_3 mb_570 (by decide +kernel) hR hf rfl hls hW hdg) hfM kk
end SJL_X1_atRound
abbrev rm_X1_compareRotations : Room := { frames := 1, cells := 0, slots := 0, locals := 28 }
def vb_X1_compareRotations_3 (f0 : Nat) (f1 : Int32) (f2 : Int32) (f3 : Int32) (Q : Int32 → sj_W → Prop) (E : sj_W → Prop) (K : Int32 → sj_W → Prop) (v4 : Int32) (w : sj_W) : Prop := sj_T w f0 = 2 ∧ (((sj_I w 9 f0) ≤ v4 → E w) ∧ (¬ (sj_I w 9 f0) ≤ v4 → sj_T w f0 = 2 ∧ vc_X1_atRound f0 (f1 + v4) w (fun r3 w4 => sj_T w4 f0 = 2 ∧ vc_X1_atRound f0 (f2 + v4) w4 (fun r6 w7 => vc_X6_compareNumbers r3 r6 f3 w7 (fun r9 w10 => ((r9 = 0 → K (v4 + 1) w10) ∧ (¬ r9 = 0 → Q r9 w10)))))))
def vc_X1_compareRotations (self : Nat) (a1 : Int32) (a2 : Int32) (a3 : Int32) (w : sj_W) (Q : Int32 → sj_W → Prop) : Prop := sj_lp1 (vb_X1_compareRotations_3 self a1 a2 a3 Q (fun w_3 => Q 0 w_3)) 64 0 w
set_option maxHeartbeats 4000000 in
set_option maxRecDepth 100000 in
theorem wl_X1_compareRotations_3 {p : Program} {l : Launch} {e : Env} {s : State} {m : MethodId} {args : Array Value} {below : List Frame} {meth : Method} {c : Code} {G : sj_G} {f0 : Nat} {f1 : Int32} {f2 : Int32} {f3 : Int32} {Q : Int32 → sj_W → Prop} {QX : String → sj_W → Prop} {E : sj_W → Prop} (hC : sj_C G p l s m args c cX1_compareRotations RX1 6) (hD : sj_D meth c) (hr : meth.sig.returnType = (some .int)) (hin : meth.name = "compareRotations") (hE : ∀ (w : sj_W) (H : Heap) (locs : List Loc) (ls : Array Slot), lv_has ls 6 [] → sj_H G s w H locs → E w → W p l e rm_X1_compareRotations s m args below meth c H locs 0 0 (sj_MQ G below (va_Qi Q (sj_B G) (sj_F G)) QX args s rm_X1_compareRotations) (F0 m 48 ls [])) : ∀ (n : Nat) (v4 : Int32) (w : sj_W) (H : Heap) (locs : List Loc) (ls : Array Slot), lv_has ls 6 [(0, .ref f0), (1, .int f1), (2, .int f2), (3, .int f3), (4, .int v4)] → sj_H G s w H locs → sj_lp1 (vb_X1_compareRotations_3 f0 f1 f2 f3 Q E) n v4 w → W p l e rm_X1_compareRotations s m args below meth c H locs 0 0 (sj_MQ G below (va_Qi Q (sj_B G) (sj_F G)) QX args s rm_X1_compareRotations) (F0 m 3 ls []) := by
  have hx := hC.1
  have hb := hC.2.1
  intro n
  induction n with
  | zero =>
    intro v4 w H locs ls _ _ hv
    exact hv.elim
  | succ n ih =>
    intro v4 w H locs ls hl hH hv
    have hv : vb_X1_compareRotations_3 f0 f1 f2 f3 Q E (sj_lp1 (vb_X1_compareRotations_3 f0 f1 f2 f3 Q E) n) v4 w := hv
    have hc1 : rm_X1_compareRotations.cells = 0 := rfl
    have hc2 : rm_X1_compareRotations.slots = 0 := rfl
    refine lv_iload hx hb dX1_compareRotations_3 (lv_at hl 4 rfl) ?_
    refine lv_aload_n hx hb dX1_compareRotations_5 rfl (lv_at hl 0 rfl) ?_
    refine gf_X1_15 hC hH hv.1 dX1_compareRotations_6 ?_
    refine lv_icmp_ge (tgt := 48) hx hb dX1_compareRotations_9 (by decide) (fun hc => ?_) (fun hc => ?_)
    · have hv1 := hv.2.1 hc
      exact hE  w _ _ _ (lv_sub hl [] rfl) hH hv1
    · have hv2 := hv.2.2 hc
      refine lv_aload_n hx hb dX1_compareRotations_12 rfl (lv_at hl 0 rfl) ?_
      refine lv_iload_n hx hb dX1_compareRotations_13 rfl (lv_at hl 1 rfl) ?_
      refine lv_iload hx hb dX1_compareRotations_14 (lv_at hl 4 rfl) ?_
      refine lv_iadd hx hb dX1_compareRotations_16 ?_
      refine cl_X1_19 hC hD hH hv2.2 hv2.1 ⟨Nat.le_of_ble_eq_true rfl, Nat.le_of_ble_eq_true rfl⟩ ⟨(Nat.le_of_ble_eq_true rfl), (Nat.le_of_ble_eq_true rfl)⟩ ⟨(Nat.le_of_ble_eq_true rfl), (Nat.le_of_ble_eq_true rfl)⟩ hl.1 (Nat.le_of_ble_eq_true rfl) dX1_compareRotations_17 (fun r3 w4 H locs hH hv5 => ?_)
      refine lv_aload_n hx hb dX1_compareRotations_20 rfl (lv_at hl 0 rfl) ?_
      refine lv_iload_n hx hb dX1_compareRotations_21 rfl (lv_at hl 2 rfl) ?_
      refine lv_iload hx hb dX1_compareRotations_22 (lv_at hl 4 rfl) ?_
      refine lv_iadd hx hb dX1_compareRotations_24 ?_
      refine cl_X1_19 hC hD hH hv5.2 hv5.1 ⟨Nat.le_of_ble_eq_true rfl, Nat.le_of_ble_eq_true rfl⟩ ⟨(Nat.le_of_ble_eq_true rfl), (Nat.le_of_ble_eq_true rfl)⟩ ⟨(Nat.le_of_ble_eq_true rfl), (Nat.le_of_ble_eq_true rfl)⟩ hl.1 (Nat.le_of_ble_eq_true rfl) dX1_compareRotations_25 (fun r6 w7 H locs hH hv8 => ?_)
      refine lv_iload_n hx hb dX1_compareRotations_28 rfl (lv_at hl 3 rfl) ?_
      refine cl_X1_23 hC hD hH hv8 ⟨Nat.le_of_ble_eq_true rfl, Nat.le_of_ble_eq_true rfl⟩ ⟨(Nat.le_of_ble_eq_true rfl), (Nat.le_of_ble_eq_true rfl)⟩ ⟨(Nat.le_of_ble_eq_true rfl), (Nat.le_of_ble_eq_true rfl)⟩ hl.1 (Nat.le_of_ble_eq_true rfl) dX1_compareRotations_29 (fun r9 w10 H locs hH hv11 => ?_)
      refine lv_istore (lv' := [(5, .int r9), (0, .ref f0), (1, .int f1), (2, .int f2), (3, .int f3), (4, .int v4)]) hx hb dX1_compareRotations_32 hl (by decide) rfl (fun ls hl => ?_)
      refine lv_iload hx hb dX1_compareRotations_34 (lv_at hl 0 rfl) ?_
      refine lv_if_eq (tgt := 42) hx hb dX1_compareRotations_36 (by decide) (fun hc => ?_) (fun hc => ?_)
      · have hv12 := hv11.1 hc
        refine lv_iinc (v := (v4 + 1)) (lv' := [(4, .int (v4 + 1)), (5, .int r9), (0, .ref f0), (1, .int f1), (2, .int f2), (3, .int f3)]) hx hb dX1_compareRotations_42 hl (k := 5) rfl rfl (by decide) rfl (fun ls hl => ?_)
        refine lv_goto (tgt := 3) hx hb dX1_compareRotations_45 (by decide) ?_
        exact ih (v4 + 1) w10 _ _ _ (lv_sub hl [2, 3, 4, 5, 0] rfl) hH hv12
      · have hv13 := hv11.2 hc
        refine lv_iload hx hb dX1_compareRotations_39 (lv_at hl 0 rfl) ?_
        exact sj_retI hC hD hH hr rfl hv13 ⟨(Nat.le_of_ble_eq_true rfl), (Nat.le_of_ble_eq_true rfl)⟩ dX1_compareRotations_41
set_option maxHeartbeats 4000000 in
set_option maxRecDepth 100000 in
theorem wk_X1_compareRotations (G : sj_G) (l : Launch) (hlt : l.stackTraces = false) (self : Nat) (a1 : Int32) (a2 : Int32) (a3 : Int32) (w : sj_W) (Q : Int32 → sj_W → Prop) (QX : String → sj_W → Prop) (hv : vc_X1_compareRotations self a1 a2 a3 w Q) : sj_MI G l yX1_compareRotations (sj_ws yX1_compareRotations cX1_compareRotations 6 (some .int)) rm_X1_compareRotations [.ref self, .int a1, .int a2, .int a3] w Q QX := by
  refine sj_of (by decide +kernel) (Nat.le_of_ble_eq_true rfl) hlt ?_
  intro p e s m args below meth c ls hC hD hr hin hH hl
  have hx := hC.1
  have hb := hC.2.1
  have hl : lv_has ls 6 [(0, .ref self), (1, .int a1), (2, .int a2), (3, .int a3)] := hl
  refine lv_iconst (v := 0) hx hb dX1_compareRotations_0 (by decide) ?_
  refine lv_istore (lv' := [(4, .int 0), (0, .ref self), (1, .int a1), (2, .int a2), (3, .int a3)]) hx hb dX1_compareRotations_1 hl (by decide) rfl (fun ls hl => ?_)
  refine wl_X1_compareRotations_3 hC hD hr hin (fun w_3 H locs ls hl hH hv14 => ?_) 64 0 w _ _ _ (lv_sub hl [1, 2, 3, 4, 0] rfl) hH hv
  refine lv_iconst (v := 0) hx hb dX1_compareRotations_48 (by decide) ?_
  exact sj_retI hC hD hH hr rfl hv14 ⟨(Nat.le_of_ble_eq_true rfl), (Nat.le_of_ble_eq_true rfl)⟩ dX1_compareRotations_49
section SJL_X1_compareRotations
variable {p : Program} {l : Launch} {e : Env} {R : Room} {s : State} {m : MethodId} {args : Array Value} {below : List Frame} {meth : Method} {c : Code} {H : Heap} {locs : List Loc} {cells slots : Nat} {Q : State → Prop} {cc : ByteArray} {pc : Nat} {ls : Array Slot} {rest : List Value} {G : sj_G} {nL : Nat} {w : sj_W}
theorem cl_X6_176 {rmM : Room} {QcM : Array Value → State → Outcome → State → Prop} {QX : String → sj_W → Prop} {b : Nat} {b0 : Int32} {b1 : Int32} {b2 : Int32} {Qi : Int32 → sj_W → Prop} (hC : sj_C G p l s m args c cc RX6 nL) (hD : sj_D meth c) (hH : sj_H G s w H locs) (hv : vc_X1_compareRotations b b0 b1 b2 w Qi) (hT : sj_T w b = 2) (hR : rm_X1_compareRotations.frames + 1 ≤ R.frames ∧ 8 + (6 + 11) + rm_X1_compareRotations.locals ≤ R.locals) (hf : cells + 0 ≤ R.cells ∧ slots + 0 ≤ R.slots) (hfM : cells + 0 ≤ rmM.cells ∧ slots + 0 ≤ rmM.slots) (hls : ls.size = nL) (hW : (rest.map fun v => v.category).sum ≤ 8) (hdg : decode cc pc = .ok (.invokevirtual 176, 3)) (kk : ∀ (r : Int32) (w1 : sj_W) (H : Heap) (locs : List Loc), sj_H G s w1 H locs → Qi r w1 → W p l e R s m args below meth c H locs (cells + 0) (slots + 0) (sj_MQ G below QcM QX args s rmM) (F0 m (pc + 3) ls (.int r :: rest))) : W p l e R s m args below meth c H locs cells slots (sj_MQ G below QcM QX args s rmM) (F0 m pc ls (.int b2 :: .int b1 :: .int b0 :: .ref b :: rest)) :=
  sj_cI hD hH (sj_runVN (n := 3) hC hH (As := [.int b0, .int b1, .int b2]) (wk_X1_compareRotations G l hC.2.2.2.2.2.2 b b0 b1 b2 w Qi QX hv) (ci := 1) rfl (by decide) hT mb_563 mb_565 mb_s16 mb_3 mb_566 (by decide +kernel) hR hf rfl hls hW hdg) hfM kk
end SJL_X1_compareRotations
abbrev rm_X6_rotation : Room := { frames := 8, cells := 3, slots := 18, locals := 124 }
def vb_X6_rotation_37 (f5 : Int32) (f6 : Nat) (Q : Int32 → sj_W → Prop) (QX : String → sj_W → Prop) (E : Int32 → sj_W → Prop) (K : Int32 → Int32 → sj_W → Prop) (v7 : Int32) (v8 : Int32) (w : sj_W) : Prop := sj_T w f6 = 2 ∧ (((sj_I w 9 f6) ≤ v8 → E v7 w) ∧ (¬ (sj_I w 9 f6) ≤ v8 → sj_T w f6 = 2 ∧ vc_X1_compareRotations f6 v8 v7 f5 w (fun r13 w14 => ((0 ≤ r13 → K v7 (v8 + 1) w14) ∧ (¬ 0 ≤ r13 → K v8 (v8 + 1) w14)))))
def vc_X6_rotation (self : Nat) (a1 : Int32) (a2 : Int32) (a3 : Int32) (w : sj_W) (Q : Int32 → sj_W → Prop) (QX : String → sj_W → Prop) : Prop := vc_X6_kindOf a1 w (fun r1 w2 => vc_X6_isUnsigned a2 w2 (fun r4 w5 => sj_T w5 self = 5 ∧ vc_X6_rowOf self r1 a3 w5 (fun r7 w8 => sj_T w8 r7 = 2 ∧ ((¬ (sj_I w8 9 r7) = 0 → sj_lp2 (vb_X6_rotation_37 r4 r7 Q QX (fun z7_37 w_37 => Q z7_37 w_37)) 64 0 1 w8) ∧ ((sj_I w8 9 r7) = 0 → Q (-1) w8))) QX) QX) QX
set_option maxHeartbeats 4000000 in
set_option maxRecDepth 100000 in
theorem wl_X6_rotation_37 {p : Program} {l : Launch} {e : Env} {s : State} {m : MethodId} {args : Array Value} {below : List Frame} {meth : Method} {c : Code} {G : sj_G} {f5 : Int32} {f6 : Nat} {Q : Int32 → sj_W → Prop} {QX : String → sj_W → Prop} {E : Int32 → sj_W → Prop} (hC : sj_C G p l s m args c cX6_rotation RX6 9) (hD : sj_D meth c) (hr : meth.sig.returnType = (some .int)) (hin : meth.name = "rotation") (hE : ∀ (v7 : Int32) (w : sj_W) (H : Heap) (locs : List Loc) (ls : Array Slot), lv_has ls 9 [(7, .int v7)] → sj_H G s w H locs → E v7 w → W p l e rm_X6_rotation s m args below meth c H locs 3 18 (sj_MQ G below (va_Qi Q (sj_B G) (sj_F G)) QX args s rm_X6_rotation) (F0 m 71 ls [])) : ∀ (n : Nat) (v7 : Int32) (v8 : Int32) (w : sj_W) (H : Heap) (locs : List Loc) (ls : Array Slot), lv_has ls 9 [(5, .int f5), (6, .ref f6), (7, .int v7), (8, .int v8)] → sj_H G s w H locs → sj_lp2 (vb_X6_rotation_37 f5 f6 Q QX E) n v7 v8 w → W p l e rm_X6_rotation s m args below meth c H locs 3 18 (sj_MQ G below (va_Qi Q (sj_B G) (sj_F G)) QX args s rm_X6_rotation) (F0 m 37 ls []) := by
  have hx := hC.1
  have hb := hC.2.1
  intro n
  induction n with
  | zero =>
    intro v7 v8 w H locs ls _ _ hv
    exact hv.elim
  | succ n ih =>
    intro v7 v8 w H locs ls hl hH hv
    have hv : vb_X6_rotation_37 f5 f6 Q QX E (sj_lp2 (vb_X6_rotation_37 f5 f6 Q QX E) n) v7 v8 w := hv
    have hc1 : rm_X6_rotation.cells = 3 := rfl
    have hc2 : rm_X6_rotation.slots = 18 := rfl
    refine lv_iload hx hb dX6_rotation_37 (lv_at hl 3 rfl) ?_
    refine lv_aload hx hb dX6_rotation_39 (lv_at hl 1 rfl) ?_
    refine gf_X6_46 hC hH hv.1 dX6_rotation_41 ?_
    refine lv_icmp_ge (tgt := 71) hx hb dX6_rotation_44 (by decide) (fun hc => ?_) (fun hc => ?_)
    · have hv11 := hv.2.1 hc
      exact hE v7 w _ _ _ (lv_sub hl [2] rfl) hH hv11
    · have hv12 := hv.2.2 hc
      refine lv_aload hx hb dX6_rotation_47 (lv_at hl 1 rfl) ?_
      refine lv_iload hx hb dX6_rotation_49 (lv_at hl 3 rfl) ?_
      refine lv_iload hx hb dX6_rotation_51 (lv_at hl 2 rfl) ?_
      refine lv_iload hx hb dX6_rotation_53 (lv_at hl 0 rfl) ?_
      refine cl_X6_176 hC hD hH hv12.2 hv12.1 ⟨Nat.le_of_ble_eq_true rfl, Nat.le_of_ble_eq_true rfl⟩ ⟨(Nat.le_of_ble_eq_true rfl), (Nat.le_of_ble_eq_true rfl)⟩ ⟨(Nat.le_of_ble_eq_true rfl), (Nat.le_of_ble_eq_true rfl)⟩ hl.1 (Nat.le_of_ble_eq_true rfl) dX6_rotation_55 (fun r13 w14 H locs hH hv15 => ?_)
      refine lv_if_ge (tgt := 65) hx hb dX6_rotation_58 (by decide) (fun hc => ?_) (fun hc => ?_)
      · have hv16 := hv15.1 hc
        refine lv_iinc (v := (v8 + 1)) (lv' := [(8, .int (v8 + 1)), (5, .int f5), (6, .ref f6), (7, .int v7)]) hx hb dX6_rotation_65 hl (k := 3) rfl rfl (by decide) rfl (fun ls hl => ?_)
        refine lv_goto (tgt := 37) hx hb dX6_rotation_68 (by decide) ?_
        exact ih v7 (v8 + 1) w14 _ _ _ (lv_sub hl [1, 2, 3, 0] rfl) hH hv16
      · have hv17 := hv15.2 hc
        refine lv_iload hx hb dX6_rotation_61 (lv_at hl 3 rfl) ?_
        refine lv_istore (lv' := [(7, .int v8), (5, .int f5), (6, .ref f6), (8, .int v8)]) hx hb dX6_rotation_63 hl (by decide) rfl (fun ls hl => ?_)
        refine lv_iinc (v := (v8 + 1)) (lv' := [(8, .int (v8 + 1)), (7, .int v8), (5, .int f5), (6, .ref f6)]) hx hb dX6_rotation_65 hl (k := 3) rfl rfl (by decide) rfl (fun ls hl => ?_)
        refine lv_goto (tgt := 37) hx hb dX6_rotation_68 (by decide) ?_
        exact ih v8 (v8 + 1) w14 _ _ _ (lv_sub hl [2, 3, 1, 0] rfl) hH hv17
set_option maxHeartbeats 4000000 in
set_option maxRecDepth 100000 in
theorem wk_X6_rotation (G : sj_G) (l : Launch) (hlt : l.stackTraces = false) (self : Nat) (a1 : Int32) (a2 : Int32) (a3 : Int32) (w : sj_W) (Q : Int32 → sj_W → Prop) (QX : String → sj_W → Prop) (hv : vc_X6_rotation self a1 a2 a3 w Q QX) : sj_MI G l yX6_rotation (sj_ws yX6_rotation cX6_rotation 9 (some .int)) rm_X6_rotation [.ref self, .int a1, .int a2, .int a3] w Q QX := by
  refine sj_of (by decide +kernel) (Nat.le_of_ble_eq_true rfl) hlt ?_
  intro p e s m args below meth c ls hC hD hr hin hH hl
  have hx := hC.1
  have hb := hC.2.1
  have hl : lv_has ls 9 [(0, .ref self), (1, .int a1), (2, .int a2), (3, .int a3)] := hl
  refine lv_iload_n hx hb dX6_rotation_0 rfl (lv_at hl 1 rfl) ?_
  refine cl_X6_34 hC hD hH hv ⟨Nat.le_of_ble_eq_true rfl, Nat.le_of_ble_eq_true rfl⟩ ⟨(Nat.le_of_ble_eq_true rfl), (Nat.le_of_ble_eq_true rfl)⟩ ⟨(Nat.le_of_ble_eq_true rfl), (Nat.le_of_ble_eq_true rfl)⟩ hl.1 (Nat.le_of_ble_eq_true rfl) dX6_rotation_1 (fun r1 w2 H locs hH hv3 => ?_)
  refine lv_istore (lv' := [(4, .int r1), (0, .ref self), (1, .int a1), (2, .int a2), (3, .int a3)]) hx hb dX6_rotation_4 hl (by decide) rfl (fun ls hl => ?_)
  refine lv_iload_n hx hb dX6_rotation_6 rfl (lv_at hl 3 rfl) ?_
  refine cl_X6_133 hC hD hH hv3 ⟨Nat.le_of_ble_eq_true rfl, Nat.le_of_ble_eq_true rfl⟩ ⟨(Nat.le_of_ble_eq_true rfl), (Nat.le_of_ble_eq_true rfl)⟩ ⟨(Nat.le_of_ble_eq_true rfl), (Nat.le_of_ble_eq_true rfl)⟩ hl.1 (Nat.le_of_ble_eq_true rfl) dX6_rotation_7 (fun r4 w5 H locs hH hv6 => ?_)
  refine lv_istore (lv' := [(5, .int r4), (4, .int r1), (0, .ref self), (1, .int a1), (2, .int a2), (3, .int a3)]) hx hb dX6_rotation_10 hl (by decide) rfl (fun ls hl => ?_)
  refine lv_aload_n hx hb dX6_rotation_12 rfl (lv_at hl 2 rfl) ?_
  refine lv_iload hx hb dX6_rotation_13 (lv_at hl 1 rfl) ?_
  refine lv_iload_n hx hb dX6_rotation_15 rfl (lv_at hl 5 rfl) ?_
  refine cl_X6_42 hC hD hH hv6.2 hv6.1 ⟨Nat.le_of_ble_eq_true rfl, Nat.le_of_ble_eq_true rfl⟩ ⟨(Nat.le_of_ble_eq_true rfl), (Nat.le_of_ble_eq_true rfl)⟩ ⟨(Nat.le_of_ble_eq_true rfl), (Nat.le_of_ble_eq_true rfl)⟩ hl.1 (Nat.le_of_ble_eq_true rfl) dX6_rotation_16 (fun r7 w8 H locs hH hv9 => ?_)
  refine lv_astore (lv' := [(6, .ref r7), (5, .int r4), (4, .int r1), (0, .ref self), (1, .int a1), (2, .int a2), (3, .int a3)]) hx hb dX6_rotation_19 hl (by decide) rfl (fun ls hl => ?_)
  refine lv_aload hx hb dX6_rotation_21 (lv_at hl 0 rfl) ?_
  refine gf_X6_46 hC hH hv9.1 dX6_rotation_23 ?_
  refine lv_if_ne (tgt := 31) hx hb dX6_rotation_26 (by decide) (fun hc => ?_) (fun hc => ?_)
  · have hv10 := hv9.2.1 hc
    refine lv_iconst (v := 0) hx hb dX6_rotation_31 (by decide) ?_
    refine lv_istore (lv' := [(7, .int 0), (6, .ref r7), (5, .int r4), (4, .int r1), (0, .ref self), (1, .int a1), (2, .int a2), (3, .int a3)]) hx hb dX6_rotation_32 hl (by decide) rfl (fun ls hl => ?_)
    refine lv_iconst (v := 1) hx hb dX6_rotation_34 (by decide) ?_
    refine lv_istore (lv' := [(8, .int 1), (7, .int 0), (6, .ref r7), (5, .int r4), (4, .int r1), (0, .ref self), (1, .int a1), (2, .int a2), (3, .int a3)]) hx hb dX6_rotation_35 hl (by decide) rfl (fun ls hl => ?_)
    refine wl_X6_rotation_37 hC hD hr hin (fun z7_37 w_37 H locs ls hl hH hv18 => ?_) 64 0 1 w8 _ _ _ (lv_sub hl [3, 2, 1, 0] rfl) hH hv10
    refine lv_iload hx hb dX6_rotation_71 (lv_at hl 0 rfl) ?_
    exact sj_retI hC hD hH hr rfl hv18 ⟨(Nat.le_of_ble_eq_true rfl), (Nat.le_of_ble_eq_true rfl)⟩ dX6_rotation_73
  · have hv19 := hv9.2.2 hc
    refine lv_iconst (v := (-1)) hx hb dX6_rotation_29 (by decide) ?_
    exact sj_retI hC hD hH hr rfl hv19 ⟨(Nat.le_of_ble_eq_true rfl), (Nat.le_of_ble_eq_true rfl)⟩ dX6_rotation_30
abbrev rm_X2_countIsTrue : Room := { frames := 3, cells := 0, slots := 0, locals := 58 }
def vb_X2_countIsTrue_16 (f0 : Nat) (Q : Int32 → sj_W → Prop) (E : Int32 → sj_W → Prop) (K : Int32 → Int32 → sj_W → Prop) (v1 : Int32) (v2 : Int32) (w : sj_W) : Prop := sj_T w f0 = 1 ∧ (((sj_I w 6 f0) ≤ v2 → E v1 w) ∧ (¬ (sj_I w 6 f0) ≤ v2 → sj_T w f0 = 1 ∧ sj_A w 0 f0 ≠ 0 ∧ sj_T w f0 = 1 ∧ sj_A w 2 f0 ≠ 0 ∧ sj_T w (sj_A w 2 f0) = 7 ∧ vp_in (v2 - 1) (sj_N w (sj_A w 2 f0)) ∧ sj_T w (sj_A w 0 f0) = 13 ∧ vp_in (sj_i w (sj_A w 2 f0) (v2 - 1).toNatClampNeg) (sj_N w (sj_A w 0 f0)) ∧ (sj_r w (sj_A w 0 f0) (sj_i w (sj_A w 2 f0) (v2 - 1).toNatClampNeg).toNatClampNeg) ≠ 0 ∧ sj_T w f0 = 1 ∧ sj_A w 2 f0 ≠ 0 ∧ sj_T w (sj_A w 2 f0) = 7 ∧ vp_in v2 (sj_N w (sj_A w 2 f0)) ∧ sj_T w (sj_r w (sj_A w 0 f0) (sj_i w (sj_A w 2 f0) (v2 - 1).toNatClampNeg).toNatClampNeg) = 7 ∧ vp_in (sj_i w (sj_A w 2 f0) v2.toNatClampNeg) (sj_N w (sj_r w (sj_A w 0 f0) (sj_i w (sj_A w 2 f0) (v2 - 1).toNatClampNeg).toNatClampNeg)) ∧ K (v1 - (sj_i w (sj_r w (sj_A w 0 f0) (sj_i w (sj_A w 2 f0) (v2 - 1).toNatClampNeg).toNatClampNeg) (sj_i w (sj_A w 2 f0) v2.toNatClampNeg).toNatClampNeg)) (v2 + 1) w))
def vc_X2_countIsTrue (a1 : Nat) (w : sj_W) (Q : Int32 → sj_W → Prop) : Prop := sj_T w a1 = 1 ∧ sj_T w a1 = 1 ∧ sj_lp2 (vb_X2_countIsTrue_16 a1 Q (fun z1_16 w_16 => sj_T w_16 a1 = 1 ∧ vc_X0_countWords a1 w_16 (fun r4 w5 => ((¬ z1_16 = r4 → Q 0 w5) ∧ (z1_16 = r4 → Q 1 w5))))) 64 (((sj_I w 6 a1) * ((sj_I w 6 a1) + 1)) / 2) 1 w
set_option maxHeartbeats 4000000 in
set_option maxRecDepth 100000 in
theorem wl_X2_countIsTrue_16 {p : Program} {l : Launch} {e : Env} {s : State} {m : MethodId} {args : Array Value} {below : List Frame} {meth : Method} {c : Code} {G : sj_G} {f0 : Nat} {Q : Int32 → sj_W → Prop} {QX : String → sj_W → Prop} {E : Int32 → sj_W → Prop} (hC : sj_C G p l s m args c cX2_countIsTrue RX2 3) (hD : sj_D meth c) (hr : meth.sig.returnType = (some .boolean)) (hin : meth.name = "countIsTrue") (hE : ∀ (v1 : Int32) (w : sj_W) (H : Heap) (locs : List Loc) (ls : Array Slot), lv_has ls 3 [(0, .ref f0), (1, .int v1)] → sj_H G s w H locs → E v1 w → W p l e rm_X2_countIsTrue s m args below meth c H locs 0 0 (sj_MQ G below (va_Qi Q (sj_B G) (sj_F G)) QX args s rm_X2_countIsTrue) (F0 m 53 ls [])) : ∀ (n : Nat) (v1 : Int32) (v2 : Int32) (w : sj_W) (H : Heap) (locs : List Loc) (ls : Array Slot), lv_has ls 3 [(0, .ref f0), (1, .int v1), (2, .int v2)] → sj_H G s w H locs → sj_lp2 (vb_X2_countIsTrue_16 f0 Q E) n v1 v2 w → W p l e rm_X2_countIsTrue s m args below meth c H locs 0 0 (sj_MQ G below (va_Qi Q (sj_B G) (sj_F G)) QX args s rm_X2_countIsTrue) (F0 m 16 ls []) := by
  have hx := hC.1
  have hb := hC.2.1
  intro n
  induction n with
  | zero =>
    intro v1 v2 w H locs ls _ _ hv
    exact hv.elim
  | succ n ih =>
    intro v1 v2 w H locs ls hl hH hv
    have hv : vb_X2_countIsTrue_16 f0 Q E (sj_lp2 (vb_X2_countIsTrue_16 f0 Q E) n) v1 v2 w := hv
    have hc1 : rm_X2_countIsTrue.cells = 0 := rfl
    have hc2 : rm_X2_countIsTrue.slots = 0 := rfl
    refine lv_iload_n hx hb dX2_countIsTrue_16 rfl (lv_at hl 2 rfl) ?_
    refine lv_aload_n hx hb dX2_countIsTrue_17 rfl (lv_at hl 0 rfl) ?_
    refine gf_X2_7 hC hH hv.1 dX2_countIsTrue_18 ?_
    refine lv_icmp_ge (tgt := 53) hx hb dX2_countIsTrue_21 (by decide) (fun hc => ?_) (fun hc => ?_)
    · have hv1 := hv.2.1 hc
      exact hE v1 w _ _ _ (lv_sub hl [0, 1] rfl) hH hv1
    · have hv2 := hv.2.2 hc
      refine lv_iload_n hx hb dX2_countIsTrue_24 rfl (lv_at hl 1 rfl) ?_
      refine lv_aload_n hx hb dX2_countIsTrue_25 rfl (lv_at hl 0 rfl) ?_
      refine gf_X2_13 hC hH hv2.1 hv2.2.1 dX2_countIsTrue_26 ?_
      refine lv_aload_n hx hb dX2_countIsTrue_29 rfl (lv_at hl 0 rfl) ?_
      refine gf_X2_17 hC hH hv2.2.2.1 hv2.2.2.2.1 dX2_countIsTrue_30 ?_
      refine lv_iload_n hx hb dX2_countIsTrue_33 rfl (lv_at hl 2 rfl) ?_
      refine lv_iconst (v := 1) hx hb dX2_countIsTrue_34 (by decide) ?_
      refine lv_isub hx hb dX2_countIsTrue_35 ?_
      refine sj_iald hC hH hv2.2.2.2.2.1 hv2.2.2.2.2.2.1 dX2_countIsTrue_36 ?_
      refine sj_aaldI hC hH hv2.2.2.2.2.2.2.1 hv2.2.2.2.2.2.2.2.1 hv2.2.2.2.2.2.2.2.2.1 dX2_countIsTrue_37 ?_
      refine lv_aload_n hx hb dX2_countIsTrue_38 rfl (lv_at hl 0 rfl) ?_
      refine gf_X2_17 hC hH hv2.2.2.2.2.2.2.2.2.2.1 hv2.2.2.2.2.2.2.2.2.2.2.1 dX2_countIsTrue_39 ?_
      refine lv_iload_n hx hb dX2_countIsTrue_42 rfl (lv_at hl 2 rfl) ?_
      refine sj_iald hC hH hv2.2.2.2.2.2.2.2.2.2.2.2.1 hv2.2.2.2.2.2.2.2.2.2.2.2.2.1 dX2_countIsTrue_43 ?_
      refine sj_iald hC hH hv2.2.2.2.2.2.2.2.2.2.2.2.2.2.1 hv2.2.2.2.2.2.2.2.2.2.2.2.2.2.2.1 dX2_countIsTrue_44 ?_
      refine lv_isub hx hb dX2_countIsTrue_45 ?_
      refine lv_istore_n (lv' := [(1, .int (v1 - (sj_i w (sj_r w (sj_A w 0 f0) (sj_i w (sj_A w 2 f0) (v2 - 1).toNatClampNeg).toNatClampNeg) (sj_i w (sj_A w 2 f0) v2.toNatClampNeg).toNatClampNeg))), (0, .ref f0), (2, .int v2)]) hx hb dX2_countIsTrue_46 rfl hl (by decide) rfl (fun ls hl => ?_)
      refine lv_iinc (v := (v2 + 1)) (lv' := [(2, .int (v2 + 1)), (1, .int (v1 - (sj_i w (sj_r w (sj_A w 0 f0) (sj_i w (sj_A w 2 f0) (v2 - 1).toNatClampNeg).toNatClampNeg) (sj_i w (sj_A w 2 f0) v2.toNatClampNeg).toNatClampNeg))), (0, .ref f0)]) hx hb dX2_countIsTrue_47 hl (k := 2) rfl rfl (by decide) rfl (fun ls hl => ?_)
      refine lv_goto (tgt := 16) hx hb dX2_countIsTrue_50 (by decide) ?_
      exact ih (v1 - (sj_i w (sj_r w (sj_A w 0 f0) (sj_i w (sj_A w 2 f0) (v2 - 1).toNatClampNeg).toNatClampNeg) (sj_i w (sj_A w 2 f0) v2.toNatClampNeg).toNatClampNeg)) (v2 + 1) w _ _ _ (lv_sub hl [2, 1, 0] rfl) hH hv2.2.2.2.2.2.2.2.2.2.2.2.2.2.2.2
set_option maxHeartbeats 4000000 in
set_option maxRecDepth 100000 in
theorem wk_X2_countIsTrue (G : sj_G) (l : Launch) (hlt : l.stackTraces = false) (a1 : Nat) (w : sj_W) (Q : Int32 → sj_W → Prop) (QX : String → sj_W → Prop) (hv : vc_X2_countIsTrue a1 w Q) : sj_MI G l yX2_countIsTrue (sj_ws yX2_countIsTrue cX2_countIsTrue 3 (some .boolean)) rm_X2_countIsTrue [.ref a1] w Q QX := by
  refine sj_of (by decide +kernel) (Nat.le_of_ble_eq_true rfl) hlt ?_
  intro p e s m args below meth c ls hC hD hr hin hH hl
  have hx := hC.1
  have hb := hC.2.1
  have hl : lv_has ls 3 [(0, .ref a1)] := hl
  refine lv_aload_n hx hb dX2_countIsTrue_0 rfl (lv_at hl 0 rfl) ?_
  refine gf_X2_7 hC hH hv.1 dX2_countIsTrue_1 ?_
  refine lv_aload_n hx hb dX2_countIsTrue_4 rfl (lv_at hl 0 rfl) ?_
  refine gf_X2_7 hC hH hv.2.1 dX2_countIsTrue_5 ?_
  refine lv_iconst (v := 1) hx hb dX2_countIsTrue_8 (by decide) ?_
  refine lv_iadd hx hb dX2_countIsTrue_9 ?_
  refine lv_imul hx hb dX2_countIsTrue_10 ?_
  refine lv_iconst (v := 2) hx hb dX2_countIsTrue_11 (by decide) ?_
  refine lv_idiv hx hb dX2_countIsTrue_12 (by decide) ?_
  refine lv_istore_n (lv' := [(1, .int (((sj_I w 6 a1) * ((sj_I w 6 a1) + 1)) / 2)), (0, .ref a1)]) hx hb dX2_countIsTrue_13 rfl hl (by decide) rfl (fun ls hl => ?_)
  refine lv_iconst (v := 1) hx hb dX2_countIsTrue_14 (by decide) ?_
  refine lv_istore_n (lv' := [(2, .int 1), (1, .int (((sj_I w 6 a1) * ((sj_I w 6 a1) + 1)) / 2)), (0, .ref a1)]) hx hb dX2_countIsTrue_15 rfl hl (by decide) rfl (fun ls hl => ?_)
  refine wl_X2_countIsTrue_16 hC hD hr hin (fun z1_16 w_16 H locs ls hl hH hv3 => ?_) 64 (((sj_I w 6 a1) * ((sj_I w 6 a1) + 1)) / 2) 1 w _ _ _ (lv_sub hl [2, 1, 0] rfl) hH hv.2.2
  refine lv_iload_n hx hb dX2_countIsTrue_53 rfl (lv_at hl 1 rfl) ?_
  refine lv_aload_n hx hb dX2_countIsTrue_54 rfl (lv_at hl 0 rfl) ?_
  refine cl_X2_21 hC hD hH hv3.2 hv3.1 ⟨Nat.le_of_ble_eq_true rfl, Nat.le_of_ble_eq_true rfl⟩ ⟨(Nat.le_of_ble_eq_true rfl), (Nat.le_of_ble_eq_true rfl)⟩ ⟨(Nat.le_of_ble_eq_true rfl), (Nat.le_of_ble_eq_true rfl)⟩ hl.1 (Nat.le_of_ble_eq_true rfl) dX2_countIsTrue_55 (fun r4 w5 H locs hH hv6 => ?_)
  refine lv_icmp_ne (tgt := 65) hx hb dX2_countIsTrue_58 (by decide) (fun hc => ?_) (fun hc => ?_)
  · have hv7 := hv6.1 hc
    refine lv_iconst (v := 0) hx hb dX2_countIsTrue_65 (by decide) ?_
    exact sj_retI hC hD hH hr rfl hv7 ⟨(Nat.le_of_ble_eq_true rfl), (Nat.le_of_ble_eq_true rfl)⟩ dX2_countIsTrue_66
  · have hv8 := hv6.2 hc
    refine lv_iconst (v := 1) hx hb dX2_countIsTrue_61 (by decide) ?_
    refine lv_goto (tgt := 66) hx hb dX2_countIsTrue_62 (by decide) ?_
    exact sj_retI hC hD hH hr rfl hv8 ⟨(Nat.le_of_ble_eq_true rfl), (Nat.le_of_ble_eq_true rfl)⟩ dX2_countIsTrue_66
section SJL_X2_countIsTrue
variable {p : Program} {l : Launch} {e : Env} {R : Room} {s : State} {m : MethodId} {args : Array Value} {below : List Frame} {meth : Method} {c : Code} {H : Heap} {locs : List Loc} {cells slots : Nat} {Q : State → Prop} {cc : ByteArray} {pc : Nat} {ls : Array Slot} {rest : List Value} {G : sj_G} {nL : Nat} {w : sj_W}
theorem cl_X6_210 {rmM : Room} {QcM : Array Value → State → Outcome → State → Prop} {QX : String → sj_W → Prop} {b0 : Nat} {Qi : Int32 → sj_W → Prop} (hC : sj_C G p l s m args c cc RX6 nL) (hD : sj_D meth c) (hH : sj_H G s w H locs) (hv : vc_X2_countIsTrue b0 w Qi) (hR : rm_X2_countIsTrue.frames + 1 ≤ R.frames ∧ 8 + (3 + 11) + rm_X2_countIsTrue.locals ≤ R.locals) (hf : cells + 0 ≤ R.cells ∧ slots + 0 ≤ R.slots) (hfM : cells + 0 ≤ rmM.cells ∧ slots + 0 ≤ rmM.slots) (hls : ls.size = nL) (hW : (rest.map fun v => v.category).sum ≤ 8) (hdg : decode cc pc = .ok (.invokestatic 210, 3)) (kk : ∀ (r : Int32) (w1 : sj_W) (H : Heap) (locs : List Loc), sj_H G s w1 H locs → Qi r w1 → W p l e R s m args below meth c H locs (cells + 0) (slots + 0) (sj_MQ G below QcM QX args s rmM) (F0 m (pc + 3) ls (.int r :: rest))) : W p l e R s m args below meth c H locs cells slots (sj_MQ G below QcM QX args s rmM) (F0 m pc ls (.ref b0 :: rest)) :=
  sj_cI hD hH (sj_runSN (n := 1) hC hH (As := [.ref b0]) (wk_X2_countIsTrue G l hC.2.2.2.2.2.2 b0 w Qi QX hv) mb_668 mb_669 mb_15 mb_670 (by decide +kernel) hR hf rfl hls hW hdg) hfM kk
end SJL_X2_countIsTrue
abbrev rm_X2_greatestDivisor : Room := { frames := 1, cells := 0, slots := 0, locals := 13 }
def vb_X2_greatestDivisor_6 (f0 : Int32) (f1 : Int32) (Q : Int32 → sj_W → Prop) (E : sj_W → Prop) (K : Int32 → sj_W → Prop) (v2 : Int32) (w : sj_W) : Prop := ((v2 ≤ 1 → E w) ∧ (¬ v2 ≤ 1 → ¬ (v2 : Int32) = 0 ∧ ((¬ (f0 - f0 / v2 * v2) = 0 → K (v2 + (-1)) w) ∧ ((f0 - f0 / v2 * v2) = 0 → ¬ (v2 : Int32) = 0 ∧ ((¬ (f1 - f1 / v2 * v2) = 0 → K (v2 + (-1)) w) ∧ ((f1 - f1 / v2 * v2) = 0 → Q v2 w))))))
def vc_X2_greatestDivisor (a1 : Int32) (a2 : Int32) (w : sj_W) (Q : Int32 → sj_W → Prop) : Prop := sj_lp1 (vb_X2_greatestDivisor_6 a1 a2 Q (fun w_6 => Q 1 w_6)) 64 (if a2 < a1 then a2 else a1) w
set_option maxHeartbeats 4000000 in
set_option maxRecDepth 100000 in
theorem wl_X2_greatestDivisor_6 {p : Program} {l : Launch} {e : Env} {s : State} {m : MethodId} {args : Array Value} {below : List Frame} {meth : Method} {c : Code} {G : sj_G} {f0 : Int32} {f1 : Int32} {Q : Int32 → sj_W → Prop} {QX : String → sj_W → Prop} {E : sj_W → Prop} (hC : sj_C G p l s m args c cX2_greatestDivisor RX2 3) (hD : sj_D meth c) (hr : meth.sig.returnType = (some .int)) (hin : meth.name = "greatestDivisor") (hE : ∀ (w : sj_W) (H : Heap) (locs : List Loc) (ls : Array Slot), lv_has ls 3 [] → sj_H G s w H locs → E w → W p l e rm_X2_greatestDivisor s m args below meth c H locs 0 0 (sj_MQ G below (va_Qi Q (sj_B G) (sj_F G)) QX args s rm_X2_greatestDivisor) (F0 m 31 ls [])) : ∀ (n : Nat) (v2 : Int32) (w : sj_W) (H : Heap) (locs : List Loc) (ls : Array Slot), lv_has ls 3 [(0, .int f0), (1, .int f1), (2, .int v2)] → sj_H G s w H locs → sj_lp1 (vb_X2_greatestDivisor_6 f0 f1 Q E) n v2 w → W p l e rm_X2_greatestDivisor s m args below meth c H locs 0 0 (sj_MQ G below (va_Qi Q (sj_B G) (sj_F G)) QX args s rm_X2_greatestDivisor) (F0 m 6 ls []) := by
  have hx := hC.1
  have hb := hC.2.1
  intro n
  induction n with
  | zero =>
    intro v2 w H locs ls _ _ hv
    exact hv.elim
  | succ n ih =>
    intro v2 w H locs ls hl hH hv
    have hv : vb_X2_greatestDivisor_6 f0 f1 Q E (sj_lp1 (vb_X2_greatestDivisor_6 f0 f1 Q E) n) v2 w := hv
    have hc1 : rm_X2_greatestDivisor.cells = 0 := rfl
    have hc2 : rm_X2_greatestDivisor.slots = 0 := rfl
    refine lv_iload_n hx hb dX2_greatestDivisor_6 rfl (lv_at hl 2 rfl) ?_
    refine lv_iconst (v := 1) hx hb dX2_greatestDivisor_7 (by decide) ?_
    refine lv_icmp_le (tgt := 31) hx hb dX2_greatestDivisor_8 (by decide) (fun hc => ?_) (fun hc => ?_)
    · have hv1 := hv.1 hc
      exact hE  w _ _ _ (lv_sub hl [] rfl) hH hv1
    · have hv2 := hv.2 hc
      refine lv_iload_n hx hb dX2_greatestDivisor_11 rfl (lv_at hl 0 rfl) ?_
      refine lv_iload_n hx hb dX2_greatestDivisor_12 rfl (lv_at hl 2 rfl) ?_
      refine lv_irem hx hb dX2_greatestDivisor_13 hv2.1 ?_
      refine lv_if_ne (tgt := 25) hx hb dX2_greatestDivisor_14 (by decide) (fun hc => ?_) (fun hc => ?_)
      · have hv3 := hv2.2.1 hc
        refine lv_iinc (v := (v2 + (-1))) (lv' := [(2, .int (v2 + (-1))), (0, .int f0), (1, .int f1)]) hx hb dX2_greatestDivisor_25 hl (k := 2) rfl rfl (by decide) rfl (fun ls hl => ?_)
        refine lv_goto (tgt := 6) hx hb dX2_greatestDivisor_28 (by decide) ?_
        exact ih (v2 + (-1)) w _ _ _ (lv_sub hl [1, 2, 0] rfl) hH hv3
      · have hv4 := hv2.2.2 hc
        refine lv_iload_n hx hb dX2_greatestDivisor_17 rfl (lv_at hl 1 rfl) ?_
        refine lv_iload_n hx hb dX2_greatestDivisor_18 rfl (lv_at hl 2 rfl) ?_
        refine lv_irem hx hb dX2_greatestDivisor_19 hv4.1 ?_
        refine lv_if_ne (tgt := 25) hx hb dX2_greatestDivisor_20 (by decide) (fun hc => ?_) (fun hc => ?_)
        · have hv5 := hv4.2.1 hc
          refine lv_iinc (v := (v2 + (-1))) (lv' := [(2, .int (v2 + (-1))), (0, .int f0), (1, .int f1)]) hx hb dX2_greatestDivisor_25 hl (k := 2) rfl rfl (by decide) rfl (fun ls hl => ?_)
          refine lv_goto (tgt := 6) hx hb dX2_greatestDivisor_28 (by decide) ?_
          exact ih (v2 + (-1)) w _ _ _ (lv_sub hl [1, 2, 0] rfl) hH hv5
        · have hv6 := hv4.2.2 hc
          refine lv_iload_n hx hb dX2_greatestDivisor_23 rfl (lv_at hl 2 rfl) ?_
          exact sj_retI hC hD hH hr rfl hv6 ⟨(Nat.le_of_ble_eq_true rfl), (Nat.le_of_ble_eq_true rfl)⟩ dX2_greatestDivisor_24
set_option maxHeartbeats 4000000 in
set_option maxRecDepth 100000 in
theorem wk_X2_greatestDivisor (G : sj_G) (l : Launch) (hlt : l.stackTraces = false) (a1 : Int32) (a2 : Int32) (w : sj_W) (Q : Int32 → sj_W → Prop) (QX : String → sj_W → Prop) (hv : vc_X2_greatestDivisor a1 a2 w Q) : sj_MI G l yX2_greatestDivisor (sj_ws yX2_greatestDivisor cX2_greatestDivisor 3 (some .int)) rm_X2_greatestDivisor [.int a1, .int a2] w Q QX := by
  refine sj_of (by decide +kernel) (Nat.le_of_ble_eq_true rfl) hlt ?_
  intro p e s m args below meth c ls hC hD hr hin hH hl
  have hx := hC.1
  have hb := hC.2.1
  have hl : lv_has ls 3 [(0, .int a1), (1, .int a2)] := hl
  refine lv_iload_n hx hb dX2_greatestDivisor_0 rfl (lv_at hl 0 rfl) ?_
  refine lv_iload_n hx hb dX2_greatestDivisor_1 rfl (lv_at hl 1 rfl) ?_
  refine va_mmin hx hb (hC.2.2.1.trans hl.1.symm) hC.2.2.2.1 (hC.2.2.2.2.1 _ mb_683) (hC.2.2.2.2.1 _ mb_408) (hC.2.2.2.2.1 _ mb_13) (hC.2.2.2.2.1 _ mb_409) (Nat.le_of_ble_eq_true rfl) (Nat.le_of_ble_eq_true rfl) (Nat.le_of_ble_eq_true rfl) (Nat.le_of_ble_eq_true rfl) dX2_greatestDivisor_2 ?_
  refine lv_istore_n (lv' := [(2, .int (if a2 < a1 then a2 else a1)), (0, .int a1), (1, .int a2)]) hx hb dX2_greatestDivisor_5 rfl hl (by decide) rfl (fun ls hl => ?_)
  refine wl_X2_greatestDivisor_6 hC hD hr hin (fun w_6 H locs ls hl hH hv7 => ?_) 64 (if a2 < a1 then a2 else a1) w _ _ _ (lv_sub hl [1, 2, 0] rfl) hH hv
  refine lv_iconst (v := 1) hx hb dX2_greatestDivisor_31 (by decide) ?_
  exact sj_retI hC hD hH hr rfl hv7 ⟨(Nat.le_of_ble_eq_true rfl), (Nat.le_of_ble_eq_true rfl)⟩ dX2_greatestDivisor_32
section SJL_X2_greatestDivisor
variable {p : Program} {l : Launch} {e : Env} {R : Room} {s : State} {m : MethodId} {args : Array Value} {below : List Frame} {meth : Method} {c : Code} {H : Heap} {locs : List Loc} {cells slots : Nat} {Q : State → Prop} {cc : ByteArray} {pc : Nat} {ls : Array Slot} {rest : List Value} {G : sj_G} {nL : Nat} {w : sj_W}
theorem cl_X2_42 {rmM : Room} {QcM : Array Value → State → Outcome → State → Prop} {QX : String → sj_W → Prop} {b0 : Int32} {b1 : Int32} {Qi : Int32 → sj_W → Prop} (hC : sj_C G p l s m args c cc RX2 nL) (hD : sj_D meth c) (hH : sj_H G s w H locs) (hv : vc_X2_greatestDivisor b0 b1 w Qi) (hR : rm_X2_greatestDivisor.frames + 1 ≤ R.frames ∧ 8 + (3 + 11) + rm_X2_greatestDivisor.locals ≤ R.locals) (hf : cells + 0 ≤ R.cells ∧ slots + 0 ≤ R.slots) (hfM : cells + 0 ≤ rmM.cells ∧ slots + 0 ≤ rmM.slots) (hls : ls.size = nL) (hW : (rest.map fun v => v.category).sum ≤ 8) (hdg : decode cc pc = .ok (.invokestatic 42, 3)) (kk : ∀ (r : Int32) (w1 : sj_W) (H : Heap) (locs : List Loc), sj_H G s w1 H locs → Qi r w1 → W p l e R s m args below meth c H locs (cells + 0) (slots + 0) (sj_MQ G below QcM QX args s rmM) (F0 m (pc + 3) ls (.int r :: rest))) : W p l e R s m args below meth c H locs cells slots (sj_MQ G below QcM QX args s rmM) (F0 m pc ls (.int b1 :: .int b0 :: rest)) :=
  sj_cI hD hH (sj_runS (n := 2) hC hH (As := [.int b0, .int b1]) (wk_X2_greatestDivisor G l hC.2.2.2.2.2.2 b0 b1 w Qi QX hv) mb_680 mb_681 mb_15 mb_682 (by decide +kernel) hR hf rfl hls hW hdg) hfM kk
end SJL_X2_greatestDivisor
abbrev rm_X2_divisorIsTrue : Room := { frames := 2, cells := 0, slots := 0, locals := 35 }
def vc_X2_divisorIsTrue (a1 : Nat) (a2 : Int32) (a3 : Int32) (w : sj_W) (Q : Int32 → sj_W → Prop) : Prop := vc_X2_greatestDivisor a2 a3 w (fun r1 w2 => sj_T w2 a1 = 2 ∧ (((sj_I w2 9 a1) < ((a2 + a3) - r1) → Q 1 w2) ∧ (¬ (sj_I w2 9 a1) < ((a2 + a3) - r1) → sj_T w2 a1 = 2 ∧ vc_X1_hasPeriod a1 r1 w2 (fun r6 w7 => ((r6 = 0 → Q 0 w7) ∧ (¬ r6 = 0 → Q 1 w7))))))
set_option maxHeartbeats 4000000 in
set_option maxRecDepth 100000 in
theorem wk_X2_divisorIsTrue (G : sj_G) (l : Launch) (hlt : l.stackTraces = false) (a1 : Nat) (a2 : Int32) (a3 : Int32) (w : sj_W) (Q : Int32 → sj_W → Prop) (QX : String → sj_W → Prop) (hv : vc_X2_divisorIsTrue a1 a2 a3 w Q) : sj_MI G l yX2_divisorIsTrue (sj_ws yX2_divisorIsTrue cX2_divisorIsTrue 4 (some .boolean)) rm_X2_divisorIsTrue [.ref a1, .int a2, .int a3] w Q QX := by
  refine sj_of (by decide +kernel) (Nat.le_of_ble_eq_true rfl) hlt ?_
  intro p e s m args below meth c ls hC hD hr hin hH hl
  have hx := hC.1
  have hb := hC.2.1
  have hl : lv_has ls 4 [(0, .ref a1), (1, .int a2), (2, .int a3)] := hl
  refine lv_iload_n hx hb dX2_divisorIsTrue_0 rfl (lv_at hl 1 rfl) ?_
  refine lv_iload_n hx hb dX2_divisorIsTrue_1 rfl (lv_at hl 2 rfl) ?_
  refine cl_X2_42 hC hD hH hv ⟨Nat.le_of_ble_eq_true rfl, Nat.le_of_ble_eq_true rfl⟩ ⟨(Nat.le_of_ble_eq_true rfl), (Nat.le_of_ble_eq_true rfl)⟩ ⟨(Nat.le_of_ble_eq_true rfl), (Nat.le_of_ble_eq_true rfl)⟩ hl.1 (Nat.le_of_ble_eq_true rfl) dX2_divisorIsTrue_2 (fun r1 w2 H locs hH hv3 => ?_)
  refine lv_istore_n (lv' := [(3, .int r1), (0, .ref a1), (1, .int a2), (2, .int a3)]) hx hb dX2_divisorIsTrue_5 rfl hl (by decide) rfl (fun ls hl => ?_)
  refine lv_iload_n hx hb dX2_divisorIsTrue_6 rfl (lv_at hl 2 rfl) ?_
  refine lv_iload_n hx hb dX2_divisorIsTrue_7 rfl (lv_at hl 3 rfl) ?_
  refine lv_iadd hx hb dX2_divisorIsTrue_8 ?_
  refine lv_iload_n hx hb dX2_divisorIsTrue_9 rfl (lv_at hl 0 rfl) ?_
  refine lv_isub hx hb dX2_divisorIsTrue_10 ?_
  refine lv_aload_n hx hb dX2_divisorIsTrue_11 rfl (lv_at hl 1 rfl) ?_
  refine gf_X2_25 hC hH hv3.1 dX2_divisorIsTrue_12 ?_
  refine lv_icmp_gt (tgt := 26) hx hb dX2_divisorIsTrue_15 (by decide) (fun hc => ?_) (fun hc => ?_)
  · have hv4 := hv3.2.1 hc
    refine lv_iconst (v := 1) hx hb dX2_divisorIsTrue_26 (by decide) ?_
    refine lv_goto (tgt := 31) hx hb dX2_divisorIsTrue_27 (by decide) ?_
    exact sj_retI hC hD hH hr rfl hv4 ⟨(Nat.le_of_ble_eq_true rfl), (Nat.le_of_ble_eq_true rfl)⟩ dX2_divisorIsTrue_31
  · have hv5 := hv3.2.2 hc
    refine lv_aload_n hx hb dX2_divisorIsTrue_18 rfl (lv_at hl 1 rfl) ?_
    refine lv_iload_n hx hb dX2_divisorIsTrue_19 rfl (lv_at hl 0 rfl) ?_
    refine cl_X2_32 hC hD hH hv5.2 hv5.1 ⟨Nat.le_of_ble_eq_true rfl, Nat.le_of_ble_eq_true rfl⟩ ⟨(Nat.le_of_ble_eq_true rfl), (Nat.le_of_ble_eq_true rfl)⟩ ⟨(Nat.le_of_ble_eq_true rfl), (Nat.le_of_ble_eq_true rfl)⟩ hl.1 (Nat.le_of_ble_eq_true rfl) dX2_divisorIsTrue_20 (fun r6 w7 H locs hH hv8 => ?_)
    refine lv_if_eq (tgt := 30) hx hb dX2_divisorIsTrue_23 (by decide) (fun hc => ?_) (fun hc => ?_)
    · have hv9 := hv8.1 hc
      refine lv_iconst (v := 0) hx hb dX2_divisorIsTrue_30 (by decide) ?_
      exact sj_retI hC hD hH hr rfl hv9 ⟨(Nat.le_of_ble_eq_true rfl), (Nat.le_of_ble_eq_true rfl)⟩ dX2_divisorIsTrue_31
    · have hv10 := hv8.2 hc
      refine lv_iconst (v := 1) hx hb dX2_divisorIsTrue_26 (by decide) ?_
      refine lv_goto (tgt := 31) hx hb dX2_divisorIsTrue_27 (by decide) ?_
      exact sj_retI hC hD hH hr rfl hv10 ⟨(Nat.le_of_ble_eq_true rfl), (Nat.le_of_ble_eq_true rfl)⟩ dX2_divisorIsTrue_31
section SJL_X2_divisorIsTrue
variable {p : Program} {l : Launch} {e : Env} {R : Room} {s : State} {m : MethodId} {args : Array Value} {below : List Frame} {meth : Method} {c : Code} {H : Heap} {locs : List Loc} {cells slots : Nat} {Q : State → Prop} {cc : ByteArray} {pc : Nat} {ls : Array Slot} {rest : List Value} {G : sj_G} {nL : Nat} {w : sj_W}
theorem cl_X2_36 {rmM : Room} {QcM : Array Value → State → Outcome → State → Prop} {QX : String → sj_W → Prop} {b0 : Nat} {b1 : Int32} {b2 : Int32} {Qi : Int32 → sj_W → Prop} (hC : sj_C G p l s m args c cc RX2 nL) (hD : sj_D meth c) (hH : sj_H G s w H locs) (hv : vc_X2_divisorIsTrue b0 b1 b2 w Qi) (hR : rm_X2_divisorIsTrue.frames + 1 ≤ R.frames ∧ 8 + (4 + 11) + rm_X2_divisorIsTrue.locals ≤ R.locals) (hf : cells + 0 ≤ R.cells ∧ slots + 0 ≤ R.slots) (hfM : cells + 0 ≤ rmM.cells ∧ slots + 0 ≤ rmM.slots) (hls : ls.size = nL) (hW : (rest.map fun v => v.category).sum ≤ 8) (hdg : decode cc pc = .ok (.invokestatic 36, 3)) (kk : ∀ (r : Int32) (w1 : sj_W) (H : Heap) (locs : List Loc), sj_H G s w1 H locs → Qi r w1 → W p l e R s m args below meth c H locs (cells + 0) (slots + 0) (sj_MQ G below QcM QX args s rmM) (F0 m (pc + 3) ls (.int r :: rest))) : W p l e R s m args below meth c H locs cells slots (sj_MQ G below QcM QX args s rmM) (F0 m pc ls (.int b2 :: .int b1 :: .ref b0 :: rest)) :=
  sj_cI hD hH (sj_runS (n := 3) hC hH (As := [.ref b0, .int b1, .int b2]) (wk_X2_divisorIsTrue G l hC.2.2.2.2.2.2 b0 b1 b2 w Qi QX hv) mb_677 mb_678 mb_15 mb_679 (by decide +kernel) hR hf rfl hls hW hdg) hfM kk
end SJL_X2_divisorIsTrue
abbrev rm_X2_periodsAreTrue : Room := { frames := 3, cells := 0, slots := 0, locals := 58 }
def vb_X2_periodsAreTrue_47 (f0 : Nat) (f1 : Nat) (f2 : Int32) (f3 : Int32) (f4 : Int32) (Q : Int32 → sj_W → Prop) (E : sj_W → Prop) (K : Int32 → sj_W → Prop) (v5 : Int32) (w : sj_W) : Prop := ((f3 ≤ v5 → E w) ∧ (¬ f3 ≤ v5 → ((f4 = 0 → E w) ∧ (¬ f4 = 0 → sj_T w f0 = 2 ∧ vc_X1_hasPeriod f0 v5 w (fun r22 w23 => ((r22 = 0 → K (v5 + 1) w23) ∧ (¬ r22 = 0 → vc_X2_divisorIsTrue f0 f3 v5 w23 (fun r27 w28 => ((¬ r27 = 0 → K (v5 + 1) w28) ∧ (r27 = 0 → Q 0 w28))))))))))
def vb_X2_periodsAreTrue_7 (f0 : Nat) (f1 : Nat) (f2 : Int32) (Q : Int32 → sj_W → Prop) (E : sj_W → Prop) (K : Int32 → sj_W → Prop) (v3 : Int32) (w : sj_W) : Prop := ((f2 < v3 → E w) ∧ (¬ f2 < v3 → sj_T w f1 = 1 ∧ vc_X0_compareParts f1 0 (f2 - v3) v3 f2 w (fun r3 w4 => sj_jn1 (fun (E6 : Int32 → sj_W → Prop) => ((¬ r3 = 0 → E6 0 w4) ∧ (r3 = 0 → E6 1 w4))) (fun (y0_30 : Int32) (w_30 : sj_W) => sj_T w_30 f0 = 2 ∧ vc_X1_hasPeriod f0 v3 w_30 (fun r14 w15 => ((r14 = y0_30 → sj_lp1 (vb_X2_periodsAreTrue_47 f0 f1 f2 v3 y0_30 Q (fun w_47 => K (v3 + 1) w_47)) 64 1 w15) ∧ (¬ r14 = y0_30 → Q 0 w15)))))))
def vc_X2_periodsAreTrue (a1 : Nat) (a2 : Nat) (w : sj_W) (Q : Int32 → sj_W → Prop) : Prop := sj_T w a1 = 2 ∧ sj_lp1 (vb_X2_periodsAreTrue_7 a1 a2 (sj_I w 9 a1) Q (fun w_7 => Q 1 w_7)) 64 1 w
set_option maxHeartbeats 4000000 in
set_option maxRecDepth 100000 in
theorem wl_X2_periodsAreTrue_47 {p : Program} {l : Launch} {e : Env} {s : State} {m : MethodId} {args : Array Value} {below : List Frame} {meth : Method} {c : Code} {G : sj_G} {f0 : Nat} {f1 : Nat} {f2 : Int32} {f3 : Int32} {f4 : Int32} {Q : Int32 → sj_W → Prop} {QX : String → sj_W → Prop} {E : sj_W → Prop} (hC : sj_C G p l s m args c cX2_periodsAreTrue RX2 6) (hD : sj_D meth c) (hr : meth.sig.returnType = (some .boolean)) (hin : meth.name = "periodsAreTrue") (hE : ∀ (w : sj_W) (H : Heap) (locs : List Loc) (ls : Array Slot), lv_has ls 6 [(0, .ref f0), (1, .ref f1), (2, .int f2), (3, .int f3)] → sj_H G s w H locs → E w → W p l e rm_X2_periodsAreTrue s m args below meth c H locs 0 0 (sj_MQ G below (va_Qi Q (sj_B G) (sj_F G)) QX args s rm_X2_periodsAreTrue) (F0 m 85 ls [])) : ∀ (n : Nat) (v5 : Int32) (w : sj_W) (H : Heap) (locs : List Loc) (ls : Array Slot), lv_has ls 6 [(0, .ref f0), (1, .ref f1), (2, .int f2), (3, .int f3), (4, .int f4), (5, .int v5)] → sj_H G s w H locs → sj_lp1 (vb_X2_periodsAreTrue_47 f0 f1 f2 f3 f4 Q E) n v5 w → W p l e rm_X2_periodsAreTrue s m args below meth c H locs 0 0 (sj_MQ G below (va_Qi Q (sj_B G) (sj_F G)) QX args s rm_X2_periodsAreTrue) (F0 m 47 ls []) := by
  have hx := hC.1
  have hb := hC.2.1
  intro n
  induction n with
  | zero =>
    intro v5 w H locs ls _ _ hv
    exact hv.elim
  | succ n ih =>
    intro v5 w H locs ls hl hH hv
    have hv : vb_X2_periodsAreTrue_47 f0 f1 f2 f3 f4 Q E (sj_lp1 (vb_X2_periodsAreTrue_47 f0 f1 f2 f3 f4 Q E) n) v5 w := hv
    have hc1 : rm_X2_periodsAreTrue.cells = 0 := rfl
    have hc2 : rm_X2_periodsAreTrue.slots = 0 := rfl
    refine lv_iload hx hb dX2_periodsAreTrue_47 (lv_at hl 5 rfl) ?_
    refine lv_iload_n hx hb dX2_periodsAreTrue_49 rfl (lv_at hl 3 rfl) ?_
    refine lv_icmp_ge (tgt := 85) hx hb dX2_periodsAreTrue_50 (by decide) (fun hc => ?_) (fun hc => ?_)
    · have hv18 := hv.1 hc
      exact hE  w _ _ _ (lv_sub hl [0, 1, 2, 3] rfl) hH hv18
    · have hv19 := hv.2 hc
      refine lv_iload hx hb dX2_periodsAreTrue_53 (lv_at hl 4 rfl) ?_
      refine lv_if_eq (tgt := 85) hx hb dX2_periodsAreTrue_55 (by decide) (fun hc => ?_) (fun hc => ?_)
      · have hv20 := hv19.1 hc
        exact hE  w _ _ _ (lv_sub hl [0, 1, 2, 3] rfl) hH hv20
      · have hv21 := hv19.2 hc
        refine lv_aload_n hx hb dX2_periodsAreTrue_58 rfl (lv_at hl 0 rfl) ?_
        refine lv_iload hx hb dX2_periodsAreTrue_59 (lv_at hl 5 rfl) ?_
        refine cl_X2_32 hC hD hH hv21.2 hv21.1 ⟨Nat.le_of_ble_eq_true rfl, Nat.le_of_ble_eq_true rfl⟩ ⟨(Nat.le_of_ble_eq_true rfl), (Nat.le_of_ble_eq_true rfl)⟩ ⟨(Nat.le_of_ble_eq_true rfl), (Nat.le_of_ble_eq_true rfl)⟩ hl.1 (Nat.le_of_ble_eq_true rfl) dX2_periodsAreTrue_61 (fun r22 w23 H locs hH hv24 => ?_)
        refine lv_if_eq (tgt := 79) hx hb dX2_periodsAreTrue_64 (by decide) (fun hc => ?_) (fun hc => ?_)
        · have hv25 := hv24.1 hc
          refine lv_iinc (v := (v5 + 1)) (lv' := [(5, .int (v5 + 1)), (0, .ref f0), (1, .ref f1), (2, .int f2), (3, .int f3), (4, .int f4)]) hx hb dX2_periodsAreTrue_79 hl (k := 5) rfl rfl (by decide) rfl (fun ls hl => ?_)
          refine lv_goto (tgt := 47) hx hb dX2_periodsAreTrue_82 (by decide) ?_
          exact ih (v5 + 1) w23 _ _ _ (lv_sub hl [1, 2, 3, 4, 5, 0] rfl) hH hv25
        · have hv26 := hv24.2 hc
          refine lv_aload_n hx hb dX2_periodsAreTrue_67 rfl (lv_at hl 0 rfl) ?_
          refine lv_iload_n hx hb dX2_periodsAreTrue_68 rfl (lv_at hl 3 rfl) ?_
          refine lv_iload hx hb dX2_periodsAreTrue_69 (lv_at hl 5 rfl) ?_
          refine cl_X2_36 hC hD hH hv26 ⟨Nat.le_of_ble_eq_true rfl, Nat.le_of_ble_eq_true rfl⟩ ⟨(Nat.le_of_ble_eq_true rfl), (Nat.le_of_ble_eq_true rfl)⟩ ⟨(Nat.le_of_ble_eq_true rfl), (Nat.le_of_ble_eq_true rfl)⟩ hl.1 (Nat.le_of_ble_eq_true rfl) dX2_periodsAreTrue_71 (fun r27 w28 H locs hH hv29 => ?_)
          refine lv_if_ne (tgt := 79) hx hb dX2_periodsAreTrue_74 (by decide) (fun hc => ?_) (fun hc => ?_)
          · have hv30 := hv29.1 hc
            refine lv_iinc (v := (v5 + 1)) (lv' := [(5, .int (v5 + 1)), (0, .ref f0), (1, .ref f1), (2, .int f2), (3, .int f3), (4, .int f4)]) hx hb dX2_periodsAreTrue_79 hl (k := 5) rfl rfl (by decide) rfl (fun ls hl => ?_)
            refine lv_goto (tgt := 47) hx hb dX2_periodsAreTrue_82 (by decide) ?_
            exact ih (v5 + 1) w28 _ _ _ (lv_sub hl [1, 2, 3, 4, 5, 0] rfl) hH hv30
          · have hv31 := hv29.2 hc
            refine lv_iconst (v := 0) hx hb dX2_periodsAreTrue_77 (by decide) ?_
            exact sj_retI hC hD hH hr rfl hv31 ⟨(Nat.le_of_ble_eq_true rfl), (Nat.le_of_ble_eq_true rfl)⟩ dX2_periodsAreTrue_78
set_option maxHeartbeats 4000000 in
set_option maxRecDepth 100000 in
theorem wl_X2_periodsAreTrue_7 {p : Program} {l : Launch} {e : Env} {s : State} {m : MethodId} {args : Array Value} {below : List Frame} {meth : Method} {c : Code} {G : sj_G} {f0 : Nat} {f1 : Nat} {f2 : Int32} {Q : Int32 → sj_W → Prop} {QX : String → sj_W → Prop} {E : sj_W → Prop} (hC : sj_C G p l s m args c cX2_periodsAreTrue RX2 6) (hD : sj_D meth c) (hr : meth.sig.returnType = (some .boolean)) (hin : meth.name = "periodsAreTrue") (hE : ∀ (w : sj_W) (H : Heap) (locs : List Loc) (ls : Array Slot), lv_has ls 6 [] → sj_H G s w H locs → E w → W p l e rm_X2_periodsAreTrue s m args below meth c H locs 0 0 (sj_MQ G below (va_Qi Q (sj_B G) (sj_F G)) QX args s rm_X2_periodsAreTrue) (F0 m 91 ls [])) : ∀ (n : Nat) (v3 : Int32) (w : sj_W) (H : Heap) (locs : List Loc) (ls : Array Slot), lv_has ls 6 [(0, .ref f0), (1, .ref f1), (2, .int f2), (3, .int v3)] → sj_H G s w H locs → sj_lp1 (vb_X2_periodsAreTrue_7 f0 f1 f2 Q E) n v3 w → W p l e rm_X2_periodsAreTrue s m args below meth c H locs 0 0 (sj_MQ G below (va_Qi Q (sj_B G) (sj_F G)) QX args s rm_X2_periodsAreTrue) (F0 m 7 ls []) := by
  have hx := hC.1
  have hb := hC.2.1
  intro n
  induction n with
  | zero =>
    intro v3 w H locs ls _ _ hv
    exact hv.elim
  | succ n ih =>
    intro v3 w H locs ls hl hH hv
    have hv : vb_X2_periodsAreTrue_7 f0 f1 f2 Q E (sj_lp1 (vb_X2_periodsAreTrue_7 f0 f1 f2 Q E) n) v3 w := hv
    have hc1 : rm_X2_periodsAreTrue.cells = 0 := rfl
    have hc2 : rm_X2_periodsAreTrue.slots = 0 := rfl
    refine lv_iload_n hx hb dX2_periodsAreTrue_7 rfl (lv_at hl 3 rfl) ?_
    refine lv_iload_n hx hb dX2_periodsAreTrue_8 rfl (lv_at hl 2 rfl) ?_
    refine lv_icmp_gt (tgt := 91) hx hb dX2_periodsAreTrue_9 (by decide) (fun hc => ?_) (fun hc => ?_)
    · have hv1 := hv.1 hc
      exact hE  w _ _ _ (lv_sub hl [] rfl) hH hv1
    · have hv2 := hv.2 hc
      refine lv_aload_n hx hb dX2_periodsAreTrue_12 rfl (lv_at hl 1 rfl) ?_
      refine lv_iconst (v := 0) hx hb dX2_periodsAreTrue_13 (by decide) ?_
      refine lv_iload_n hx hb dX2_periodsAreTrue_14 rfl (lv_at hl 2 rfl) ?_
      refine lv_iload_n hx hb dX2_periodsAreTrue_15 rfl (lv_at hl 3 rfl) ?_
      refine lv_isub hx hb dX2_periodsAreTrue_16 ?_
      refine lv_iload_n hx hb dX2_periodsAreTrue_17 rfl (lv_at hl 3 rfl) ?_
      refine lv_iload_n hx hb dX2_periodsAreTrue_18 rfl (lv_at hl 2 rfl) ?_
      refine cl_X2_28 hC hD hH hv2.2 hv2.1 ⟨Nat.le_of_ble_eq_true rfl, Nat.le_of_ble_eq_true rfl⟩ ⟨(Nat.le_of_ble_eq_true rfl), (Nat.le_of_ble_eq_true rfl)⟩ ⟨(Nat.le_of_ble_eq_true rfl), (Nat.le_of_ble_eq_true rfl)⟩ hl.1 (Nat.le_of_ble_eq_true rfl) dX2_periodsAreTrue_19 (fun r3 w4 H locs hH hv5 => ?_)
      obtain ⟨E6, hE7, hv10⟩ := sj_jn1_e hv5
      have hJ8 : ∀ (y0_30 : Int32) (w_30 : sj_W) (H : Heap) (locs : List Loc) (ls : Array Slot), lv_has ls 6 [(0, .ref f0), (1, .ref f1), (2, .int f2), (3, .int v3)] → sj_H G s w_30 H locs → E6 y0_30 w_30 → W p l e rm_X2_periodsAreTrue s m args below meth c H locs 0 0 (sj_MQ G below (va_Qi Q (sj_B G) (sj_F G)) QX args s rm_X2_periodsAreTrue) (F0 m 30 ls [.int y0_30]) := by
        intro y0_30 w_30 H locs ls hl hH hv11
        rw [hE7] at hv11
        refine lv_istore (lv' := [(4, .int y0_30), (0, .ref f0), (1, .ref f1), (2, .int f2), (3, .int v3)]) hx hb dX2_periodsAreTrue_30 hl (by decide) rfl (fun ls hl => ?_)
        refine lv_aload_n hx hb dX2_periodsAreTrue_32 rfl (lv_at hl 1 rfl) ?_
        refine lv_iload_n hx hb dX2_periodsAreTrue_33 rfl (lv_at hl 4 rfl) ?_
        refine cl_X2_32 hC hD hH hv11.2 hv11.1 ⟨Nat.le_of_ble_eq_true rfl, Nat.le_of_ble_eq_true rfl⟩ ⟨(Nat.le_of_ble_eq_true rfl), (Nat.le_of_ble_eq_true rfl)⟩ ⟨(Nat.le_of_ble_eq_true rfl), (Nat.le_of_ble_eq_true rfl)⟩ hl.1 (Nat.le_of_ble_eq_true rfl) dX2_periodsAreTrue_34 (fun r14 w15 H locs hH hv16 => ?_)
        refine lv_iload hx hb dX2_periodsAreTrue_37 (lv_at hl 0 rfl) ?_
        refine lv_icmp_eq (tgt := 44) hx hb dX2_periodsAreTrue_39 (by decide) (fun hc => ?_) (fun hc => ?_)
        · have hv17 := hv16.1 hc
          refine lv_iconst (v := 1) hx hb dX2_periodsAreTrue_44 (by decide) ?_
          refine lv_istore (lv' := [(5, .int 1), (4, .int y0_30), (0, .ref f0), (1, .ref f1), (2, .int f2), (3, .int v3)]) hx hb dX2_periodsAreTrue_45 hl (by decide) rfl (fun ls hl => ?_)
          refine wl_X2_periodsAreTrue_47 hC hD hr hin (fun w_47 H locs ls hl hH hv32 => ?_) 64 1 w15 _ _ _ (lv_sub hl [2, 3, 4, 5, 1, 0] rfl) hH hv17
          refine lv_iinc (v := (v3 + 1)) (lv' := [(3, .int (v3 + 1)), (0, .ref f0), (1, .ref f1), (2, .int f2)]) hx hb dX2_periodsAreTrue_85 hl (k := 3) rfl rfl (by decide) rfl (fun ls hl => ?_)
          refine lv_goto (tgt := 7) hx hb dX2_periodsAreTrue_88 (by decide) ?_
          exact ih (v3 + 1) w_47 _ _ _ (lv_sub hl [1, 2, 3, 0] rfl) hH hv32
        · have hv33 := hv16.2 hc
          refine lv_iconst (v := 0) hx hb dX2_periodsAreTrue_42 (by decide) ?_
          exact sj_retI hC hD hH hr rfl hv33 ⟨(Nat.le_of_ble_eq_true rfl), (Nat.le_of_ble_eq_true rfl)⟩ dX2_periodsAreTrue_43
      clear hE7
      refine lv_if_ne (tgt := 29) hx hb dX2_periodsAreTrue_22 (by decide) (fun hc => ?_) (fun hc => ?_)
      · have hv12 := hv10.1 hc
        refine lv_iconst (v := 0) hx hb dX2_periodsAreTrue_29 (by decide) ?_
        exact hJ8 0 w4 _ _ _ (lv_sub hl [0, 1, 2, 3] rfl) hH hv12
      · have hv13 := hv10.2 hc
        refine lv_iconst (v := 1) hx hb dX2_periodsAreTrue_25 (by decide) ?_
        refine lv_goto (tgt := 30) hx hb dX2_periodsAreTrue_26 (by decide) ?_
        exact hJ8 1 w4 _ _ _ (lv_sub hl [0, 1, 2, 3] rfl) hH hv13
set_option maxHeartbeats 4000000 in
set_option maxRecDepth 100000 in
theorem wk_X2_periodsAreTrue (G : sj_G) (l : Launch) (hlt : l.stackTraces = false) (a1 : Nat) (a2 : Nat) (w : sj_W) (Q : Int32 → sj_W → Prop) (QX : String → sj_W → Prop) (hv : vc_X2_periodsAreTrue a1 a2 w Q) : sj_MI G l yX2_periodsAreTrue (sj_ws yX2_periodsAreTrue cX2_periodsAreTrue 6 (some .boolean)) rm_X2_periodsAreTrue [.ref a1, .ref a2] w Q QX := by
  refine sj_of (by decide +kernel) (Nat.le_of_ble_eq_true rfl) hlt ?_
  intro p e s m args below meth c ls hC hD hr hin hH hl
  have hx := hC.1
  have hb := hC.2.1
  have hl : lv_has ls 6 [(0, .ref a1), (1, .ref a2)] := hl
  refine lv_aload_n hx hb dX2_periodsAreTrue_0 rfl (lv_at hl 0 rfl) ?_
  refine gf_X2_25 hC hH hv.1 dX2_periodsAreTrue_1 ?_
  refine lv_istore_n (lv' := [(2, .int (sj_I w 9 a1)), (0, .ref a1), (1, .ref a2)]) hx hb dX2_periodsAreTrue_4 rfl hl (by decide) rfl (fun ls hl => ?_)
  refine lv_iconst (v := 1) hx hb dX2_periodsAreTrue_5 (by decide) ?_
  refine lv_istore_n (lv' := [(3, .int 1), (2, .int (sj_I w 9 a1)), (0, .ref a1), (1, .ref a2)]) hx hb dX2_periodsAreTrue_6 rfl hl (by decide) rfl (fun ls hl => ?_)
  refine wl_X2_periodsAreTrue_7 hC hD hr hin (fun w_7 H locs ls hl hH hv34 => ?_) 64 1 w _ _ _ (lv_sub hl [2, 3, 1, 0] rfl) hH hv.2
  refine lv_iconst (v := 1) hx hb dX2_periodsAreTrue_91 (by decide) ?_
  exact sj_retI hC hD hH hr rfl hv34 ⟨(Nat.le_of_ble_eq_true rfl), (Nat.le_of_ble_eq_true rfl)⟩ dX2_periodsAreTrue_92
section SJL_X2_periodsAreTrue
variable {p : Program} {l : Launch} {e : Env} {R : Room} {s : State} {m : MethodId} {args : Array Value} {below : List Frame} {meth : Method} {c : Code} {H : Heap} {locs : List Loc} {cells slots : Nat} {Q : State → Prop} {cc : ByteArray} {pc : Nat} {ls : Array Slot} {rest : List Value} {G : sj_G} {nL : Nat} {w : sj_W}
theorem cl_X6_216 {rmM : Room} {QcM : Array Value → State → Outcome → State → Prop} {QX : String → sj_W → Prop} {b0 : Nat} {b1 : Nat} {Qi : Int32 → sj_W → Prop} (hC : sj_C G p l s m args c cc RX6 nL) (hD : sj_D meth c) (hH : sj_H G s w H locs) (hv : vc_X2_periodsAreTrue b0 b1 w Qi) (hR : rm_X2_periodsAreTrue.frames + 1 ≤ R.frames ∧ 8 + (6 + 11) + rm_X2_periodsAreTrue.locals ≤ R.locals) (hf : cells + 0 ≤ R.cells ∧ slots + 0 ≤ R.slots) (hfM : cells + 0 ≤ rmM.cells ∧ slots + 0 ≤ rmM.slots) (hls : ls.size = nL) (hW : (rest.map fun v => v.category).sum ≤ 8) (hdg : decode cc pc = .ok (.invokestatic 216, 3)) (kk : ∀ (r : Int32) (w1 : sj_W) (H : Heap) (locs : List Loc), sj_H G s w1 H locs → Qi r w1 → W p l e R s m args below meth c H locs (cells + 0) (slots + 0) (sj_MQ G below QcM QX args s rmM) (F0 m (pc + 3) ls (.int r :: rest))) : W p l e R s m args below meth c H locs cells slots (sj_MQ G below QcM QX args s rmM) (F0 m pc ls (.ref b1 :: .ref b0 :: rest)) :=
  sj_cI hD hH (sj_runSN (n := 2) hC hH (As := [.ref b0, .ref b1]) (wk_X2_periodsAreTrue G l hC.2.2.2.2.2.2 b0 b1 w Qi QX hv) mb_672 mb_673 mb_15 mb_674 (by decide +kernel) hR hf rfl hls hW hdg) hfM kk
end SJL_X2_periodsAreTrue
abbrev rm_X0_factorEnd : Room := { frames := 0, cells := 0, slots := 0, locals := 0 }
def vc_X0_factorEnd (self : Nat) (a1 : Int32) (w : sj_W) (Q : Int32 → sj_W → Prop) : Prop := sj_T w self = 1 ∧ (((sj_I w 4 self) ≤ (a1 + 1) → sj_T w self = 1 ∧ Q (sj_I w 6 self) w) ∧ (¬ (sj_I w 4 self) ≤ (a1 + 1) → sj_T w self = 1 ∧ sj_A w 3 self ≠ 0 ∧ sj_T w (sj_A w 3 self) = 7 ∧ vp_in (a1 + 1) (sj_N w (sj_A w 3 self)) ∧ Q (sj_i w (sj_A w 3 self) (a1 + 1).toNatClampNeg) w))
set_option maxHeartbeats 4000000 in
set_option maxRecDepth 100000 in
theorem wk_X0_factorEnd (G : sj_G) (l : Launch) (hlt : l.stackTraces = false) (self : Nat) (a1 : Int32) (w : sj_W) (Q : Int32 → sj_W → Prop) (QX : String → sj_W → Prop) (hv : vc_X0_factorEnd self a1 w Q) : sj_MI G l yX0_factorEnd (sj_ws yX0_factorEnd cX0_factorEnd 2 (some .int)) rm_X0_factorEnd [.ref self, .int a1] w Q QX := by
  refine sj_of (by decide +kernel) (Nat.le_of_ble_eq_true rfl) hlt ?_
  intro p e s m args below meth c ls hC hD hr hin hH hl
  have hx := hC.1
  have hb := hC.2.1
  have hl : lv_has ls 2 [(0, .ref self), (1, .int a1)] := hl
  refine lv_iload_n hx hb dX0_factorEnd_0 rfl (lv_at hl 1 rfl) ?_
  refine lv_iconst (v := 1) hx hb dX0_factorEnd_1 (by decide) ?_
  refine lv_iadd hx hb dX0_factorEnd_2 ?_
  refine lv_aload_n hx hb dX0_factorEnd_3 rfl (lv_at hl 0 rfl) ?_
  refine gf_X0_60 hC hH hv.1 dX0_factorEnd_4 ?_
  refine lv_icmp_ge (tgt := 21) hx hb dX0_factorEnd_7 (by decide) (fun hc => ?_) (fun hc => ?_)
  · have hv1 := hv.2.1 hc
    refine lv_aload_n hx hb dX0_factorEnd_21 rfl (lv_at hl 0 rfl) ?_
    refine gf_X0_37 hC hH hv1.1 dX0_factorEnd_22 ?_
    exact sj_retI hC hD hH hr rfl hv1.2 ⟨(Nat.le_of_ble_eq_true rfl), (Nat.le_of_ble_eq_true rfl)⟩ dX0_factorEnd_25
  · have hv2 := hv.2.2 hc
    refine lv_aload_n hx hb dX0_factorEnd_10 rfl (lv_at hl 0 rfl) ?_
    refine gf_X0_23 hC hH hv2.1 hv2.2.1 dX0_factorEnd_11 ?_
    refine lv_iload_n hx hb dX0_factorEnd_14 rfl (lv_at hl 1 rfl) ?_
    refine lv_iconst (v := 1) hx hb dX0_factorEnd_15 (by decide) ?_
    refine lv_iadd hx hb dX0_factorEnd_16 ?_
    refine sj_iald hC hH hv2.2.2.1 hv2.2.2.2.1 dX0_factorEnd_17 ?_
    refine lv_goto (tgt := 25) hx hb dX0_factorEnd_18 (by decide) ?_
    exact sj_retI hC hD hH hr rfl hv2.2.2.2.2 ⟨(Nat.le_of_ble_eq_true rfl), (Nat.le_of_ble_eq_true rfl)⟩ dX0_factorEnd_25
section SJL_X0_factorEnd
variable {p : Program} {l : Launch} {e : Env} {R : Room} {s : State} {m : MethodId} {args : Array Value} {below : List Frame} {meth : Method} {c : Code} {H : Heap} {locs : List Loc} {cells slots : Nat} {Q : State → Prop} {cc : ByteArray} {pc : Nat} {ls : Array Slot} {rest : List Value} {G : sj_G} {nL : Nat} {w : sj_W}
theorem cl_X2_57 {rmM : Room} {QcM : Array Value → State → Outcome → State → Prop} {QX : String → sj_W → Prop} {b : Nat} {b0 : Int32} {Qi : Int32 → sj_W → Prop} (hC : sj_C G p l s m args c cc RX2 nL) (hD : sj_D meth c) (hH : sj_H G s w H locs) (hv : vc_X0_factorEnd b b0 w Qi) (hT : sj_T w b = 1) (hR : rm_X0_factorEnd.frames + 1 ≤ R.frames ∧ 8 + (2 + 11) + rm_X0_factorEnd.locals ≤ R.locals) (hf : cells + 0 ≤ R.cells ∧ slots + 0 ≤ R.slots) (hfM : cells + 0 ≤ rmM.cells ∧ slots + 0 ≤ rmM.slots) (hls : ls.size = nL) (hW : (rest.map fun v => v.category).sum ≤ 8) (hdg : decode cc pc = .ok (.invokevirtual 57, 3)) (kk : ∀ (r : Int32) (w1 : sj_W) (H : Heap) (locs : List Loc), sj_H G s w1 H locs → Qi r w1 → W p l e R s m args below meth c H locs (cells + 0) (slots + 0) (sj_MQ G below QcM QX args s rmM) (F0 m (pc + 3) ls (.int r :: rest))) : W p l e R s m args below meth c H locs cells slots (sj_MQ G below QcM QX args s rmM) (F0 m pc ls (.int b0 :: .ref b :: rest)) :=
  sj_cI hD hH (sj_runVN (n := 1) hC hH (As := [.int b0]) (wk_X0_factorEnd G l hC.2.2.2.2.2.2 b b0 w Qi QX hv) (ci := 0) rfl (by decide) hT mb_687 mb_689 mb_s22 mb_2 mb_690 (by decide +kernel) hR hf rfl hls hW hdg) hfM kk
end SJL_X0_factorEnd
abbrev rm_X0_isLyndon : Room := { frames := 2, cells := 0, slots := 0, locals := 55 }
def vb_X0_isLyndon_4 (f0 : Nat) (f1 : Int32) (f2 : Int32) (Q : Int32 → sj_W → Prop) (E : sj_W → Prop) (K : Int32 → sj_W → Prop) (v3 : Int32) (w : sj_W) : Prop := ((f2 ≤ v3 → E w) ∧ (¬ f2 ≤ v3 → sj_T w f0 = 1 ∧ vc_X0_compareParts f0 f1 f2 v3 f2 w (fun r3 w4 => ((r3 < 0 → K (v3 + 1) w4) ∧ (¬ r3 < 0 → Q 0 w4)))))
def vc_X0_isLyndon (self : Nat) (a1 : Int32) (a2 : Int32) (w : sj_W) (Q : Int32 → sj_W → Prop) : Prop := sj_lp1 (vb_X0_isLyndon_4 self a1 a2 Q (fun w_4 => ((a2 ≤ a1 → Q 0 w_4) ∧ (¬ a2 ≤ a1 → Q 1 w_4)))) 64 (a1 + 1) w
set_option maxHeartbeats 4000000 in
set_option maxRecDepth 100000 in
theorem wl_X0_isLyndon_4 {p : Program} {l : Launch} {e : Env} {s : State} {m : MethodId} {args : Array Value} {below : List Frame} {meth : Method} {c : Code} {G : sj_G} {f0 : Nat} {f1 : Int32} {f2 : Int32} {Q : Int32 → sj_W → Prop} {QX : String → sj_W → Prop} {E : sj_W → Prop} (hC : sj_C G p l s m args c cX0_isLyndon RX0 4) (hD : sj_D meth c) (hr : meth.sig.returnType = (some .boolean)) (hin : meth.name = "isLyndon") (hE : ∀ (w : sj_W) (H : Heap) (locs : List Loc) (ls : Array Slot), lv_has ls 4 [(1, .int f1), (2, .int f2)] → sj_H G s w H locs → E w → W p l e rm_X0_isLyndon s m args below meth c H locs 0 0 (sj_MQ G below (va_Qi Q (sj_B G) (sj_F G)) QX args s rm_X0_isLyndon) (F0 m 28 ls [])) : ∀ (n : Nat) (v3 : Int32) (w : sj_W) (H : Heap) (locs : List Loc) (ls : Array Slot), lv_has ls 4 [(0, .ref f0), (1, .int f1), (2, .int f2), (3, .int v3)] → sj_H G s w H locs → sj_lp1 (vb_X0_isLyndon_4 f0 f1 f2 Q E) n v3 w → W p l e rm_X0_isLyndon s m args below meth c H locs 0 0 (sj_MQ G below (va_Qi Q (sj_B G) (sj_F G)) QX args s rm_X0_isLyndon) (F0 m 4 ls []) := by
  have hx := hC.1
  have hb := hC.2.1
  intro n
  induction n with
  | zero =>
    intro v3 w H locs ls _ _ hv
    exact hv.elim
  | succ n ih =>
    intro v3 w H locs ls hl hH hv
    have hv : vb_X0_isLyndon_4 f0 f1 f2 Q E (sj_lp1 (vb_X0_isLyndon_4 f0 f1 f2 Q E) n) v3 w := hv
    have hc1 : rm_X0_isLyndon.cells = 0 := rfl
    have hc2 : rm_X0_isLyndon.slots = 0 := rfl
    refine lv_iload_n hx hb dX0_isLyndon_4 rfl (lv_at hl 3 rfl) ?_
    refine lv_iload_n hx hb dX0_isLyndon_5 rfl (lv_at hl 2 rfl) ?_
    refine lv_icmp_ge (tgt := 28) hx hb dX0_isLyndon_6 (by decide) (fun hc => ?_) (fun hc => ?_)
    · have hv1 := hv.1 hc
      exact hE  w _ _ _ (lv_sub hl [1, 2] rfl) hH hv1
    · have hv2 := hv.2 hc
      refine lv_aload_n hx hb dX0_isLyndon_9 rfl (lv_at hl 0 rfl) ?_
      refine lv_iload_n hx hb dX0_isLyndon_10 rfl (lv_at hl 1 rfl) ?_
      refine lv_iload_n hx hb dX0_isLyndon_11 rfl (lv_at hl 2 rfl) ?_
      refine lv_iload_n hx hb dX0_isLyndon_12 rfl (lv_at hl 3 rfl) ?_
      refine lv_iload_n hx hb dX0_isLyndon_13 rfl (lv_at hl 2 rfl) ?_
      refine cl_X0_46 hC hD hH hv2.2 hv2.1 ⟨Nat.le_of_ble_eq_true rfl, Nat.le_of_ble_eq_true rfl⟩ ⟨(Nat.le_of_ble_eq_true rfl), (Nat.le_of_ble_eq_true rfl)⟩ ⟨(Nat.le_of_ble_eq_true rfl), (Nat.le_of_ble_eq_true rfl)⟩ hl.1 (Nat.le_of_ble_eq_true rfl) dX0_isLyndon_14 (fun r3 w4 H locs hH hv5 => ?_)
      refine lv_if_lt (tgt := 22) hx hb dX0_isLyndon_17 (by decide) (fun hc => ?_) (fun hc => ?_)
      · have hv6 := hv5.1 hc
        refine lv_iinc (v := (v3 + 1)) (lv' := [(3, .int (v3 + 1)), (0, .ref f0), (1, .int f1), (2, .int f2)]) hx hb dX0_isLyndon_22 hl (k := 3) rfl rfl (by decide) rfl (fun ls hl => ?_)
        refine lv_goto (tgt := 4) hx hb dX0_isLyndon_25 (by decide) ?_
        exact ih (v3 + 1) w4 _ _ _ (lv_sub hl [1, 2, 3, 0] rfl) hH hv6
      · have hv7 := hv5.2 hc
        refine lv_iconst (v := 0) hx hb dX0_isLyndon_20 (by decide) ?_
        exact sj_retI hC hD hH hr rfl hv7 ⟨(Nat.le_of_ble_eq_true rfl), (Nat.le_of_ble_eq_true rfl)⟩ dX0_isLyndon_21
set_option maxHeartbeats 4000000 in
set_option maxRecDepth 100000 in
theorem wk_X0_isLyndon (G : sj_G) (l : Launch) (hlt : l.stackTraces = false) (self : Nat) (a1 : Int32) (a2 : Int32) (w : sj_W) (Q : Int32 → sj_W → Prop) (QX : String → sj_W → Prop) (hv : vc_X0_isLyndon self a1 a2 w Q) : sj_MI G l yX0_isLyndon (sj_ws yX0_isLyndon cX0_isLyndon 4 (some .boolean)) rm_X0_isLyndon [.ref self, .int a1, .int a2] w Q QX := by
  refine sj_of (by decide +kernel) (Nat.le_of_ble_eq_true rfl) hlt ?_
  intro p e s m args below meth c ls hC hD hr hin hH hl
  have hx := hC.1
  have hb := hC.2.1
  have hl : lv_has ls 4 [(0, .ref self), (1, .int a1), (2, .int a2)] := hl
  refine lv_iload_n hx hb dX0_isLyndon_0 rfl (lv_at hl 1 rfl) ?_
  refine lv_iconst (v := 1) hx hb dX0_isLyndon_1 (by decide) ?_
  refine lv_iadd hx hb dX0_isLyndon_2 ?_
  refine lv_istore_n (lv' := [(3, .int (a1 + 1)), (0, .ref self), (1, .int a1), (2, .int a2)]) hx hb dX0_isLyndon_3 rfl hl (by decide) rfl (fun ls hl => ?_)
  refine wl_X0_isLyndon_4 hC hD hr hin (fun w_4 H locs ls hl hH hv8 => ?_) 64 (a1 + 1) w _ _ _ (lv_sub hl [1, 2, 3, 0] rfl) hH hv
  refine lv_iload_n hx hb dX0_isLyndon_28 rfl (lv_at hl 0 rfl) ?_
  refine lv_iload_n hx hb dX0_isLyndon_29 rfl (lv_at hl 1 rfl) ?_
  refine lv_icmp_ge (tgt := 37) hx hb dX0_isLyndon_30 (by decide) (fun hc => ?_) (fun hc => ?_)
  · have hv9 := hv8.1 hc
    refine lv_iconst (v := 0) hx hb dX0_isLyndon_37 (by decide) ?_
    exact sj_retI hC hD hH hr rfl hv9 ⟨(Nat.le_of_ble_eq_true rfl), (Nat.le_of_ble_eq_true rfl)⟩ dX0_isLyndon_38
  · have hv10 := hv8.2 hc
    refine lv_iconst (v := 1) hx hb dX0_isLyndon_33 (by decide) ?_
    refine lv_goto (tgt := 38) hx hb dX0_isLyndon_34 (by decide) ?_
    exact sj_retI hC hD hH hr rfl hv10 ⟨(Nat.le_of_ble_eq_true rfl), (Nat.le_of_ble_eq_true rfl)⟩ dX0_isLyndon_38
section SJL_X0_isLyndon
variable {p : Program} {l : Launch} {e : Env} {R : Room} {s : State} {m : MethodId} {args : Array Value} {below : List Frame} {meth : Method} {c : Code} {H : Heap} {locs : List Loc} {cells slots : Nat} {Q : State → Prop} {cc : ByteArray} {pc : Nat} {ls : Array Slot} {rest : List Value} {G : sj_G} {nL : Nat} {w : sj_W}
theorem cl_X0_63 {rmM : Room} {QcM : Array Value → State → Outcome → State → Prop} {QX : String → sj_W → Prop} {b : Nat} {b0 : Int32} {b1 : Int32} {Qi : Int32 → sj_W → Prop} (hC : sj_C G p l s m args c cc RX0 nL) (hD : sj_D meth c) (hH : sj_H G s w H locs) (hv : vc_X0_isLyndon b b0 b1 w Qi) (hT : sj_T w b = 1) (hR : rm_X0_isLyndon.frames + 1 ≤ R.frames ∧ 8 + (4 + 11) + rm_X0_isLyndon.locals ≤ R.locals) (hf : cells + 0 ≤ R.cells ∧ slots + 0 ≤ R.slots) (hfM : cells + 0 ≤ rmM.cells ∧ slots + 0 ≤ rmM.slots) (hls : ls.size = nL) (hW : (rest.map fun v => v.category).sum ≤ 8) (hdg : decode cc pc = .ok (.invokevirtual 63, 3)) (kk : ∀ (r : Int32) (w1 : sj_W) (H : Heap) (locs : List Loc), sj_H G s w1 H locs → Qi r w1 → W p l e R s m args below meth c H locs (cells + 0) (slots + 0) (sj_MQ G below QcM QX args s rmM) (F0 m (pc + 3) ls (.int r :: rest))) : W p l e R s m args below meth c H locs cells slots (sj_MQ G below QcM QX args s rmM) (F0 m pc ls (.int b1 :: .int b0 :: .ref b :: rest)) :=
  sj_cI hD hH (sj_runV (n := 2) hC hH (As := [.int b0, .int b1]) (wk_X0_isLyndon G l hC.2.2.2.2.2.2 b b0 b1 w Qi QX hv) (ci := 0) rfl (by decide) hT mb_699 mb_693 mb_s23 mb_2 mb_694 (by decide +kernel) hR hf rfl hls hW hdg) hfM kk
theorem cl_X2_61 {rmM : Room} {QcM : Array Value → State → Outcome → State → Prop} {QX : String → sj_W → Prop} {b : Nat} {b0 : Int32} {b1 : Int32} {Qi : Int32 → sj_W → Prop} (hC : sj_C G p l s m args c cc RX2 nL) (hD : sj_D meth c) (hH : sj_H G s w H locs) (hv : vc_X0_isLyndon b b0 b1 w Qi) (hT : sj_T w b = 1) (hR : rm_X0_isLyndon.frames + 1 ≤ R.frames ∧ 8 + (4 + 11) + rm_X0_isLyndon.locals ≤ R.locals) (hf : cells + 0 ≤ R.cells ∧ slots + 0 ≤ R.slots) (hfM : cells + 0 ≤ rmM.cells ∧ slots + 0 ≤ rmM.slots) (hls : ls.size = nL) (hW : (rest.map fun v => v.category).sum ≤ 8) (hdg : decode cc pc = .ok (.invokevirtual 61, 3)) (kk : ∀ (r : Int32) (w1 : sj_W) (H : Heap) (locs : List Loc), sj_H G s w1 H locs → Qi r w1 → W p l e R s m args below meth c H locs (cells + 0) (slots + 0) (sj_MQ G below QcM QX args s rmM) (F0 m (pc + 3) ls (.int r :: rest))) : W p l e R s m args below meth c H locs cells slots (sj_MQ G below QcM QX args s rmM) (F0 m pc ls (.int b1 :: .int b0 :: .ref b :: rest)) :=
  sj_cI hD hH (sj_runVN (n := 2) hC hH (As := [.int b0, .int b1]) (wk_X0_isLyndon G l hC.2.2.2.2.2.2 b b0 b1 w Qi QX hv) (ci := 0) rfl (by decide) hT mb_691 mb_693 mb_s23 mb_2 mb_694 (by decide +kernel) hR hf rfl hls hW hdg) hfM kk
end SJL_X0_isLyndon
abbrev rm_X0_waysBehind : Room := { frames := 2, cells := 0, slots := 0, locals := 55 }
def vb_X0_waysBehind_17 (f0 : Nat) (f1 : Int32) (f2 : Int32) (Q : Int32 → sj_W → Prop) (E : Int32 → sj_W → Prop) (K : Int32 → Int32 → sj_W → Prop) (v3 : Int32) (v4 : Int32) (w : sj_W) : Prop := sj_T w f0 = 1 ∧ (((sj_I w 6 f0) < v4 → E v3 w) ∧ (¬ (sj_I w 6 f0) < v4 → sj_T w f0 = 1 ∧ sj_A w 1 f0 ≠ 0 ∧ sj_T w (sj_A w 1 f0) = 13 ∧ vp_in f2 (sj_N w (sj_A w 1 f0)) ∧ (sj_r w (sj_A w 1 f0) f2.toNatClampNeg) ≠ 0 ∧ sj_T w (sj_r w (sj_A w 1 f0) f2.toNatClampNeg) = 7 ∧ vp_in v4 (sj_N w (sj_r w (sj_A w 1 f0) f2.toNatClampNeg)) ∧ (((sj_i w (sj_r w (sj_A w 1 f0) f2.toNatClampNeg) v4.toNatClampNeg) = 0 → K v3 (v4 + 1) w) ∧ (¬ (sj_i w (sj_r w (sj_A w 1 f0) f2.toNatClampNeg) v4.toNatClampNeg) = 0 → sj_T w f0 = 1 ∧ vc_X0_compareParts f0 f1 f2 f2 v4 w (fun r6 w7 => ((r6 < 0 → K v3 (v4 + 1) w7) ∧ (¬ r6 < 0 → sj_T w7 f0 = 1 ∧ sj_A w7 1 f0 ≠ 0 ∧ sj_T w7 (sj_A w7 1 f0) = 13 ∧ vp_in f2 (sj_N w7 (sj_A w7 1 f0)) ∧ (sj_r w7 (sj_A w7 1 f0) f2.toNatClampNeg) ≠ 0 ∧ sj_T w7 (sj_r w7 (sj_A w7 1 f0) f2.toNatClampNeg) = 7 ∧ vp_in v4 (sj_N w7 (sj_r w7 (sj_A w7 1 f0) f2.toNatClampNeg)) ∧ K (v3 + (sj_i w7 (sj_r w7 (sj_A w7 1 f0) f2.toNatClampNeg) v4.toNatClampNeg)) (v4 + 1) w7)))))))
def vc_X0_waysBehind (self : Nat) (a1 : Int32) (a2 : Int32) (w : sj_W) (Q : Int32 → sj_W → Prop) : Prop := sj_T w self = 1 ∧ ((¬ a2 = (sj_I w 6 self) → sj_lp2 (vb_X0_waysBehind_17 self a1 a2 Q (fun z3_17 w_17 => Q z3_17 w_17)) 64 0 (a2 + 1) w) ∧ (a2 = (sj_I w 6 self) → Q 1 w))
set_option maxHeartbeats 4000000 in
set_option maxRecDepth 100000 in
theorem wl_X0_waysBehind_17 {p : Program} {l : Launch} {e : Env} {s : State} {m : MethodId} {args : Array Value} {below : List Frame} {meth : Method} {c : Code} {G : sj_G} {f0 : Nat} {f1 : Int32} {f2 : Int32} {Q : Int32 → sj_W → Prop} {QX : String → sj_W → Prop} {E : Int32 → sj_W → Prop} (hC : sj_C G p l s m args c cX0_waysBehind RX0 5) (hD : sj_D meth c) (hr : meth.sig.returnType = (some .int)) (hin : meth.name = "waysBehind") (hE : ∀ (v3 : Int32) (w : sj_W) (H : Heap) (locs : List Loc) (ls : Array Slot), lv_has ls 5 [(3, .int v3)] → sj_H G s w H locs → E v3 w → W p l e rm_X0_waysBehind s m args below meth c H locs 0 0 (sj_MQ G below (va_Qi Q (sj_B G) (sj_F G)) QX args s rm_X0_waysBehind) (F0 m 68 ls [])) : ∀ (n : Nat) (v3 : Int32) (v4 : Int32) (w : sj_W) (H : Heap) (locs : List Loc) (ls : Array Slot), lv_has ls 5 [(0, .ref f0), (1, .int f1), (2, .int f2), (3, .int v3), (4, .int v4)] → sj_H G s w H locs → sj_lp2 (vb_X0_waysBehind_17 f0 f1 f2 Q E) n v3 v4 w → W p l e rm_X0_waysBehind s m args below meth c H locs 0 0 (sj_MQ G below (va_Qi Q (sj_B G) (sj_F G)) QX args s rm_X0_waysBehind) (F0 m 17 ls []) := by
  have hx := hC.1
  have hb := hC.2.1
  intro n
  induction n with
  | zero =>
    intro v3 v4 w H locs ls _ _ hv
    exact hv.elim
  | succ n ih =>
    intro v3 v4 w H locs ls hl hH hv
    have hv : vb_X0_waysBehind_17 f0 f1 f2 Q E (sj_lp2 (vb_X0_waysBehind_17 f0 f1 f2 Q E) n) v3 v4 w := hv
    have hc1 : rm_X0_waysBehind.cells = 0 := rfl
    have hc2 : rm_X0_waysBehind.slots = 0 := rfl
    refine lv_iload hx hb dX0_waysBehind_17 (lv_at hl 4 rfl) ?_
    refine lv_aload_n hx hb dX0_waysBehind_19 rfl (lv_at hl 0 rfl) ?_
    refine gf_X0_37 hC hH hv.1 dX0_waysBehind_20 ?_
    refine lv_icmp_gt (tgt := 68) hx hb dX0_waysBehind_23 (by decide) (fun hc => ?_) (fun hc => ?_)
    · have hv2 := hv.2.1 hc
      exact hE v3 w _ _ _ (lv_sub hl [3] rfl) hH hv2
    · have hv3 := hv.2.2 hc
      refine lv_aload_n hx hb dX0_waysBehind_26 rfl (lv_at hl 0 rfl) ?_
      refine gf_X0_16 hC hH hv3.1 hv3.2.1 dX0_waysBehind_27 ?_
      refine lv_iload_n hx hb dX0_waysBehind_30 rfl (lv_at hl 2 rfl) ?_
      refine sj_aaldI hC hH hv3.2.2.1 hv3.2.2.2.1 hv3.2.2.2.2.1 dX0_waysBehind_31 ?_
      refine lv_iload hx hb dX0_waysBehind_32 (lv_at hl 4 rfl) ?_
      refine sj_iald hC hH hv3.2.2.2.2.2.1 hv3.2.2.2.2.2.2.1 dX0_waysBehind_34 ?_
      refine lv_if_eq (tgt := 62) hx hb dX0_waysBehind_35 (by decide) (fun hc => ?_) (fun hc => ?_)
      · have hv4 := hv3.2.2.2.2.2.2.2.1 hc
        refine lv_iinc (v := (v4 + 1)) (lv' := [(4, .int (v4 + 1)), (0, .ref f0), (1, .int f1), (2, .int f2), (3, .int v3)]) hx hb dX0_waysBehind_62 hl (k := 4) rfl rfl (by decide) rfl (fun ls hl => ?_)
        refine lv_goto (tgt := 17) hx hb dX0_waysBehind_65 (by decide) ?_
        exact ih v3 (v4 + 1) w _ _ _ (lv_sub hl [1, 2, 3, 4, 0] rfl) hH hv4
      · have hv5 := hv3.2.2.2.2.2.2.2.2 hc
        refine lv_aload_n hx hb dX0_waysBehind_38 rfl (lv_at hl 0 rfl) ?_
        refine lv_iload_n hx hb dX0_waysBehind_39 rfl (lv_at hl 1 rfl) ?_
        refine lv_iload_n hx hb dX0_waysBehind_40 rfl (lv_at hl 2 rfl) ?_
        refine lv_iload_n hx hb dX0_waysBehind_41 rfl (lv_at hl 2 rfl) ?_
        refine lv_iload hx hb dX0_waysBehind_42 (lv_at hl 4 rfl) ?_
        refine cl_X0_46 hC hD hH hv5.2 hv5.1 ⟨Nat.le_of_ble_eq_true rfl, Nat.le_of_ble_eq_true rfl⟩ ⟨(Nat.le_of_ble_eq_true rfl), (Nat.le_of_ble_eq_true rfl)⟩ ⟨(Nat.le_of_ble_eq_true rfl), (Nat.le_of_ble_eq_true rfl)⟩ hl.1 (Nat.le_of_ble_eq_true rfl) dX0_waysBehind_44 (fun r6 w7 H locs hH hv8 => ?_)
        refine lv_if_lt (tgt := 62) hx hb dX0_waysBehind_47 (by decide) (fun hc => ?_) (fun hc => ?_)
        · have hv9 := hv8.1 hc
          refine lv_iinc (v := (v4 + 1)) (lv' := [(4, .int (v4 + 1)), (0, .ref f0), (1, .int f1), (2, .int f2), (3, .int v3)]) hx hb dX0_waysBehind_62 hl (k := 4) rfl rfl (by decide) rfl (fun ls hl => ?_)
          refine lv_goto (tgt := 17) hx hb dX0_waysBehind_65 (by decide) ?_
          exact ih v3 (v4 + 1) w7 _ _ _ (lv_sub hl [1, 2, 3, 4, 0] rfl) hH hv9
        · have hv10 := hv8.2 hc
          refine lv_iload_n hx hb dX0_waysBehind_50 rfl (lv_at hl 3 rfl) ?_
          refine lv_aload_n hx hb dX0_waysBehind_51 rfl (lv_at hl 0 rfl) ?_
          refine gf_X0_16 hC hH hv10.1 hv10.2.1 dX0_waysBehind_52 ?_
          refine lv_iload_n hx hb dX0_waysBehind_55 rfl (lv_at hl 2 rfl) ?_
          refine sj_aaldI hC hH hv10.2.2.1 hv10.2.2.2.1 hv10.2.2.2.2.1 dX0_waysBehind_56 ?_
          refine lv_iload hx hb dX0_waysBehind_57 (lv_at hl 4 rfl) ?_
          refine sj_iald hC hH hv10.2.2.2.2.2.1 hv10.2.2.2.2.2.2.1 dX0_waysBehind_59 ?_
          refine lv_iadd hx hb dX0_waysBehind_60 ?_
          refine lv_istore_n (lv' := [(3, .int (v3 + (sj_i w7 (sj_r w7 (sj_A w7 1 f0) f2.toNatClampNeg) v4.toNatClampNeg))), (0, .ref f0), (1, .int f1), (2, .int f2), (4, .int v4)]) hx hb dX0_waysBehind_61 rfl hl (by decide) rfl (fun ls hl => ?_)
          refine lv_iinc (v := (v4 + 1)) (lv' := [(4, .int (v4 + 1)), (3, .int (v3 + (sj_i w7 (sj_r w7 (sj_A w7 1 f0) f2.toNatClampNeg) v4.toNatClampNeg))), (0, .ref f0), (1, .int f1), (2, .int f2)]) hx hb dX0_waysBehind_62 hl (k := 4) rfl rfl (by decide) rfl (fun ls hl => ?_)
          refine lv_goto (tgt := 17) hx hb dX0_waysBehind_65 (by decide) ?_
          exact ih (v3 + (sj_i w7 (sj_r w7 (sj_A w7 1 f0) f2.toNatClampNeg) v4.toNatClampNeg)) (v4 + 1) w7 _ _ _ (lv_sub hl [2, 3, 4, 1, 0] rfl) hH hv10.2.2.2.2.2.2.2
set_option maxHeartbeats 4000000 in
set_option maxRecDepth 100000 in
theorem wk_X0_waysBehind (G : sj_G) (l : Launch) (hlt : l.stackTraces = false) (self : Nat) (a1 : Int32) (a2 : Int32) (w : sj_W) (Q : Int32 → sj_W → Prop) (QX : String → sj_W → Prop) (hv : vc_X0_waysBehind self a1 a2 w Q) : sj_MI G l yX0_waysBehind (sj_ws yX0_waysBehind cX0_waysBehind 5 (some .int)) rm_X0_waysBehind [.ref self, .int a1, .int a2] w Q QX := by
  refine sj_of (by decide +kernel) (Nat.le_of_ble_eq_true rfl) hlt ?_
  intro p e s m args below meth c ls hC hD hr hin hH hl
  have hx := hC.1
  have hb := hC.2.1
  have hl : lv_has ls 5 [(0, .ref self), (1, .int a1), (2, .int a2)] := hl
  refine lv_iload_n hx hb dX0_waysBehind_0 rfl (lv_at hl 2 rfl) ?_
  refine lv_aload_n hx hb dX0_waysBehind_1 rfl (lv_at hl 0 rfl) ?_
  refine gf_X0_37 hC hH hv.1 dX0_waysBehind_2 ?_
  refine lv_icmp_ne (tgt := 10) hx hb dX0_waysBehind_5 (by decide) (fun hc => ?_) (fun hc => ?_)
  · have hv1 := hv.2.1 hc
    refine lv_iconst (v := 0) hx hb dX0_waysBehind_10 (by decide) ?_
    refine lv_istore_n (lv' := [(3, .int 0), (0, .ref self), (1, .int a1), (2, .int a2)]) hx hb dX0_waysBehind_11 rfl hl (by decide) rfl (fun ls hl => ?_)
    refine lv_iload_n hx hb dX0_waysBehind_12 rfl (lv_at hl 3 rfl) ?_
    refine lv_iconst (v := 1) hx hb dX0_waysBehind_13 (by decide) ?_
    refine lv_iadd hx hb dX0_waysBehind_14 ?_
    refine lv_istore (lv' := [(4, .int (a2 + 1)), (3, .int 0), (0, .ref self), (1, .int a1), (2, .int a2)]) hx hb dX0_waysBehind_15 hl (by decide) rfl (fun ls hl => ?_)
    refine wl_X0_waysBehind_17 hC hD hr hin (fun z3_17 w_17 H locs ls hl hH hv11 => ?_) 64 0 (a2 + 1) w _ _ _ (lv_sub hl [2, 3, 4, 1, 0] rfl) hH hv1
    refine lv_iload_n hx hb dX0_waysBehind_68 rfl (lv_at hl 0 rfl) ?_
    exact sj_retI hC hD hH hr rfl hv11 ⟨(Nat.le_of_ble_eq_true rfl), (Nat.le_of_ble_eq_true rfl)⟩ dX0_waysBehind_69
  · have hv12 := hv.2.2 hc
    refine lv_iconst (v := 1) hx hb dX0_waysBehind_8 (by decide) ?_
    exact sj_retI hC hD hH hr rfl hv12 ⟨(Nat.le_of_ble_eq_true rfl), (Nat.le_of_ble_eq_true rfl)⟩ dX0_waysBehind_9
section SJL_X0_waysBehind
variable {p : Program} {l : Launch} {e : Env} {R : Room} {s : State} {m : MethodId} {args : Array Value} {below : List Frame} {meth : Method} {c : Code} {H : Heap} {locs : List Loc} {cells slots : Nat} {Q : State → Prop} {cc : ByteArray} {pc : Nat} {ls : Array Slot} {rest : List Value} {G : sj_G} {nL : Nat} {w : sj_W}
theorem cl_X0_67 {rmM : Room} {QcM : Array Value → State → Outcome → State → Prop} {QX : String → sj_W → Prop} {b : Nat} {b0 : Int32} {b1 : Int32} {Qi : Int32 → sj_W → Prop} (hC : sj_C G p l s m args c cc RX0 nL) (hD : sj_D meth c) (hH : sj_H G s w H locs) (hv : vc_X0_waysBehind b b0 b1 w Qi) (hT : sj_T w b = 1) (hR : rm_X0_waysBehind.frames + 1 ≤ R.frames ∧ 8 + (5 + 11) + rm_X0_waysBehind.locals ≤ R.locals) (hf : cells + 0 ≤ R.cells ∧ slots + 0 ≤ R.slots) (hfM : cells + 0 ≤ rmM.cells ∧ slots + 0 ≤ rmM.slots) (hls : ls.size = nL) (hW : (rest.map fun v => v.category).sum ≤ 8) (hdg : decode cc pc = .ok (.invokevirtual 67, 3)) (kk : ∀ (r : Int32) (w1 : sj_W) (H : Heap) (locs : List Loc), sj_H G s w1 H locs → Qi r w1 → W p l e R s m args below meth c H locs (cells + 0) (slots + 0) (sj_MQ G below QcM QX args s rmM) (F0 m (pc + 3) ls (.int r :: rest))) : W p l e R s m args below meth c H locs cells slots (sj_MQ G below QcM QX args s rmM) (F0 m pc ls (.int b1 :: .int b0 :: .ref b :: rest)) :=
  sj_cI hD hH (sj_runV (n := 2) hC hH (As := [.int b0, .int b1]) (wk_X0_waysBehind G l hC.2.2.2.2.2.2 b b0 b1 w Qi QX hv) (ci := 0) rfl (by decide) hT mb_700 mb_702 mb_s25 mb_2 mb_703 (by decide +kernel) hR hf rfl hls hW hdg) hfM kk
end SJL_X0_waysBehind
abbrev rm_X0_countWays : Room := { frames := 3, cells := 0, slots := 0, locals := 79 }
def vb_X0_countWays_24 (f0 : Nat) (f1 : Int32) (Q : Int32 → sj_W → Prop) (E : sj_W → Prop) (K : Int32 → sj_W → Prop) (v2 : Int32) (w : sj_W) : Prop := sj_T w f0 = 1 ∧ (((sj_I w 6 f0) < v2 → E w) ∧ (¬ (sj_I w 6 f0) < v2 → sj_T w f0 = 1 ∧ sj_A w 1 f0 ≠ 0 ∧ sj_T w (sj_A w 1 f0) = 13 ∧ vp_in f1 (sj_N w (sj_A w 1 f0)) ∧ (sj_r w (sj_A w 1 f0) f1.toNatClampNeg) ≠ 0 ∧ sj_T w f0 = 1 ∧ vc_X0_isLyndon f0 f1 v2 w (fun r6 w7 => ((r6 = 0 → sj_T w7 (sj_r w (sj_A w 1 f0) f1.toNatClampNeg) = 7 ∧ vp_in v2 (sj_N w7 (sj_r w (sj_A w 1 f0) f1.toNatClampNeg)) ∧ ∀ w10 : sj_W, w10 = sj_si w7 (sj_r w (sj_A w 1 f0) f1.toNatClampNeg) v2.toNatClampNeg 0 → K (v2 + 1) w10) ∧ (¬ r6 = 0 → sj_T w7 f0 = 1 ∧ vc_X0_waysBehind f0 f1 v2 w7 (fun r13 w14 => sj_T w14 (sj_r w (sj_A w 1 f0) f1.toNatClampNeg) = 7 ∧ vp_in v2 (sj_N w14 (sj_r w (sj_A w 1 f0) f1.toNatClampNeg)) ∧ ∀ w16 : sj_W, w16 = sj_si w14 (sj_r w (sj_A w 1 f0) f1.toNatClampNeg) v2.toNatClampNeg r13 → K (v2 + 1) w16))))))
def vb_X0_countWays_16 (f0 : Nat) (Q : Int32 → sj_W → Prop) (E : sj_W → Prop) (K : Int32 → sj_W → Prop) (v1 : Int32) (w : sj_W) : Prop := ((v1 < 0 → E w) ∧ (¬ v1 < 0 → sj_lp1 (vb_X0_countWays_24 f0 v1 Q (fun w_24 => K (v1 + (-1)) w_24)) 64 (v1 + 1) w))
def vb_X0_countWays_75 (f0 : Nat) (Q : Int32 → sj_W → Prop) (E : Int32 → sj_W → Prop) (K : Int32 → Int32 → sj_W → Prop) (v1 : Int32) (v2 : Int32) (w : sj_W) : Prop := sj_T w f0 = 1 ∧ (((sj_I w 6 f0) < v2 → E v1 w) ∧ (¬ (sj_I w 6 f0) < v2 → sj_T w f0 = 1 ∧ sj_A w 1 f0 ≠ 0 ∧ sj_T w (sj_A w 1 f0) = 13 ∧ vp_in 0 (sj_N w (sj_A w 1 f0)) ∧ (sj_r w (sj_A w 1 f0) (0 : Int32).toNatClampNeg) ≠ 0 ∧ sj_T w (sj_r w (sj_A w 1 f0) (0 : Int32).toNatClampNeg) = 7 ∧ vp_in v2 (sj_N w (sj_r w (sj_A w 1 f0) (0 : Int32).toNatClampNeg)) ∧ K (v1 + (sj_i w (sj_r w (sj_A w 1 f0) (0 : Int32).toNatClampNeg) v2.toNatClampNeg)) (v2 + 1) w))
def vc_X0_countWays (self : Nat) (w : sj_W) (Q : Int32 → sj_W → Prop) : Prop := sj_T w self = 1 ∧ ((¬ (sj_I w 6 self) = 0 → sj_T w self = 1 ∧ sj_lp1 (vb_X0_countWays_16 self Q (fun w_16 => sj_lp2 (vb_X0_countWays_75 self Q (fun z1_75 w_75 => Q z1_75 w_75)) 64 0 1 w_16)) 64 ((sj_I w 6 self) - 1) w) ∧ ((sj_I w 6 self) = 0 → Q 1 w))
set_option maxHeartbeats 4000000 in
set_option maxRecDepth 100000 in
theorem wl_X0_countWays_24 {p : Program} {l : Launch} {e : Env} {s : State} {m : MethodId} {args : Array Value} {below : List Frame} {meth : Method} {c : Code} {G : sj_G} {f0 : Nat} {f1 : Int32} {Q : Int32 → sj_W → Prop} {QX : String → sj_W → Prop} {E : sj_W → Prop} (hC : sj_C G p l s m args c cX0_countWays RX0 3) (hD : sj_D meth c) (hr : meth.sig.returnType = (some .int)) (hin : meth.name = "countWays") (hE : ∀ (w : sj_W) (H : Heap) (locs : List Loc) (ls : Array Slot), lv_has ls 3 [(0, .ref f0), (1, .int f1)] → sj_H G s w H locs → E w → W p l e rm_X0_countWays s m args below meth c H locs 0 0 (sj_MQ G below (va_Qi Q (sj_B G) (sj_F G)) QX args s rm_X0_countWays) (F0 m 65 ls [])) : ∀ (n : Nat) (v2 : Int32) (w : sj_W) (H : Heap) (locs : List Loc) (ls : Array Slot), lv_has ls 3 [(0, .ref f0), (1, .int f1), (2, .int v2)] → sj_H G s w H locs → sj_lp1 (vb_X0_countWays_24 f0 f1 Q E) n v2 w → W p l e rm_X0_countWays s m args below meth c H locs 0 0 (sj_MQ G below (va_Qi Q (sj_B G) (sj_F G)) QX args s rm_X0_countWays) (F0 m 24 ls []) := by
  have hx := hC.1
  have hb := hC.2.1
  intro n
  induction n with
  | zero =>
    intro v2 w H locs ls _ _ hv
    exact hv.elim
  | succ n ih =>
    intro v2 w H locs ls hl hH hv
    have hv : vb_X0_countWays_24 f0 f1 Q E (sj_lp1 (vb_X0_countWays_24 f0 f1 Q E) n) v2 w := hv
    have hc1 : rm_X0_countWays.cells = 0 := rfl
    have hc2 : rm_X0_countWays.slots = 0 := rfl
    refine lv_iload_n hx hb dX0_countWays_24 rfl (lv_at hl 2 rfl) ?_
    refine lv_aload_n hx hb dX0_countWays_25 rfl (lv_at hl 0 rfl) ?_
    refine gf_X0_37 hC hH hv.1 dX0_countWays_26 ?_
    refine lv_icmp_gt (tgt := 65) hx hb dX0_countWays_29 (by decide) (fun hc => ?_) (fun hc => ?_)
    · have hv4 := hv.2.1 hc
      exact hE  w _ _ _ (lv_sub hl [0, 1] rfl) hH hv4
    · have hv5 := hv.2.2 hc
      refine lv_aload_n hx hb dX0_countWays_32 rfl (lv_at hl 0 rfl) ?_
      refine gf_X0_16 hC hH hv5.1 hv5.2.1 dX0_countWays_33 ?_
      refine lv_iload_n hx hb dX0_countWays_36 rfl (lv_at hl 1 rfl) ?_
      refine sj_aaldI hC hH hv5.2.2.1 hv5.2.2.2.1 hv5.2.2.2.2.1 dX0_countWays_37 ?_
      refine lv_iload_n hx hb dX0_countWays_38 rfl (lv_at hl 2 rfl) ?_
      refine lv_aload_n hx hb dX0_countWays_39 rfl (lv_at hl 0 rfl) ?_
      refine lv_iload_n hx hb dX0_countWays_40 rfl (lv_at hl 1 rfl) ?_
      refine lv_iload_n hx hb dX0_countWays_41 rfl (lv_at hl 2 rfl) ?_
      refine cl_X0_63 hC hD hH hv5.2.2.2.2.2.2 hv5.2.2.2.2.2.1 ⟨Nat.le_of_ble_eq_true rfl, Nat.le_of_ble_eq_true rfl⟩ ⟨(Nat.le_of_ble_eq_true rfl), (Nat.le_of_ble_eq_true rfl)⟩ ⟨(Nat.le_of_ble_eq_true rfl), (Nat.le_of_ble_eq_true rfl)⟩ hl.1 (Nat.le_of_ble_eq_true rfl) dX0_countWays_42 (fun r6 w7 H locs hH hv8 => ?_)
      refine lv_if_eq (tgt := 57) hx hb dX0_countWays_45 (by decide) (fun hc => ?_) (fun hc => ?_)
      · have hv9 := hv8.1 hc
        refine lv_iconst (v := 0) hx hb dX0_countWays_57 (by decide) ?_
        refine sj_iast hC hH hv9.1 hv9.2.1 dX0_countWays_58 (fun w10 H locs e11 hH => ?_)
        refine lv_iinc (v := (v2 + 1)) (lv' := [(2, .int (v2 + 1)), (0, .ref f0), (1, .int f1)]) hx hb dX0_countWays_59 hl (k := 2) rfl rfl (by decide) rfl (fun ls hl => ?_)
        refine lv_goto (tgt := 24) hx hb dX0_countWays_62 (by decide) ?_
        exact ih (v2 + 1) w10 _ _ _ (lv_sub hl [1, 2, 0] rfl) hH (hv9.2.2 w10 e11)
      · have hv12 := hv8.2 hc
        refine lv_aload_n hx hb dX0_countWays_48 rfl (lv_at hl 0 rfl) ?_
        refine lv_iload_n hx hb dX0_countWays_49 rfl (lv_at hl 1 rfl) ?_
        refine lv_iload_n hx hb dX0_countWays_50 rfl (lv_at hl 2 rfl) ?_
        refine cl_X0_67 hC hD hH hv12.2 hv12.1 ⟨Nat.le_of_ble_eq_true rfl, Nat.le_of_ble_eq_true rfl⟩ ⟨(Nat.le_of_ble_eq_true rfl), (Nat.le_of_ble_eq_true rfl)⟩ ⟨(Nat.le_of_ble_eq_true rfl), (Nat.le_of_ble_eq_true rfl)⟩ hl.1 (Nat.le_of_ble_eq_true rfl) dX0_countWays_51 (fun r13 w14 H locs hH hv15 => ?_)
        refine lv_goto (tgt := 58) hx hb dX0_countWays_54 (by decide) ?_
        refine sj_iast hC hH hv15.1 hv15.2.1 dX0_countWays_58 (fun w16 H locs e17 hH => ?_)
        refine lv_iinc (v := (v2 + 1)) (lv' := [(2, .int (v2 + 1)), (0, .ref f0), (1, .int f1)]) hx hb dX0_countWays_59 hl (k := 2) rfl rfl (by decide) rfl (fun ls hl => ?_)
        refine lv_goto (tgt := 24) hx hb dX0_countWays_62 (by decide) ?_
        exact ih (v2 + 1) w16 _ _ _ (lv_sub hl [1, 2, 0] rfl) hH (hv15.2.2 w16 e17)
set_option maxHeartbeats 4000000 in
set_option maxRecDepth 100000 in
theorem wl_X0_countWays_16 {p : Program} {l : Launch} {e : Env} {s : State} {m : MethodId} {args : Array Value} {below : List Frame} {meth : Method} {c : Code} {G : sj_G} {f0 : Nat} {Q : Int32 → sj_W → Prop} {QX : String → sj_W → Prop} {E : sj_W → Prop} (hC : sj_C G p l s m args c cX0_countWays RX0 3) (hD : sj_D meth c) (hr : meth.sig.returnType = (some .int)) (hin : meth.name = "countWays") (hE : ∀ (w : sj_W) (H : Heap) (locs : List Loc) (ls : Array Slot), lv_has ls 3 [(0, .ref f0)] → sj_H G s w H locs → E w → W p l e rm_X0_countWays s m args below meth c H locs 0 0 (sj_MQ G below (va_Qi Q (sj_B G) (sj_F G)) QX args s rm_X0_countWays) (F0 m 71 ls [])) : ∀ (n : Nat) (v1 : Int32) (w : sj_W) (H : Heap) (locs : List Loc) (ls : Array Slot), lv_has ls 3 [(0, .ref f0), (1, .int v1)] → sj_H G s w H locs → sj_lp1 (vb_X0_countWays_16 f0 Q E) n v1 w → W p l e rm_X0_countWays s m args below meth c H locs 0 0 (sj_MQ G below (va_Qi Q (sj_B G) (sj_F G)) QX args s rm_X0_countWays) (F0 m 16 ls []) := by
  have hx := hC.1
  have hb := hC.2.1
  intro n
  induction n with
  | zero =>
    intro v1 w H locs ls _ _ hv
    exact hv.elim
  | succ n ih =>
    intro v1 w H locs ls hl hH hv
    have hv : vb_X0_countWays_16 f0 Q E (sj_lp1 (vb_X0_countWays_16 f0 Q E) n) v1 w := hv
    have hc1 : rm_X0_countWays.cells = 0 := rfl
    have hc2 : rm_X0_countWays.slots = 0 := rfl
    refine lv_iload_n hx hb dX0_countWays_16 rfl (lv_at hl 1 rfl) ?_
    refine lv_if_lt (tgt := 71) hx hb dX0_countWays_17 (by decide) (fun hc => ?_) (fun hc => ?_)
    · have hv2 := hv.1 hc
      exact hE  w _ _ _ (lv_sub hl [0] rfl) hH hv2
    · have hv3 := hv.2 hc
      refine lv_iload_n hx hb dX0_countWays_20 rfl (lv_at hl 1 rfl) ?_
      refine lv_iconst (v := 1) hx hb dX0_countWays_21 (by decide) ?_
      refine lv_iadd hx hb dX0_countWays_22 ?_
      refine lv_istore_n (lv' := [(2, .int (v1 + 1)), (0, .ref f0), (1, .int v1)]) hx hb dX0_countWays_23 rfl hl (by decide) rfl (fun ls hl => ?_)
      refine wl_X0_countWays_24 hC hD hr hin (fun w_24 H locs ls hl hH hv18 => ?_) 64 (v1 + 1) w _ _ _ (lv_sub hl [1, 2, 0] rfl) hH hv3
      refine lv_iinc (v := (v1 + (-1))) (lv' := [(1, .int (v1 + (-1))), (0, .ref f0)]) hx hb dX0_countWays_65 hl (k := 1) rfl rfl (by decide) rfl (fun ls hl => ?_)
      refine lv_goto (tgt := 16) hx hb dX0_countWays_68 (by decide) ?_
      exact ih (v1 + (-1)) w_24 _ _ _ (lv_sub hl [1, 0] rfl) hH hv18
set_option maxHeartbeats 4000000 in
set_option maxRecDepth 100000 in
theorem wl_X0_countWays_75 {p : Program} {l : Launch} {e : Env} {s : State} {m : MethodId} {args : Array Value} {below : List Frame} {meth : Method} {c : Code} {G : sj_G} {f0 : Nat} {Q : Int32 → sj_W → Prop} {QX : String → sj_W → Prop} {E : Int32 → sj_W → Prop} (hC : sj_C G p l s m args c cX0_countWays RX0 3) (hD : sj_D meth c) (hr : meth.sig.returnType = (some .int)) (hin : meth.name = "countWays") (hE : ∀ (v1 : Int32) (w : sj_W) (H : Heap) (locs : List Loc) (ls : Array Slot), lv_has ls 3 [(1, .int v1)] → sj_H G s w H locs → E v1 w → W p l e rm_X0_countWays s m args below meth c H locs 0 0 (sj_MQ G below (va_Qi Q (sj_B G) (sj_F G)) QX args s rm_X0_countWays) (F0 m 100 ls [])) : ∀ (n : Nat) (v1 : Int32) (v2 : Int32) (w : sj_W) (H : Heap) (locs : List Loc) (ls : Array Slot), lv_has ls 3 [(0, .ref f0), (1, .int v1), (2, .int v2)] → sj_H G s w H locs → sj_lp2 (vb_X0_countWays_75 f0 Q E) n v1 v2 w → W p l e rm_X0_countWays s m args below meth c H locs 0 0 (sj_MQ G below (va_Qi Q (sj_B G) (sj_F G)) QX args s rm_X0_countWays) (F0 m 75 ls []) := by
  have hx := hC.1
  have hb := hC.2.1
  intro n
  induction n with
  | zero =>
    intro v1 v2 w H locs ls _ _ hv
    exact hv.elim
  | succ n ih =>
    intro v1 v2 w H locs ls hl hH hv
    have hv : vb_X0_countWays_75 f0 Q E (sj_lp2 (vb_X0_countWays_75 f0 Q E) n) v1 v2 w := hv
    have hc1 : rm_X0_countWays.cells = 0 := rfl
    have hc2 : rm_X0_countWays.slots = 0 := rfl
    refine lv_iload_n hx hb dX0_countWays_75 rfl (lv_at hl 2 rfl) ?_
    refine lv_aload_n hx hb dX0_countWays_76 rfl (lv_at hl 0 rfl) ?_
    refine gf_X0_37 hC hH hv.1 dX0_countWays_77 ?_
    refine lv_icmp_gt (tgt := 100) hx hb dX0_countWays_80 (by decide) (fun hc => ?_) (fun hc => ?_)
    · have hv20 := hv.2.1 hc
      exact hE v1 w _ _ _ (lv_sub hl [1] rfl) hH hv20
    · have hv21 := hv.2.2 hc
      refine lv_iload_n hx hb dX0_countWays_83 rfl (lv_at hl 1 rfl) ?_
      refine lv_aload_n hx hb dX0_countWays_84 rfl (lv_at hl 0 rfl) ?_
      refine gf_X0_16 hC hH hv21.1 hv21.2.1 dX0_countWays_85 ?_
      refine lv_iconst (v := 0) hx hb dX0_countWays_88 (by decide) ?_
      refine sj_aaldI hC hH hv21.2.2.1 hv21.2.2.2.1 hv21.2.2.2.2.1 dX0_countWays_89 ?_
      refine lv_iload_n hx hb dX0_countWays_90 rfl (lv_at hl 2 rfl) ?_
      refine sj_iald hC hH hv21.2.2.2.2.2.1 hv21.2.2.2.2.2.2.1 dX0_countWays_91 ?_
      refine lv_iadd hx hb dX0_countWays_92 ?_
      refine lv_istore_n (lv' := [(1, .int (v1 + (sj_i w (sj_r w (sj_A w 1 f0) (0 : Int32).toNatClampNeg) v2.toNatClampNeg))), (0, .ref f0), (2, .int v2)]) hx hb dX0_countWays_93 rfl hl (by decide) rfl (fun ls hl => ?_)
      refine lv_iinc (v := (v2 + 1)) (lv' := [(2, .int (v2 + 1)), (1, .int (v1 + (sj_i w (sj_r w (sj_A w 1 f0) (0 : Int32).toNatClampNeg) v2.toNatClampNeg))), (0, .ref f0)]) hx hb dX0_countWays_94 hl (k := 2) rfl rfl (by decide) rfl (fun ls hl => ?_)
      refine lv_goto (tgt := 75) hx hb dX0_countWays_97 (by decide) ?_
      exact ih (v1 + (sj_i w (sj_r w (sj_A w 1 f0) (0 : Int32).toNatClampNeg) v2.toNatClampNeg)) (v2 + 1) w _ _ _ (lv_sub hl [2, 1, 0] rfl) hH hv21.2.2.2.2.2.2.2
set_option maxHeartbeats 4000000 in
set_option maxRecDepth 100000 in
theorem wk_X0_countWays (G : sj_G) (l : Launch) (hlt : l.stackTraces = false) (self : Nat) (w : sj_W) (Q : Int32 → sj_W → Prop) (QX : String → sj_W → Prop) (hv : vc_X0_countWays self w Q) : sj_MI G l yX0_countWays (sj_ws yX0_countWays cX0_countWays 3 (some .int)) rm_X0_countWays [.ref self] w Q QX := by
  refine sj_of (by decide +kernel) (Nat.le_of_ble_eq_true rfl) hlt ?_
  intro p e s m args below meth c ls hC hD hr hin hH hl
  have hx := hC.1
  have hb := hC.2.1
  have hl : lv_has ls 3 [(0, .ref self)] := hl
  refine lv_aload_n hx hb dX0_countWays_0 rfl (lv_at hl 0 rfl) ?_
  refine gf_X0_37 hC hH hv.1 dX0_countWays_1 ?_
  refine lv_if_ne (tgt := 9) hx hb dX0_countWays_4 (by decide) (fun hc => ?_) (fun hc => ?_)
  · have hv1 := hv.2.1 hc
    refine lv_aload_n hx hb dX0_countWays_9 rfl (lv_at hl 0 rfl) ?_
    refine gf_X0_37 hC hH hv1.1 dX0_countWays_10 ?_
    refine lv_iconst (v := 1) hx hb dX0_countWays_13 (by decide) ?_
    refine lv_isub hx hb dX0_countWays_14 ?_
    refine lv_istore_n (lv' := [(1, .int ((sj_I w 6 self) - 1)), (0, .ref self)]) hx hb dX0_countWays_15 rfl hl (by decide) rfl (fun ls hl => ?_)
    refine wl_X0_countWays_16 hC hD hr hin (fun w_16 H locs ls hl hH hv19 => ?_) 64 ((sj_I w 6 self) - 1) w _ _ _ (lv_sub hl [1, 0] rfl) hH hv1.2
    refine lv_iconst (v := 0) hx hb dX0_countWays_71 (by decide) ?_
    refine lv_istore_n (lv' := [(1, .int 0), (0, .ref self)]) hx hb dX0_countWays_72 rfl hl (by decide) rfl (fun ls hl => ?_)
    refine lv_iconst (v := 1) hx hb dX0_countWays_73 (by decide) ?_
    refine lv_istore_n (lv' := [(2, .int 1), (1, .int 0), (0, .ref self)]) hx hb dX0_countWays_74 rfl hl (by decide) rfl (fun ls hl => ?_)
    refine wl_X0_countWays_75 hC hD hr hin (fun z1_75 w_75 H locs ls hl hH hv22 => ?_) 64 0 1 w_16 _ _ _ (lv_sub hl [2, 1, 0] rfl) hH hv19
    refine lv_iload_n hx hb dX0_countWays_100 rfl (lv_at hl 0 rfl) ?_
    exact sj_retI hC hD hH hr rfl hv22 ⟨(Nat.le_of_ble_eq_true rfl), (Nat.le_of_ble_eq_true rfl)⟩ dX0_countWays_101
  · have hv23 := hv.2.2 hc
    refine lv_iconst (v := 1) hx hb dX0_countWays_7 (by decide) ?_
    exact sj_retI hC hD hH hr rfl hv23 ⟨(Nat.le_of_ble_eq_true rfl), (Nat.le_of_ble_eq_true rfl)⟩ dX0_countWays_8
section SJL_X0_countWays
variable {p : Program} {l : Launch} {e : Env} {R : Room} {s : State} {m : MethodId} {args : Array Value} {below : List Frame} {meth : Method} {c : Code} {H : Heap} {locs : List Loc} {cells slots : Nat} {Q : State → Prop} {cc : ByteArray} {pc : Nat} {ls : Array Slot} {rest : List Value} {G : sj_G} {nL : Nat} {w : sj_W}
theorem cl_X2_65 {rmM : Room} {QcM : Array Value → State → Outcome → State → Prop} {QX : String → sj_W → Prop} {b : Nat} {Qi : Int32 → sj_W → Prop} (hC : sj_C G p l s m args c cc RX2 nL) (hD : sj_D meth c) (hH : sj_H G s w H locs) (hv : vc_X0_countWays b w Qi) (hT : sj_T w b = 1) (hR : rm_X0_countWays.frames + 1 ≤ R.frames ∧ 8 + (3 + 11) + rm_X0_countWays.locals ≤ R.locals) (hf : cells + 0 ≤ R.cells ∧ slots + 0 ≤ R.slots) (hfM : cells + 0 ≤ rmM.cells ∧ slots + 0 ≤ rmM.slots) (hls : ls.size = nL) (hW : (rest.map fun v => v.category).sum ≤ 8) (hdg : decode cc pc = .ok (.invokevirtual 65, 3)) (kk : ∀ (r : Int32) (w1 : sj_W) (H : Heap) (locs : List Loc), sj_H G s w1 H locs → Qi r w1 → W p l e R s m args below meth c H locs (cells + 0) (slots + 0) (sj_MQ G below QcM QX args s rmM) (F0 m (pc + 3) ls (.int r :: rest))) : W p l e R s m args below meth c H locs cells slots (sj_MQ G below QcM QX args s rmM) (F0 m pc ls (.ref b :: rest)) :=
  sj_cI hD hH (sj_runVN (n := 0) hC hH (As := []) (wk_X0_countWays G l hC.2.2.2.2.2.2 b w Qi QX hv) (ci := 0) rfl (by decide) hT mb_695 mb_697 mb_s24 mb_2 mb_698 (by decide +kernel) hR hf rfl hls hW hdg) hfM kk
end SJL_X0_countWays
abbrev rm_X2_factorsAreTrue : Room := { frames := 4, cells := 0, slots := 0, locals := 101 }
def vb_X2_factorsAreTrue_9 (f0 : Nat) (f1 : Int32) (Q : Int32 → sj_W → Prop) (E : sj_W → Prop) (K : Int32 → sj_W → Prop) (v2 : Int32) (w : sj_W) : Prop := ((f1 < v2 → E w) ∧ (¬ f1 < v2 → sj_T w f0 = 1 ∧ sj_A w 3 f0 ≠ 0 ∧ sj_T w (sj_A w 3 f0) = 7 ∧ vp_in v2 (sj_N w (sj_A w 3 f0)) ∧ sj_T w f0 = 1 ∧ vc_X0_factorEnd f0 v2 w (fun r3 w4 => sj_T w4 f0 = 1 ∧ vc_X0_isLyndon f0 (sj_i w (sj_A w 3 f0) v2.toNatClampNeg) r3 w4 (fun r6 w7 => ((¬ r6 = 0 → ((f1 ≤ v2 → K (v2 + 1) w7) ∧ (¬ f1 ≤ v2 → sj_T w7 f0 = 1 ∧ vc_X0_factorEnd f0 (v2 + 1) w7 (fun r12 w13 => sj_T w13 f0 = 1 ∧ vc_X0_compareParts f0 (sj_i w (sj_A w 3 f0) v2.toNatClampNeg) r3 r3 r12 w13 (fun r15 w16 => ((0 ≤ r15 → K (v2 + 1) w16) ∧ (¬ 0 ≤ r15 → Q 0 w16))))))) ∧ (r6 = 0 → Q 0 w7))))))
def vc_X2_factorsAreTrue (a1 : Nat) (w : sj_W) (Q : Int32 → sj_W → Prop) : Prop := sj_T w a1 = 1 ∧ sj_lp1 (vb_X2_factorsAreTrue_9 a1 ((sj_I w 4 a1) - 1) Q (fun w_9 => sj_jn1 (fun (E22 : Int32 → sj_W → Prop) => ((((sj_I w 4 a1) - 1) < 0 → E22 1 w_9) ∧ (¬ ((sj_I w 4 a1) - 1) < 0 → sj_T w_9 a1 = 1 ∧ sj_A w_9 3 a1 ≠ 0 ∧ sj_T w_9 (sj_A w_9 3 a1) = 7 ∧ vp_in ((sj_I w 4 a1) - 1) (sj_N w_9 (sj_A w_9 3 a1)) ∧ sj_T w_9 a1 = 1 ∧ sj_A w_9 2 a1 ≠ 0 ∧ sj_T w_9 (sj_A w_9 2 a1) = 7 ∧ vp_in 0 (sj_N w_9 (sj_A w_9 2 a1)) ∧ ((¬ (sj_i w_9 (sj_A w_9 3 a1) ((sj_I w 4 a1) - 1).toNatClampNeg) = (sj_i w_9 (sj_A w_9 2 a1) (0 : Int32).toNatClampNeg) → E22 0 w_9) ∧ ((sj_i w_9 (sj_A w_9 3 a1) ((sj_I w 4 a1) - 1).toNatClampNeg) = (sj_i w_9 (sj_A w_9 2 a1) (0 : Int32).toNatClampNeg) → E22 1 w_9))))) (fun (y0_96 : Int32) (w_96 : sj_W) => ((y0_96 = 0 → Q 0 w_96) ∧ (¬ y0_96 = 0 → sj_T w_96 a1 = 1 ∧ vc_X0_countWays a1 w_96 (fun r34 w35 => ((¬ r34 = 1 → Q 0 w35) ∧ (r34 = 1 → Q 1 w35)))))))) 64 0 w
set_option maxHeartbeats 4000000 in
set_option maxRecDepth 100000 in
theorem wl_X2_factorsAreTrue_9 {p : Program} {l : Launch} {e : Env} {s : State} {m : MethodId} {args : Array Value} {below : List Frame} {meth : Method} {c : Code} {G : sj_G} {f0 : Nat} {f1 : Int32} {Q : Int32 → sj_W → Prop} {QX : String → sj_W → Prop} {E : sj_W → Prop} (hC : sj_C G p l s m args c cX2_factorsAreTrue RX2 5) (hD : sj_D meth c) (hr : meth.sig.returnType = (some .boolean)) (hin : meth.name = "factorsAreTrue") (hE : ∀ (w : sj_W) (H : Heap) (locs : List Loc) (ls : Array Slot), lv_has ls 5 [(0, .ref f0), (1, .int f1)] → sj_H G s w H locs → E w → W p l e rm_X2_factorsAreTrue s m args below meth c H locs 0 0 (sj_MQ G below (va_Qi Q (sj_B G) (sj_F G)) QX args s rm_X2_factorsAreTrue) (F0 m 72 ls [])) : ∀ (n : Nat) (v2 : Int32) (w : sj_W) (H : Heap) (locs : List Loc) (ls : Array Slot), lv_has ls 5 [(0, .ref f0), (1, .int f1), (2, .int v2)] → sj_H G s w H locs → sj_lp1 (vb_X2_factorsAreTrue_9 f0 f1 Q E) n v2 w → W p l e rm_X2_factorsAreTrue s m args below meth c H locs 0 0 (sj_MQ G below (va_Qi Q (sj_B G) (sj_F G)) QX args s rm_X2_factorsAreTrue) (F0 m 9 ls []) := by
  have hx := hC.1
  have hb := hC.2.1
  intro n
  induction n with
  | zero =>
    intro v2 w H locs ls _ _ hv
    exact hv.elim
  | succ n ih =>
    intro v2 w H locs ls hl hH hv
    have hv : vb_X2_factorsAreTrue_9 f0 f1 Q E (sj_lp1 (vb_X2_factorsAreTrue_9 f0 f1 Q E) n) v2 w := hv
    have hc1 : rm_X2_factorsAreTrue.cells = 0 := rfl
    have hc2 : rm_X2_factorsAreTrue.slots = 0 := rfl
    refine lv_iload_n hx hb dX2_factorsAreTrue_9 rfl (lv_at hl 2 rfl) ?_
    refine lv_iload_n hx hb dX2_factorsAreTrue_10 rfl (lv_at hl 1 rfl) ?_
    refine lv_icmp_gt (tgt := 72) hx hb dX2_factorsAreTrue_11 (by decide) (fun hc => ?_) (fun hc => ?_)
    · have hv1 := hv.1 hc
      exact hE  w _ _ _ (lv_sub hl [0, 1] rfl) hH hv1
    · have hv2 := hv.2 hc
      refine lv_aload_n hx hb dX2_factorsAreTrue_14 rfl (lv_at hl 0 rfl) ?_
      refine gf_X2_54 hC hH hv2.1 hv2.2.1 dX2_factorsAreTrue_15 ?_
      refine lv_iload_n hx hb dX2_factorsAreTrue_18 rfl (lv_at hl 2 rfl) ?_
      refine sj_iald hC hH hv2.2.2.1 hv2.2.2.2.1 dX2_factorsAreTrue_19 ?_
      refine lv_istore_n (lv' := [(3, .int (sj_i w (sj_A w 3 f0) v2.toNatClampNeg)), (0, .ref f0), (1, .int f1), (2, .int v2)]) hx hb dX2_factorsAreTrue_20 rfl hl (by decide) rfl (fun ls hl => ?_)
      refine lv_aload_n hx hb dX2_factorsAreTrue_21 rfl (lv_at hl 1 rfl) ?_
      refine lv_iload_n hx hb dX2_factorsAreTrue_22 rfl (lv_at hl 3 rfl) ?_
      refine cl_X2_57 hC hD hH hv2.2.2.2.2.2 hv2.2.2.2.2.1 ⟨Nat.le_of_ble_eq_true rfl, Nat.le_of_ble_eq_true rfl⟩ ⟨(Nat.le_of_ble_eq_true rfl), (Nat.le_of_ble_eq_true rfl)⟩ ⟨(Nat.le_of_ble_eq_true rfl), (Nat.le_of_ble_eq_true rfl)⟩ hl.1 (Nat.le_of_ble_eq_true rfl) dX2_factorsAreTrue_23 (fun r3 w4 H locs hH hv5 => ?_)
      refine lv_istore (lv' := [(4, .int r3), (3, .int (sj_i w (sj_A w 3 f0) v2.toNatClampNeg)), (0, .ref f0), (1, .int f1), (2, .int v2)]) hx hb dX2_factorsAreTrue_26 hl (by decide) rfl (fun ls hl => ?_)
      refine lv_aload_n hx hb dX2_factorsAreTrue_28 rfl (lv_at hl 2 rfl) ?_
      refine lv_iload_n hx hb dX2_factorsAreTrue_29 rfl (lv_at hl 1 rfl) ?_
      refine lv_iload hx hb dX2_factorsAreTrue_30 (lv_at hl 0 rfl) ?_
      refine cl_X2_61 hC hD hH hv5.2 hv5.1 ⟨Nat.le_of_ble_eq_true rfl, Nat.le_of_ble_eq_true rfl⟩ ⟨(Nat.le_of_ble_eq_true rfl), (Nat.le_of_ble_eq_true rfl)⟩ ⟨(Nat.le_of_ble_eq_true rfl), (Nat.le_of_ble_eq_true rfl)⟩ hl.1 (Nat.le_of_ble_eq_true rfl) dX2_factorsAreTrue_32 (fun r6 w7 H locs hH hv8 => ?_)
      refine lv_if_ne (tgt := 40) hx hb dX2_factorsAreTrue_35 (by decide) (fun hc => ?_) (fun hc => ?_)
      · have hv9 := hv8.1 hc
        refine lv_iload_n hx hb dX2_factorsAreTrue_40 rfl (lv_at hl 4 rfl) ?_
        refine lv_iload_n hx hb dX2_factorsAreTrue_41 rfl (lv_at hl 3 rfl) ?_
        refine lv_icmp_ge (tgt := 66) hx hb dX2_factorsAreTrue_42 (by decide) (fun hc => ?_) (fun hc => ?_)
        · have hv10 := hv9.1 hc
          refine lv_iinc (v := (v2 + 1)) (lv' := [(2, .int (v2 + 1)), (4, .int r3), (3, .int (sj_i w (sj_A w 3 f0) v2.toNatClampNeg)), (0, .ref f0), (1, .int f1)]) hx hb dX2_factorsAreTrue_66 hl (k := 4) rfl rfl (by decide) rfl (fun ls hl => ?_)
          refine lv_goto (tgt := 9) hx hb dX2_factorsAreTrue_69 (by decide) ?_
          exact ih (v2 + 1) w7 _ _ _ (lv_sub hl [3, 4, 0] rfl) hH hv10
        · have hv11 := hv9.2 hc
          refine lv_aload_n hx hb dX2_factorsAreTrue_45 rfl (lv_at hl 2 rfl) ?_
          refine lv_iload_n hx hb dX2_factorsAreTrue_46 rfl (lv_at hl 1 rfl) ?_
          refine lv_iload hx hb dX2_factorsAreTrue_47 (lv_at hl 0 rfl) ?_
          refine lv_iload hx hb dX2_factorsAreTrue_49 (lv_at hl 0 rfl) ?_
          refine lv_aload_n hx hb dX2_factorsAreTrue_51 rfl (lv_at hl 2 rfl) ?_
          refine lv_iload_n hx hb dX2_factorsAreTrue_52 rfl (lv_at hl 4 rfl) ?_
          refine lv_iconst (v := 1) hx hb dX2_factorsAreTrue_53 (by decide) ?_
          refine lv_iadd hx hb dX2_factorsAreTrue_54 ?_
          refine cl_X2_57 hC hD hH hv11.2 hv11.1 ⟨Nat.le_of_ble_eq_true rfl, Nat.le_of_ble_eq_true rfl⟩ ⟨(Nat.le_of_ble_eq_true rfl), (Nat.le_of_ble_eq_true rfl)⟩ ⟨(Nat.le_of_ble_eq_true rfl), (Nat.le_of_ble_eq_true rfl)⟩ hl.1 (Nat.le_of_ble_eq_true rfl) dX2_factorsAreTrue_55 (fun r12 w13 H locs hH hv14 => ?_)
          refine cl_X2_28 hC hD hH hv14.2 hv14.1 ⟨Nat.le_of_ble_eq_true rfl, Nat.le_of_ble_eq_true rfl⟩ ⟨(Nat.le_of_ble_eq_true rfl), (Nat.le_of_ble_eq_true rfl)⟩ ⟨(Nat.le_of_ble_eq_true rfl), (Nat.le_of_ble_eq_true rfl)⟩ hl.1 (Nat.le_of_ble_eq_true rfl) dX2_factorsAreTrue_58 (fun r15 w16 H locs hH hv17 => ?_)
          refine lv_if_ge (tgt := 66) hx hb dX2_factorsAreTrue_61 (by decide) (fun hc => ?_) (fun hc => ?_)
          · have hv18 := hv17.1 hc
            refine lv_iinc (v := (v2 + 1)) (lv' := [(2, .int (v2 + 1)), (4, .int r3), (3, .int (sj_i w (sj_A w 3 f0) v2.toNatClampNeg)), (0, .ref f0), (1, .int f1)]) hx hb dX2_factorsAreTrue_66 hl (k := 4) rfl rfl (by decide) rfl (fun ls hl => ?_)
            refine lv_goto (tgt := 9) hx hb dX2_factorsAreTrue_69 (by decide) ?_
            exact ih (v2 + 1) w16 _ _ _ (lv_sub hl [3, 4, 0] rfl) hH hv18
          · have hv19 := hv17.2 hc
            refine lv_iconst (v := 0) hx hb dX2_factorsAreTrue_64 (by decide) ?_
            exact sj_retI hC hD hH hr rfl hv19 ⟨(Nat.le_of_ble_eq_true rfl), (Nat.le_of_ble_eq_true rfl)⟩ dX2_factorsAreTrue_65
      · have hv20 := hv8.2 hc
        refine lv_iconst (v := 0) hx hb dX2_factorsAreTrue_38 (by decide) ?_
        exact sj_retI hC hD hH hr rfl hv20 ⟨(Nat.le_of_ble_eq_true rfl), (Nat.le_of_ble_eq_true rfl)⟩ dX2_factorsAreTrue_39
set_option maxHeartbeats 4000000 in
set_option maxRecDepth 100000 in
theorem wk_X2_factorsAreTrue (G : sj_G) (l : Launch) (hlt : l.stackTraces = false) (a1 : Nat) (w : sj_W) (Q : Int32 → sj_W → Prop) (QX : String → sj_W → Prop) (hv : vc_X2_factorsAreTrue a1 w Q) : sj_MI G l yX2_factorsAreTrue (sj_ws yX2_factorsAreTrue cX2_factorsAreTrue 5 (some .boolean)) rm_X2_factorsAreTrue [.ref a1] w Q QX := by
  refine sj_of (by decide +kernel) (Nat.le_of_ble_eq_true rfl) hlt ?_
  intro p e s m args below meth c ls hC hD hr hin hH hl
  have hx := hC.1
  have hb := hC.2.1
  have hl : lv_has ls 5 [(0, .ref a1)] := hl
  refine lv_aload_n hx hb dX2_factorsAreTrue_0 rfl (lv_at hl 0 rfl) ?_
  refine gf_X2_51 hC hH hv.1 dX2_factorsAreTrue_1 ?_
  refine lv_iconst (v := 1) hx hb dX2_factorsAreTrue_4 (by decide) ?_
  refine lv_isub hx hb dX2_factorsAreTrue_5 ?_
  refine lv_istore_n (lv' := [(1, .int ((sj_I w 4 a1) - 1)), (0, .ref a1)]) hx hb dX2_factorsAreTrue_6 rfl hl (by decide) rfl (fun ls hl => ?_)
  refine lv_iconst (v := 0) hx hb dX2_factorsAreTrue_7 (by decide) ?_
  refine lv_istore_n (lv' := [(2, .int 0), (1, .int ((sj_I w 4 a1) - 1)), (0, .ref a1)]) hx hb dX2_factorsAreTrue_8 rfl hl (by decide) rfl (fun ls hl => ?_)
  refine wl_X2_factorsAreTrue_9 hC hD hr hin (fun w_9 H locs ls hl hH hv21 => ?_) 64 0 w _ _ _ (lv_sub hl [2, 1, 0] rfl) hH hv.2
  refine lv_iload_n hx hb dX2_factorsAreTrue_72 rfl (lv_at hl 1 rfl) ?_
  obtain ⟨E22, hE23, hv26⟩ := sj_jn1_e hv21
  have hJ24 : ∀ (y0_96 : Int32) (w_96 : sj_W) (H : Heap) (locs : List Loc) (ls : Array Slot), lv_has ls 5 [(0, .ref a1)] → sj_H G s w_96 H locs → E22 y0_96 w_96 → W p l e rm_X2_factorsAreTrue s m args below meth c H locs 0 0 (sj_MQ G below (va_Qi Q (sj_B G) (sj_F G)) QX args s rm_X2_factorsAreTrue) (F0 m 96 ls [.int y0_96]) := by
    intro y0_96 w_96 H locs ls hl hH hv27
    rw [hE23] at hv27
    refine lv_istore_n (lv' := [(2, .int y0_96), (0, .ref a1)]) hx hb dX2_factorsAreTrue_96 rfl hl (by decide) rfl (fun ls hl => ?_)
    refine lv_iload_n hx hb dX2_factorsAreTrue_97 rfl (lv_at hl 0 rfl) ?_
    refine lv_if_eq (tgt := 113) hx hb dX2_factorsAreTrue_98 (by decide) (fun hc => ?_) (fun hc => ?_)
    · have hv32 := hv27.1 hc
      refine lv_iconst (v := 0) hx hb dX2_factorsAreTrue_113 (by decide) ?_
      exact sj_retI hC hD hH hr rfl hv32 ⟨(Nat.le_of_ble_eq_true rfl), (Nat.le_of_ble_eq_true rfl)⟩ dX2_factorsAreTrue_114
    · have hv33 := hv27.2 hc
      refine lv_aload_n hx hb dX2_factorsAreTrue_101 rfl (lv_at hl 1 rfl) ?_
      refine cl_X2_65 hC hD hH hv33.2 hv33.1 ⟨Nat.le_of_ble_eq_true rfl, Nat.le_of_ble_eq_true rfl⟩ ⟨(Nat.le_of_ble_eq_true rfl), (Nat.le_of_ble_eq_true rfl)⟩ ⟨(Nat.le_of_ble_eq_true rfl), (Nat.le_of_ble_eq_true rfl)⟩ hl.1 (Nat.le_of_ble_eq_true rfl) dX2_factorsAreTrue_102 (fun r34 w35 H locs hH hv36 => ?_)
      refine lv_iconst (v := 1) hx hb dX2_factorsAreTrue_105 (by decide) ?_
      refine lv_icmp_ne (tgt := 113) hx hb dX2_factorsAreTrue_106 (by decide) (fun hc => ?_) (fun hc => ?_)
      · have hv37 := hv36.1 hc
        refine lv_iconst (v := 0) hx hb dX2_factorsAreTrue_113 (by decide) ?_
        exact sj_retI hC hD hH hr rfl hv37 ⟨(Nat.le_of_ble_eq_true rfl), (Nat.le_of_ble_eq_true rfl)⟩ dX2_factorsAreTrue_114
      · have hv38 := hv36.2 hc
        refine lv_iconst (v := 1) hx hb dX2_factorsAreTrue_109 (by decide) ?_
        refine lv_goto (tgt := 114) hx hb dX2_factorsAreTrue_110 (by decide) ?_
        exact sj_retI hC hD hH hr rfl hv38 ⟨(Nat.le_of_ble_eq_true rfl), (Nat.le_of_ble_eq_true rfl)⟩ dX2_factorsAreTrue_114
  clear hE23
  refine lv_if_lt (tgt := 91) hx hb dX2_factorsAreTrue_73 (by decide) (fun hc => ?_) (fun hc => ?_)
  · have hv28 := hv26.1 hc
    refine lv_iconst (v := 1) hx hb dX2_factorsAreTrue_91 (by decide) ?_
    refine lv_goto (tgt := 96) hx hb dX2_factorsAreTrue_92 (by decide) ?_
    exact hJ24 1 w_9 _ _ _ (lv_sub hl [0] rfl) hH hv28
  · have hv29 := hv26.2 hc
    refine lv_aload_n hx hb dX2_factorsAreTrue_76 rfl (lv_at hl 0 rfl) ?_
    refine gf_X2_54 hC hH hv29.1 hv29.2.1 dX2_factorsAreTrue_77 ?_
    refine lv_iload_n hx hb dX2_factorsAreTrue_80 rfl (lv_at hl 1 rfl) ?_
    refine sj_iald hC hH hv29.2.2.1 hv29.2.2.2.1 dX2_factorsAreTrue_81 ?_
    refine lv_aload_n hx hb dX2_factorsAreTrue_82 rfl (lv_at hl 0 rfl) ?_
    refine gf_X2_17 hC hH hv29.2.2.2.2.1 hv29.2.2.2.2.2.1 dX2_factorsAreTrue_83 ?_
    refine lv_iconst (v := 0) hx hb dX2_factorsAreTrue_86 (by decide) ?_
    refine sj_iald hC hH hv29.2.2.2.2.2.2.1 hv29.2.2.2.2.2.2.2.1 dX2_factorsAreTrue_87 ?_
    refine lv_icmp_ne (tgt := 95) hx hb dX2_factorsAreTrue_88 (by decide) (fun hc => ?_) (fun hc => ?_)
    · have hv30 := hv29.2.2.2.2.2.2.2.2.1 hc
      refine lv_iconst (v := 0) hx hb dX2_factorsAreTrue_95 (by decide) ?_
      exact hJ24 0 w_9 _ _ _ (lv_sub hl [0] rfl) hH hv30
    · have hv31 := hv29.2.2.2.2.2.2.2.2.2 hc
      refine lv_iconst (v := 1) hx hb dX2_factorsAreTrue_91 (by decide) ?_
      refine lv_goto (tgt := 96) hx hb dX2_factorsAreTrue_92 (by decide) ?_
      exact hJ24 1 w_9 _ _ _ (lv_sub hl [0] rfl) hH hv31
section SJL_X2_factorsAreTrue
variable {p : Program} {l : Launch} {e : Env} {R : Room} {s : State} {m : MethodId} {args : Array Value} {below : List Frame} {meth : Method} {c : Code} {H : Heap} {locs : List Loc} {cells slots : Nat} {Q : State → Prop} {cc : ByteArray} {pc : Nat} {ls : Array Slot} {rest : List Value} {G : sj_G} {nL : Nat} {w : sj_W}
theorem cl_X6_220 {rmM : Room} {QcM : Array Value → State → Outcome → State → Prop} {QX : String → sj_W → Prop} {b0 : Nat} {Qi : Int32 → sj_W → Prop} (hC : sj_C G p l s m args c cc RX6 nL) (hD : sj_D meth c) (hH : sj_H G s w H locs) (hv : vc_X2_factorsAreTrue b0 w Qi) (hR : rm_X2_factorsAreTrue.frames + 1 ≤ R.frames ∧ 8 + (5 + 11) + rm_X2_factorsAreTrue.locals ≤ R.locals) (hf : cells + 0 ≤ R.cells ∧ slots + 0 ≤ R.slots) (hfM : cells + 0 ≤ rmM.cells ∧ slots + 0 ≤ rmM.slots) (hls : ls.size = nL) (hW : (rest.map fun v => v.category).sum ≤ 8) (hdg : decode cc pc = .ok (.invokestatic 220, 3)) (kk : ∀ (r : Int32) (w1 : sj_W) (H : Heap) (locs : List Loc), sj_H G s w1 H locs → Qi r w1 → W p l e R s m args below meth c H locs (cells + 0) (slots + 0) (sj_MQ G below QcM QX args s rmM) (F0 m (pc + 3) ls (.int r :: rest))) : W p l e R s m args below meth c H locs cells slots (sj_MQ G below QcM QX args s rmM) (F0 m pc ls (.ref b0 :: rest)) :=
  sj_cI hD hH (sj_runSN (n := 1) hC hH (As := [.ref b0]) (wk_X2_factorsAreTrue G l hC.2.2.2.2.2.2 b0 w Qi QX hv) mb_684 mb_685 mb_15 mb_686 (by decide +kernel) hR hf rfl hls hW hdg) hfM kk
end SJL_X2_factorsAreTrue
abbrev rm_X6_rowIsTrue : Room := { frames := 8, cells := 3, slots := 18, locals := 125 }
def vc_X6_rowIsTrue (self : Nat) (a1 : Int32) (a2 : Int32) (a3 : Int32) (w : sj_W) (Q : Int32 → sj_W → Prop) (QX : String → sj_W → Prop) : Prop := vc_X6_kindOf a1 w (fun r1 w2 => vc_X6_isUnsigned a2 w2 (fun r4 w5 => sj_T w5 self = 5 ∧ vc_X6_rowOf self r1 a3 w5 (fun r7 w8 => sj_T w8 self = 5 ∧ sj_A w8 35 self ≠ 0 ∧ sj_T w8 (sj_A w8 35 self) = 1 ∧ vc_X0_take (sj_A w8 35 self) r7 r4 w8 (fun w11 => sj_T w11 self = 5 ∧ sj_A w11 35 self ≠ 0 ∧ sj_T w11 (sj_A w11 35 self) = 1 ∧ vc_X0_putInOrder (sj_A w11 35 self) w11 (fun w14 => sj_T w14 self = 5 ∧ sj_A w14 35 self ≠ 0 ∧ sj_T w14 (sj_A w14 35 self) = 1 ∧ vc_X0_split (sj_A w14 35 self) w14 (fun w17 => sj_T w17 self = 5 ∧ sj_A w17 35 self ≠ 0 ∧ vc_X2_countIsTrue (sj_A w17 35 self) w17 (fun r19 w20 => ((r19 = 0 → Q 0 w20) ∧ (¬ r19 = 0 → sj_T w20 self = 5 ∧ sj_A w20 35 self ≠ 0 ∧ vc_X2_periodsAreTrue r7 (sj_A w20 35 self) w20 (fun r24 w25 => ((r24 = 0 → Q 0 w25) ∧ (¬ r24 = 0 → sj_T w25 self = 5 ∧ sj_A w25 35 self ≠ 0 ∧ vc_X2_factorsAreTrue (sj_A w25 35 self) w25 (fun r29 w30 => ((r29 = 0 → Q 0 w30) ∧ (¬ r29 = 0 → Q 1 w30))))))))))))) QX) QX) QX
set_option maxHeartbeats 4000000 in
set_option maxRecDepth 100000 in
theorem wk_X6_rowIsTrue (G : sj_G) (l : Launch) (hlt : l.stackTraces = false) (self : Nat) (a1 : Int32) (a2 : Int32) (a3 : Int32) (w : sj_W) (Q : Int32 → sj_W → Prop) (QX : String → sj_W → Prop) (hv : vc_X6_rowIsTrue self a1 a2 a3 w Q QX) : sj_MI G l yX6_rowIsTrue (sj_ws yX6_rowIsTrue cX6_rowIsTrue 7 (some .boolean)) rm_X6_rowIsTrue [.ref self, .int a1, .int a2, .int a3] w Q QX := by
  refine sj_of (by decide +kernel) (Nat.le_of_ble_eq_true rfl) hlt ?_
  intro p e s m args below meth c ls hC hD hr hin hH hl
  have hx := hC.1
  have hb := hC.2.1
  have hl : lv_has ls 7 [(0, .ref self), (1, .int a1), (2, .int a2), (3, .int a3)] := hl
  refine lv_iload_n hx hb dX6_rowIsTrue_0 rfl (lv_at hl 1 rfl) ?_
  refine cl_X6_34 hC hD hH hv ⟨Nat.le_of_ble_eq_true rfl, Nat.le_of_ble_eq_true rfl⟩ ⟨(Nat.le_of_ble_eq_true rfl), (Nat.le_of_ble_eq_true rfl)⟩ ⟨(Nat.le_of_ble_eq_true rfl), (Nat.le_of_ble_eq_true rfl)⟩ hl.1 (Nat.le_of_ble_eq_true rfl) dX6_rowIsTrue_1 (fun r1 w2 H locs hH hv3 => ?_)
  refine lv_istore (lv' := [(4, .int r1), (0, .ref self), (1, .int a1), (2, .int a2), (3, .int a3)]) hx hb dX6_rowIsTrue_4 hl (by decide) rfl (fun ls hl => ?_)
  refine lv_iload_n hx hb dX6_rowIsTrue_6 rfl (lv_at hl 3 rfl) ?_
  refine cl_X6_133 hC hD hH hv3 ⟨Nat.le_of_ble_eq_true rfl, Nat.le_of_ble_eq_true rfl⟩ ⟨(Nat.le_of_ble_eq_true rfl), (Nat.le_of_ble_eq_true rfl)⟩ ⟨(Nat.le_of_ble_eq_true rfl), (Nat.le_of_ble_eq_true rfl)⟩ hl.1 (Nat.le_of_ble_eq_true rfl) dX6_rowIsTrue_7 (fun r4 w5 H locs hH hv6 => ?_)
  refine lv_istore (lv' := [(5, .int r4), (4, .int r1), (0, .ref self), (1, .int a1), (2, .int a2), (3, .int a3)]) hx hb dX6_rowIsTrue_10 hl (by decide) rfl (fun ls hl => ?_)
  refine lv_aload_n hx hb dX6_rowIsTrue_12 rfl (lv_at hl 2 rfl) ?_
  refine lv_iload hx hb dX6_rowIsTrue_13 (lv_at hl 1 rfl) ?_
  refine lv_iload_n hx hb dX6_rowIsTrue_15 rfl (lv_at hl 5 rfl) ?_
  refine cl_X6_42 hC hD hH hv6.2 hv6.1 ⟨Nat.le_of_ble_eq_true rfl, Nat.le_of_ble_eq_true rfl⟩ ⟨(Nat.le_of_ble_eq_true rfl), (Nat.le_of_ble_eq_true rfl)⟩ ⟨(Nat.le_of_ble_eq_true rfl), (Nat.le_of_ble_eq_true rfl)⟩ hl.1 (Nat.le_of_ble_eq_true rfl) dX6_rowIsTrue_16 (fun r7 w8 H locs hH hv9 => ?_)
  refine lv_astore (lv' := [(6, .ref r7), (5, .int r4), (4, .int r1), (0, .ref self), (1, .int a1), (2, .int a2), (3, .int a3)]) hx hb dX6_rowIsTrue_19 hl (by decide) rfl (fun ls hl => ?_)
  refine lv_aload_n hx hb dX6_rowIsTrue_21 rfl (lv_at hl 3 rfl) ?_
  refine gf_X6_28 hC hH hv9.1 hv9.2.1 dX6_rowIsTrue_22 ?_
  refine lv_aload hx hb dX6_rowIsTrue_25 (lv_at hl 0 rfl) ?_
  refine lv_iload hx hb dX6_rowIsTrue_27 (lv_at hl 1 rfl) ?_
  refine cl_X6_151 hC hD hH hv9.2.2.2 hv9.2.2.1 ⟨Nat.le_of_ble_eq_true rfl, Nat.le_of_ble_eq_true rfl⟩ ⟨(Nat.le_of_ble_eq_true rfl), (Nat.le_of_ble_eq_true rfl)⟩ ⟨(Nat.le_of_ble_eq_true rfl), (Nat.le_of_ble_eq_true rfl)⟩ hl.1 (Nat.le_of_ble_eq_true rfl) dX6_rowIsTrue_29 (fun w11 H locs hH hv12 => ?_)
  refine lv_aload_n hx hb dX6_rowIsTrue_32 rfl (lv_at hl 3 rfl) ?_
  refine gf_X6_28 hC hH hv12.1 hv12.2.1 dX6_rowIsTrue_33 ?_
  refine cl_X6_155 hC hD hH hv12.2.2.2 hv12.2.2.1 ⟨Nat.le_of_ble_eq_true rfl, Nat.le_of_ble_eq_true rfl⟩ ⟨(Nat.le_of_ble_eq_true rfl), (Nat.le_of_ble_eq_true rfl)⟩ ⟨(Nat.le_of_ble_eq_true rfl), (Nat.le_of_ble_eq_true rfl)⟩ hl.1 (Nat.le_of_ble_eq_true rfl) dX6_rowIsTrue_36 (fun w14 H locs hH hv15 => ?_)
  refine lv_aload_n hx hb dX6_rowIsTrue_39 rfl (lv_at hl 3 rfl) ?_
  refine gf_X6_28 hC hH hv15.1 hv15.2.1 dX6_rowIsTrue_40 ?_
  refine cl_X6_180 hC hD hH hv15.2.2.2 hv15.2.2.1 ⟨Nat.le_of_ble_eq_true rfl, Nat.le_of_ble_eq_true rfl⟩ ⟨(Nat.le_of_ble_eq_true rfl), (Nat.le_of_ble_eq_true rfl)⟩ ⟨(Nat.le_of_ble_eq_true rfl), (Nat.le_of_ble_eq_true rfl)⟩ hl.1 (Nat.le_of_ble_eq_true rfl) dX6_rowIsTrue_43 (fun w17 H locs hH hv18 => ?_)
  refine lv_aload_n hx hb dX6_rowIsTrue_46 rfl (lv_at hl 3 rfl) ?_
  refine gf_X6_28 hC hH hv18.1 hv18.2.1 dX6_rowIsTrue_47 ?_
  refine cl_X6_210 hC hD hH hv18.2.2 ⟨Nat.le_of_ble_eq_true rfl, Nat.le_of_ble_eq_true rfl⟩ ⟨(Nat.le_of_ble_eq_true rfl), (Nat.le_of_ble_eq_true rfl)⟩ ⟨(Nat.le_of_ble_eq_true rfl), (Nat.le_of_ble_eq_true rfl)⟩ hl.1 (Nat.le_of_ble_eq_true rfl) dX6_rowIsTrue_50 (fun r19 w20 H locs hH hv21 => ?_)
  refine lv_if_eq (tgt := 82) hx hb dX6_rowIsTrue_53 (by decide) (fun hc => ?_) (fun hc => ?_)
  · have hv22 := hv21.1 hc
    refine lv_iconst (v := 0) hx hb dX6_rowIsTrue_82 (by decide) ?_
    exact sj_retI hC hD hH hr rfl hv22 ⟨(Nat.le_of_ble_eq_true rfl), (Nat.le_of_ble_eq_true rfl)⟩ dX6_rowIsTrue_83
  · have hv23 := hv21.2 hc
    refine lv_aload hx hb dX6_rowIsTrue_56 (lv_at hl 0 rfl) ?_
    refine lv_aload_n hx hb dX6_rowIsTrue_58 rfl (lv_at hl 3 rfl) ?_
    refine gf_X6_28 hC hH hv23.1 hv23.2.1 dX6_rowIsTrue_59 ?_
    refine cl_X6_216 hC hD hH hv23.2.2 ⟨Nat.le_of_ble_eq_true rfl, Nat.le_of_ble_eq_true rfl⟩ ⟨(Nat.le_of_ble_eq_true rfl), (Nat.le_of_ble_eq_true rfl)⟩ ⟨(Nat.le_of_ble_eq_true rfl), (Nat.le_of_ble_eq_true rfl)⟩ hl.1 (Nat.le_of_ble_eq_true rfl) dX6_rowIsTrue_62 (fun r24 w25 H locs hH hv26 => ?_)
    refine lv_if_eq (tgt := 82) hx hb dX6_rowIsTrue_65 (by decide) (fun hc => ?_) (fun hc => ?_)
    · have hv27 := hv26.1 hc
      refine lv_iconst (v := 0) hx hb dX6_rowIsTrue_82 (by decide) ?_
      exact sj_retI hC hD hH hr rfl hv27 ⟨(Nat.le_of_ble_eq_true rfl), (Nat.le_of_ble_eq_true rfl)⟩ dX6_rowIsTrue_83
    · have hv28 := hv26.2 hc
      refine lv_aload_n hx hb dX6_rowIsTrue_68 rfl (lv_at hl 3 rfl) ?_
      refine gf_X6_28 hC hH hv28.1 hv28.2.1 dX6_rowIsTrue_69 ?_
      refine cl_X6_220 hC hD hH hv28.2.2 ⟨Nat.le_of_ble_eq_true rfl, Nat.le_of_ble_eq_true rfl⟩ ⟨(Nat.le_of_ble_eq_true rfl), (Nat.le_of_ble_eq_true rfl)⟩ ⟨(Nat.le_of_ble_eq_true rfl), (Nat.le_of_ble_eq_true rfl)⟩ hl.1 (Nat.le_of_ble_eq_true rfl) dX6_rowIsTrue_72 (fun r29 w30 H locs hH hv31 => ?_)
      refine lv_if_eq (tgt := 82) hx hb dX6_rowIsTrue_75 (by decide) (fun hc => ?_) (fun hc => ?_)
      · have hv32 := hv31.1 hc
        refine lv_iconst (v := 0) hx hb dX6_rowIsTrue_82 (by decide) ?_
        exact sj_retI hC hD hH hr rfl hv32 ⟨(Nat.le_of_ble_eq_true rfl), (Nat.le_of_ble_eq_true rfl)⟩ dX6_rowIsTrue_83
      · have hv33 := hv31.2 hc
        refine lv_iconst (v := 1) hx hb dX6_rowIsTrue_78 (by decide) ?_
        refine lv_goto (tgt := 83) hx hb dX6_rowIsTrue_79 (by decide) ?_
        exact sj_retI hC hD hH hr rfl hv33 ⟨(Nat.le_of_ble_eq_true rfl), (Nat.le_of_ble_eq_true rfl)⟩ dX6_rowIsTrue_83
abbrev rm_X6_set : Room := { frames := 8, cells := 4, slots := 24, locals := 124 }
def vc_X6_set (self : Nat) (a1 : Int32) (a2 : Int32) (a3 : Int32) (a4 : Int64) (w : sj_W) (Q : Int64 → sj_W → Prop) (QX : String → sj_W → Prop) : Prop := vc_X6_kindOf a1 w (fun r1 w2 => vc_X6_wantNumber r1 a4 w2 (fun w5 => sj_T w5 self = 5 ∧ vc_X6_rowOf self r1 a2 w5 (fun r7 w8 => sj_T w8 r7 = 2 ∧ vc_X6_wantPlace a3 (sj_I w8 9 r7) w8 (fun w11 => sj_T w11 r7 = 2 ∧ sj_A w11 8 r7 ≠ 0 ∧ sj_T w11 (sj_A w11 8 r7) = 8 ∧ vp_in a3 (sj_N w11 (sj_A w11 8 r7)) ∧ sj_T w11 r7 = 2 ∧ sj_A w11 8 r7 ≠ 0 ∧ sj_T w11 (sj_A w11 8 r7) = 8 ∧ vp_in a3 (sj_N w11 (sj_A w11 8 r7)) ∧ ∀ w13 : sj_W, w13 = sj_sl w11 (sj_A w11 8 r7) a3.toNatClampNeg a4 → Q (sj_l w11 (sj_A w11 8 r7) a3.toNatClampNeg) w13) QX) QX) QX) QX
set_option maxHeartbeats 4000000 in
set_option maxRecDepth 100000 in
theorem wk_X6_set (G : sj_G) (l : Launch) (hlt : l.stackTraces = false) (self : Nat) (a1 : Int32) (a2 : Int32) (a3 : Int32) (a4 : Int64) (w : sj_W) (Q : Int64 → sj_W → Prop) (QX : String → sj_W → Prop) (hv : vc_X6_set self a1 a2 a3 a4 w Q QX) : sj_ML G l yX6_set (sj_ws yX6_set cX6_set 10 (some .long)) rm_X6_set [.ref self, .int a1, .int a2, .int a3, .long a4] w Q QX := by
  refine sj_of (by decide +kernel) (Nat.le_of_ble_eq_true rfl) hlt ?_
  intro p e s m args below meth c ls hC hD hr hin hH hl
  have hx := hC.1
  have hb := hC.2.1
  have hl : lv_has ls 10 [(0, .ref self), (1, .int a1), (2, .int a2), (3, .int a3), (4, .long a4)] := hl
  refine lv_iload_n hx hb dX6_set_0 rfl (lv_at hl 1 rfl) ?_
  refine cl_X6_34 hC hD hH hv ⟨Nat.le_of_ble_eq_true rfl, Nat.le_of_ble_eq_true rfl⟩ ⟨(Nat.le_of_ble_eq_true rfl), (Nat.le_of_ble_eq_true rfl)⟩ ⟨(Nat.le_of_ble_eq_true rfl), (Nat.le_of_ble_eq_true rfl)⟩ hl.1 (Nat.le_of_ble_eq_true rfl) dX6_set_1 (fun r1 w2 H locs hH hv3 => ?_)
  refine lv_istore (lv' := [(6, .int r1), (0, .ref self), (1, .int a1), (2, .int a2), (3, .int a3), (4, .long a4)]) hx hb dX6_set_4 hl (by decide) rfl (fun ls hl => ?_)
  refine lv_iload hx hb dX6_set_6 (lv_at hl 0 rfl) ?_
  refine lv_lload hx hb dX6_set_8 (lv_at hl 5 rfl) ?_
  refine cl_X6_38 hC hD hH hv3 ⟨Nat.le_of_ble_eq_true rfl, Nat.le_of_ble_eq_true rfl⟩ ⟨(Nat.le_of_ble_eq_true rfl), (Nat.le_of_ble_eq_true rfl)⟩ ⟨(Nat.le_of_ble_eq_true rfl), (Nat.le_of_ble_eq_true rfl)⟩ hl.1 (Nat.le_of_ble_eq_true rfl) dX6_set_10 (fun w5 H locs hH hv6 => ?_)
  refine lv_aload_n hx hb dX6_set_13 rfl (lv_at hl 1 rfl) ?_
  refine lv_iload hx hb dX6_set_14 (lv_at hl 0 rfl) ?_
  refine lv_iload_n hx hb dX6_set_16 rfl (lv_at hl 3 rfl) ?_
  refine cl_X6_42 hC hD hH hv6.2 hv6.1 ⟨Nat.le_of_ble_eq_true rfl, Nat.le_of_ble_eq_true rfl⟩ ⟨(Nat.le_of_ble_eq_true rfl), (Nat.le_of_ble_eq_true rfl)⟩ ⟨(Nat.le_of_ble_eq_true rfl), (Nat.le_of_ble_eq_true rfl)⟩ hl.1 (Nat.le_of_ble_eq_true rfl) dX6_set_17 (fun r7 w8 H locs hH hv9 => ?_)
  refine lv_astore (lv' := [(7, .ref r7), (6, .int r1), (0, .ref self), (1, .int a1), (2, .int a2), (3, .int a3), (4, .long a4)]) hx hb dX6_set_20 hl (by decide) rfl (fun ls hl => ?_)
  refine lv_iload_n hx hb dX6_set_22 rfl (lv_at hl 5 rfl) ?_
  refine lv_aload hx hb dX6_set_23 (lv_at hl 0 rfl) ?_
  refine gf_X6_46 hC hH hv9.1 dX6_set_25 ?_
  refine cl_X6_61 hC hD hH hv9.2 ⟨Nat.le_of_ble_eq_true rfl, Nat.le_of_ble_eq_true rfl⟩ ⟨(Nat.le_of_ble_eq_true rfl), (Nat.le_of_ble_eq_true rfl)⟩ ⟨(Nat.le_of_ble_eq_true rfl), (Nat.le_of_ble_eq_true rfl)⟩ hl.1 (Nat.le_of_ble_eq_true rfl) dX6_set_28 (fun w11 H locs hH hv12 => ?_)
  refine lv_aload hx hb dX6_set_31 (lv_at hl 0 rfl) ?_
  refine gf_X6_57 hC hH hv12.1 hv12.2.1 dX6_set_33 ?_
  refine lv_iload_n hx hb dX6_set_36 rfl (lv_at hl 5 rfl) ?_
  refine sj_lald hC hH hv12.2.2.1 hv12.2.2.2.1 dX6_set_37 ?_
  refine lv_lstore (lv' := [(8, .long (sj_l w11 (sj_A w11 8 r7) a3.toNatClampNeg)), (7, .ref r7), (6, .int r1), (0, .ref self), (1, .int a1), (2, .int a2), (3, .int a3), (4, .long a4)]) hx hb dX6_set_38 hl (by decide) rfl (fun ls hl => ?_)
  refine lv_aload hx hb dX6_set_40 (lv_at hl 1 rfl) ?_
  refine gf_X6_57 hC hH hv12.2.2.2.2.1 hv12.2.2.2.2.2.1 dX6_set_42 ?_
  refine lv_iload_n hx hb dX6_set_45 rfl (lv_at hl 6 rfl) ?_
  refine lv_lload hx hb dX6_set_46 (lv_at hl 7 rfl) ?_
  refine sj_last hC hH hv12.2.2.2.2.2.2.1 hv12.2.2.2.2.2.2.2.1 dX6_set_48 (fun w13 H locs e14 hH => ?_)
  refine lv_lload hx hb dX6_set_49 (lv_at hl 0 rfl) ?_
  exact sj_retL hC hD hH hr (hv12.2.2.2.2.2.2.2.2 w13 e14) ⟨(Nat.le_of_ble_eq_true rfl), (Nat.le_of_ble_eq_true rfl)⟩ dX6_set_51
abbrev rm_X6_fittingAhead : Room := { frames := 1, cells := 0, slots := 0, locals := 22 }
def vb_X6_fittingAhead_5 (f0 : Nat) (f1 : Int32) (f2 : Int32) (Q : Int32 → sj_W → Prop) (E : Int32 → sj_W → Prop) (K : Int32 → Int32 → sj_W → Prop) (v3 : Int32) (v4 : Int32) (w : sj_W) : Prop := ((f2 ≤ v4 → E v3 w) ∧ (¬ f2 ≤ v4 → sj_T w f0 = 5 ∧ sj_A w 33 f0 ≠ 0 ∧ (sj_T w (sj_A w 33 f0) = 10 ∨ sj_T w (sj_A w 33 f0) = 11 ∨ sj_T w (sj_A w 33 f0) = 12) ∧ vp_in v4 (sj_N w (sj_A w 33 f0)) ∧ (sj_r w (sj_A w 33 f0) v4.toNatClampNeg) ≠ 0 ∧ sj_T w f0 = 5 ∧ vc_X6_isFitting f0 f1 (sj_r w (sj_A w 33 f0) v4.toNatClampNeg) w (fun r3 w4 => ((r3 = 0 → K v3 (v4 + 1) w4) ∧ (¬ r3 = 0 → K (v3 + 1) (v4 + 1) w4)))))
def vc_X6_fittingAhead (self : Nat) (a1 : Int32) (a2 : Int32) (w : sj_W) (Q : Int32 → sj_W → Prop) : Prop := sj_lp2 (vb_X6_fittingAhead_5 self a1 a2 Q (fun z3_5 w_5 => Q z3_5 w_5)) 64 0 0 w
set_option maxHeartbeats 4000000 in
set_option maxRecDepth 100000 in
theorem wl_X6_fittingAhead_5 {p : Program} {l : Launch} {e : Env} {s : State} {m : MethodId} {args : Array Value} {below : List Frame} {meth : Method} {c : Code} {G : sj_G} {f0 : Nat} {f1 : Int32} {f2 : Int32} {Q : Int32 → sj_W → Prop} {QX : String → sj_W → Prop} {E : Int32 → sj_W → Prop} (hC : sj_C G p l s m args c cX6_fittingAhead RX6 5) (hD : sj_D meth c) (hr : meth.sig.returnType = (some .int)) (hin : meth.name = "fittingAhead") (hE : ∀ (v3 : Int32) (w : sj_W) (H : Heap) (locs : List Loc) (ls : Array Slot), lv_has ls 5 [(3, .int v3)] → sj_H G s w H locs → E v3 w → W p l e rm_X6_fittingAhead s m args below meth c H locs 0 0 (sj_MQ G below (va_Qi Q (sj_B G) (sj_F G)) QX args s rm_X6_fittingAhead) (F0 m 35 ls [])) : ∀ (n : Nat) (v3 : Int32) (v4 : Int32) (w : sj_W) (H : Heap) (locs : List Loc) (ls : Array Slot), lv_has ls 5 [(0, .ref f0), (1, .int f1), (2, .int f2), (3, .int v3), (4, .int v4)] → sj_H G s w H locs → sj_lp2 (vb_X6_fittingAhead_5 f0 f1 f2 Q E) n v3 v4 w → W p l e rm_X6_fittingAhead s m args below meth c H locs 0 0 (sj_MQ G below (va_Qi Q (sj_B G) (sj_F G)) QX args s rm_X6_fittingAhead) (F0 m 5 ls []) := by
  have hx := hC.1
  have hb := hC.2.1
  intro n
  induction n with
  | zero =>
    intro v3 v4 w H locs ls _ _ hv
    exact hv.elim
  | succ n ih =>
    intro v3 v4 w H locs ls hl hH hv
    have hv : vb_X6_fittingAhead_5 f0 f1 f2 Q E (sj_lp2 (vb_X6_fittingAhead_5 f0 f1 f2 Q E) n) v3 v4 w := hv
    have hc1 : rm_X6_fittingAhead.cells = 0 := rfl
    have hc2 : rm_X6_fittingAhead.slots = 0 := rfl
    refine lv_iload hx hb dX6_fittingAhead_5 (lv_at hl 4 rfl) ?_
    refine lv_iload_n hx hb dX6_fittingAhead_7 rfl (lv_at hl 2 rfl) ?_
    refine lv_icmp_ge (tgt := 35) hx hb dX6_fittingAhead_8 (by decide) (fun hc => ?_) (fun hc => ?_)
    · have hv1 := hv.1 hc
      exact hE v3 w _ _ _ (lv_sub hl [3] rfl) hH hv1
    · have hv2 := hv.2 hc
      refine lv_aload_n hx hb dX6_fittingAhead_11 rfl (lv_at hl 0 rfl) ?_
      refine lv_iload_n hx hb dX6_fittingAhead_12 rfl (lv_at hl 1 rfl) ?_
      refine lv_aload_n hx hb dX6_fittingAhead_13 rfl (lv_at hl 0 rfl) ?_
      refine gf_X6_17 hC hH hv2.1 hv2.2.1 dX6_fittingAhead_14 ?_
      refine lv_iload hx hb dX6_fittingAhead_17 (lv_at hl 4 rfl) ?_
      refine sj_aald hC hH hv2.2.2.1 hv2.2.2.2.1 hv2.2.2.2.2.1 dX6_fittingAhead_19 ?_
      refine cl_X6_108 hC hD hH hv2.2.2.2.2.2.2 hv2.2.2.2.2.2.1 ⟨Nat.le_of_ble_eq_true rfl, Nat.le_of_ble_eq_true rfl⟩ ⟨(Nat.le_of_ble_eq_true rfl), (Nat.le_of_ble_eq_true rfl)⟩ ⟨(Nat.le_of_ble_eq_true rfl), (Nat.le_of_ble_eq_true rfl)⟩ hl.1 (Nat.le_of_ble_eq_true rfl) dX6_fittingAhead_20 (fun r3 w4 H locs hH hv5 => ?_)
      refine lv_if_eq (tgt := 29) hx hb dX6_fittingAhead_23 (by decide) (fun hc => ?_) (fun hc => ?_)
      · have hv6 := hv5.1 hc
        refine lv_iinc (v := (v4 + 1)) (lv' := [(4, .int (v4 + 1)), (0, .ref f0), (1, .int f1), (2, .int f2), (3, .int v3)]) hx hb dX6_fittingAhead_29 hl (k := 4) rfl rfl (by decide) rfl (fun ls hl => ?_)
        refine lv_goto (tgt := 5) hx hb dX6_fittingAhead_32 (by decide) ?_
        exact ih v3 (v4 + 1) w4 _ _ _ (lv_sub hl [1, 2, 3, 4, 0] rfl) hH hv6
      · have hv7 := hv5.2 hc
        refine lv_iinc (v := (v3 + 1)) (lv' := [(3, .int (v3 + 1)), (0, .ref f0), (1, .int f1), (2, .int f2), (4, .int v4)]) hx hb dX6_fittingAhead_26 hl (k := 3) rfl rfl (by decide) rfl (fun ls hl => ?_)
        refine lv_iinc (v := (v4 + 1)) (lv' := [(4, .int (v4 + 1)), (3, .int (v3 + 1)), (0, .ref f0), (1, .int f1), (2, .int f2)]) hx hb dX6_fittingAhead_29 hl (k := 4) rfl rfl (by decide) rfl (fun ls hl => ?_)
        refine lv_goto (tgt := 5) hx hb dX6_fittingAhead_32 (by decide) ?_
        exact ih (v3 + 1) (v4 + 1) w4 _ _ _ (lv_sub hl [2, 3, 4, 1, 0] rfl) hH hv7
set_option maxHeartbeats 4000000 in
set_option maxRecDepth 100000 in
theorem wk_X6_fittingAhead (G : sj_G) (l : Launch) (hlt : l.stackTraces = false) (self : Nat) (a1 : Int32) (a2 : Int32) (w : sj_W) (Q : Int32 → sj_W → Prop) (QX : String → sj_W → Prop) (hv : vc_X6_fittingAhead self a1 a2 w Q) : sj_MI G l yX6_fittingAhead (sj_ws yX6_fittingAhead cX6_fittingAhead 5 (some .int)) rm_X6_fittingAhead [.ref self, .int a1, .int a2] w Q QX := by
  refine sj_of (by decide +kernel) (Nat.le_of_ble_eq_true rfl) hlt ?_
  intro p e s m args below meth c ls hC hD hr hin hH hl
  have hx := hC.1
  have hb := hC.2.1
  have hl : lv_has ls 5 [(0, .ref self), (1, .int a1), (2, .int a2)] := hl
  refine lv_iconst (v := 0) hx hb dX6_fittingAhead_0 (by decide) ?_
  refine lv_istore_n (lv' := [(3, .int 0), (0, .ref self), (1, .int a1), (2, .int a2)]) hx hb dX6_fittingAhead_1 rfl hl (by decide) rfl (fun ls hl => ?_)
  refine lv_iconst (v := 0) hx hb dX6_fittingAhead_2 (by decide) ?_
  refine lv_istore (lv' := [(4, .int 0), (3, .int 0), (0, .ref self), (1, .int a1), (2, .int a2)]) hx hb dX6_fittingAhead_3 hl (by decide) rfl (fun ls hl => ?_)
  refine wl_X6_fittingAhead_5 hC hD hr hin (fun z3_5 w_5 H locs ls hl hH hv8 => ?_) 64 0 0 w _ _ _ (lv_sub hl [2, 3, 4, 1, 0] rfl) hH hv
  refine lv_iload_n hx hb dX6_fittingAhead_35 rfl (lv_at hl 0 rfl) ?_
  exact sj_retI hC hD hH hr rfl hv8 ⟨(Nat.le_of_ble_eq_true rfl), (Nat.le_of_ble_eq_true rfl)⟩ dX6_fittingAhead_36
section SJL_X6_fittingAhead
variable {p : Program} {l : Launch} {e : Env} {R : Room} {s : State} {m : MethodId} {args : Array Value} {below : List Frame} {meth : Method} {c : Code} {H : Heap} {locs : List Loc} {cells slots : Nat} {Q : State → Prop} {cc : ByteArray} {pc : Nat} {ls : Array Slot} {rest : List Value} {G : sj_G} {nL : Nat} {w : sj_W}
theorem cl_X6_189 {rmM : Room} {QcM : Array Value → State → Outcome → State → Prop} {QX : String → sj_W → Prop} {b : Nat} {b0 : Int32} {b1 : Int32} {Qi : Int32 → sj_W → Prop} (hC : sj_C G p l s m args c cc RX6 nL) (hD : sj_D meth c) (hH : sj_H G s w H locs) (hv : vc_X6_fittingAhead b b0 b1 w Qi) (hT : sj_T w b = 5) (hR : rm_X6_fittingAhead.frames + 1 ≤ R.frames ∧ 8 + (5 + 11) + rm_X6_fittingAhead.locals ≤ R.locals) (hf : cells + 0 ≤ R.cells ∧ slots + 0 ≤ R.slots) (hfM : cells + 0 ≤ rmM.cells ∧ slots + 0 ≤ rmM.slots) (hls : ls.size = nL) (hW : (rest.map fun v => v.category).sum ≤ 8) (hdg : decode cc pc = .ok (.invokevirtual 189, 3)) (kk : ∀ (r : Int32) (w1 : sj_W) (H : Heap) (locs : List Loc), sj_H G s w1 H locs → Qi r w1 → W p l e R s m args below meth c H locs (cells + 0) (slots + 0) (sj_MQ G below QcM QX args s rmM) (F0 m (pc + 3) ls (.int r :: rest))) : W p l e R s m args below meth c H locs cells slots (sj_MQ G below QcM QX args s rmM) (F0 m pc ls (.int b1 :: .int b0 :: .ref b :: rest)) :=
  sj_cI hD hH (sj_runV (n := 2) hC hH (As := [.int b0, .int b1]) (wk_X6_fittingAhead G l hC.2.2.2.2.2.2 b b0 b1 w Qi QX hv) (ci := 4) rfl (by decide) hT mb_597 mb_599 mb_s19 mb_1 mb_600 (by decide +kernel) hR hf rfl hls hW hdg) hfM kk
end SJL_X6_fittingAhead
abbrev rm_X6_sameAhead : Room := { frames := 3, cells := 16, slots := 48, locals := 65 }
def vb_X6_sameAhead_18 (f0 : Nat) (f1 : Int32) (f2 : Int32) (f3 : Nat) (Q : Int32 → sj_W → Prop) (E : Int32 → sj_W → Prop) (K : Int32 → Int32 → sj_W → Prop) (v4 : Int32) (v5 : Int32) (w : sj_W) : Prop := ((f2 ≤ v5 → E v4 w) ∧ (¬ f2 ≤ v5 → sj_T w f0 = 5 ∧ sj_A w 33 f0 ≠ 0 ∧ (sj_T w (sj_A w 33 f0) = 10 ∨ sj_T w (sj_A w 33 f0) = 11 ∨ sj_T w (sj_A w 33 f0) = 12) ∧ vp_in v5 (sj_N w (sj_A w 33 f0)) ∧ (sj_r w (sj_A w 33 f0) v5.toNatClampNeg) ≠ 0 ∧ sj_T w f0 = 5 ∧ vc_X6_isFitting f0 f1 (sj_r w (sj_A w 33 f0) v5.toNatClampNeg) w (fun r6 w7 => ((r6 = 0 → K v4 (v5 + 1) w7) ∧ (¬ r6 = 0 → sj_T w7 f0 = 5 ∧ sj_A w7 33 f0 ≠ 0 ∧ (sj_T w7 (sj_A w7 33 f0) = 10 ∨ sj_T w7 (sj_A w7 33 f0) = 11 ∨ sj_T w7 (sj_A w7 33 f0) = 12) ∧ vp_in v5 (sj_N w7 (sj_A w7 33 f0)) ∧ (sj_r w7 (sj_A w7 33 f0) v5.toNatClampNeg) ≠ 0 ∧ sj_T w7 f0 = 5 ∧ vc_X6_wordOf f0 f1 (sj_r w7 (sj_A w7 33 f0) v5.toNatClampNeg) w7 (fun r11 w12 => vc_X6_isSame r11 f3 w12 (fun r14 w15 => ((r14 = 0 → K v4 (v5 + 1) w15) ∧ (¬ r14 = 0 → K (v4 + 1) (v5 + 1) w15)))))))))
def vc_X6_sameAhead (self : Nat) (a1 : Int32) (a2 : Int32) (w : sj_W) (Q : Int32 → sj_W → Prop) : Prop := sj_T w self = 5 ∧ sj_A w 33 self ≠ 0 ∧ (sj_T w (sj_A w 33 self) = 10 ∨ sj_T w (sj_A w 33 self) = 11 ∨ sj_T w (sj_A w 33 self) = 12) ∧ vp_in a2 (sj_N w (sj_A w 33 self)) ∧ (sj_r w (sj_A w 33 self) a2.toNatClampNeg) ≠ 0 ∧ sj_T w self = 5 ∧ vc_X6_wordOf self a1 (sj_r w (sj_A w 33 self) a2.toNatClampNeg) w (fun r1 w2 => sj_lp2 (vb_X6_sameAhead_18 self a1 a2 r1 Q (fun z4_18 w_18 => Q z4_18 w_18)) 14 0 0 w2)
set_option maxHeartbeats 4000000 in
set_option maxRecDepth 100000 in
theorem wl_X6_sameAhead_18 {p : Program} {l : Launch} {e : Env} {s : State} {m : MethodId} {args : Array Value} {below : List Frame} {meth : Method} {c : Code} {G : sj_G} {f0 : Nat} {f1 : Int32} {f2 : Int32} {f3 : Nat} {Q : Int32 → sj_W → Prop} {QX : String → sj_W → Prop} {E : Int32 → sj_W → Prop} (hC : sj_C G p l s m args c cX6_sameAhead RX6 6) (hD : sj_D meth c) (hr : meth.sig.returnType = (some .int)) (hin : meth.name = "sameAhead") (hE : ∀ (v4 : Int32) (w : sj_W) (H : Heap) (locs : List Loc) (ls : Array Slot), lv_has ls 6 [(4, .int v4)] → sj_H G s w H locs → E v4 w → W p l e rm_X6_sameAhead s m args below meth c H locs 15 45 (sj_MQ G below (va_Qi Q (sj_B G) (sj_F G)) QX args s rm_X6_sameAhead) (F0 m 67 ls [])) : ∀ (n : Nat) (v4 : Int32) (v5 : Int32) (w : sj_W) (H : Heap) (locs : List Loc) (ls : Array Slot) (cells slots : Nat), cells + n * 1 ≤ 15 → slots + n * 3 ≤ 45 → lv_has ls 6 [(0, .ref f0), (1, .int f1), (2, .int f2), (3, .ref f3), (4, .int v4), (5, .int v5)] → sj_H G s w H locs → sj_lp2 (vb_X6_sameAhead_18 f0 f1 f2 f3 Q E) n v4 v5 w → W p l e rm_X6_sameAhead s m args below meth c H locs cells slots (sj_MQ G below (va_Qi Q (sj_B G) (sj_F G)) QX args s rm_X6_sameAhead) (F0 m 18 ls []) := by
  have hx := hC.1
  have hb := hC.2.1
  intro n
  induction n with
  | zero =>
    intro v4 v5 w H locs ls cells slots _ _ _ _ hv
    exact hv.elim
  | succ n ih =>
    intro v4 v5 w H locs ls cells slots hcc hcs hl hH hv
    have hv : vb_X6_sameAhead_18 f0 f1 f2 f3 Q E (sj_lp2 (vb_X6_sameAhead_18 f0 f1 f2 f3 Q E) n) v4 v5 w := hv
    have hc1 : rm_X6_sameAhead.cells = 16 := rfl
    have hc2 : rm_X6_sameAhead.slots = 48 := rfl
    refine lv_iload hx hb dX6_sameAhead_18 (lv_at hl 5 rfl) ?_
    refine lv_iload_n hx hb dX6_sameAhead_20 rfl (lv_at hl 2 rfl) ?_
    refine lv_icmp_ge (tgt := 67) hx hb dX6_sameAhead_21 (by decide) (fun hc => ?_) (fun hc => ?_)
    · have hv4 := hv.1 hc
      refine W.widen (k := 15) (n := 45) (by omega) (by omega) ?_
      exact hE v4 w _ _ _ (lv_sub hl [4] rfl) hH hv4
    · have hv5 := hv.2 hc
      refine lv_aload_n hx hb dX6_sameAhead_24 rfl (lv_at hl 0 rfl) ?_
      refine lv_iload_n hx hb dX6_sameAhead_25 rfl (lv_at hl 1 rfl) ?_
      refine lv_aload_n hx hb dX6_sameAhead_26 rfl (lv_at hl 0 rfl) ?_
      refine gf_X6_17 hC hH hv5.1 hv5.2.1 dX6_sameAhead_27 ?_
      refine lv_iload hx hb dX6_sameAhead_30 (lv_at hl 5 rfl) ?_
      refine sj_aald hC hH hv5.2.2.1 hv5.2.2.2.1 hv5.2.2.2.2.1 dX6_sameAhead_32 ?_
      refine cl_X6_108 hC hD hH hv5.2.2.2.2.2.2 hv5.2.2.2.2.2.1 ⟨Nat.le_of_ble_eq_true rfl, Nat.le_of_ble_eq_true rfl⟩ ⟨(by have hc1 : rm_X6_sameAhead.cells = 16 := rfl; omega), (by have hc1 : rm_X6_sameAhead.slots = 48 := rfl; omega)⟩ ⟨(by have hc1 : rm_X6_sameAhead.cells = 16 := rfl; omega), (by have hc1 : rm_X6_sameAhead.slots = 48 := rfl; omega)⟩ hl.1 (Nat.le_of_ble_eq_true rfl) dX6_sameAhead_33 (fun r6 w7 H locs hH hv8 => ?_)
      refine lv_if_eq (tgt := 61) hx hb dX6_sameAhead_36 (by decide) (fun hc => ?_) (fun hc => ?_)
      · have hv9 := hv8.1 hc
        refine lv_iinc (v := (v5 + 1)) (lv' := [(5, .int (v5 + 1)), (0, .ref f0), (1, .int f1), (2, .int f2), (3, .ref f3), (4, .int v4)]) hx hb dX6_sameAhead_61 hl (k := 5) rfl rfl (by decide) rfl (fun ls hl => ?_)
        refine lv_goto (tgt := 18) hx hb dX6_sameAhead_64 (by decide) ?_
        refine W.widen (k := cells + 1) (n := slots + 3) (by omega) (by omega) ?_
        exact ih v4 (v5 + 1) w7 _ _ _ _ _ (by omega) (by omega) (lv_sub hl [1, 2, 3, 4, 5, 0] rfl) hH hv9
      · have hv10 := hv8.2 hc
        refine lv_aload_n hx hb dX6_sameAhead_39 rfl (lv_at hl 0 rfl) ?_
        refine lv_iload_n hx hb dX6_sameAhead_40 rfl (lv_at hl 1 rfl) ?_
        refine lv_aload_n hx hb dX6_sameAhead_41 rfl (lv_at hl 0 rfl) ?_
        refine gf_X6_17 hC hH hv10.1 hv10.2.1 dX6_sameAhead_42 ?_
        refine lv_iload hx hb dX6_sameAhead_45 (lv_at hl 5 rfl) ?_
        refine sj_aald hC hH hv10.2.2.1 hv10.2.2.2.1 hv10.2.2.2.2.1 dX6_sameAhead_47 ?_
        refine cl_X6_137 hC hD hH hv10.2.2.2.2.2.2 hv10.2.2.2.2.2.1 ⟨Nat.le_of_ble_eq_true rfl, Nat.le_of_ble_eq_true rfl⟩ ⟨(by have hc1 : rm_X6_sameAhead.cells = 16 := rfl; omega), (by have hc1 : rm_X6_sameAhead.slots = 48 := rfl; omega)⟩ ⟨(by have hc1 : rm_X6_sameAhead.cells = 16 := rfl; omega), (by have hc1 : rm_X6_sameAhead.slots = 48 := rfl; omega)⟩ hl.1 (Nat.le_of_ble_eq_true rfl) dX6_sameAhead_48 (fun r11 w12 H locs hH hv13 => ?_)
        refine lv_aload_n hx hb dX6_sameAhead_51 rfl (lv_at hl 3 rfl) ?_
        refine cl_X6_243 hC hD hH hv13 ⟨Nat.le_of_ble_eq_true rfl, Nat.le_of_ble_eq_true rfl⟩ ⟨(by have hc1 : rm_X6_sameAhead.cells = 16 := rfl; omega), (by have hc1 : rm_X6_sameAhead.slots = 48 := rfl; omega)⟩ ⟨(by have hc1 : rm_X6_sameAhead.cells = 16 := rfl; omega), (by have hc1 : rm_X6_sameAhead.slots = 48 := rfl; omega)⟩ hl.1 (Nat.le_of_ble_eq_true rfl) dX6_sameAhead_52 (fun r14 w15 H locs hH hv16 => ?_)
        refine lv_if_eq (tgt := 61) hx hb dX6_sameAhead_55 (by decide) (fun hc => ?_) (fun hc => ?_)
        · have hv17 := hv16.1 hc
          refine lv_iinc (v := (v5 + 1)) (lv' := [(5, .int (v5 + 1)), (0, .ref f0), (1, .int f1), (2, .int f2), (3, .ref f3), (4, .int v4)]) hx hb dX6_sameAhead_61 hl (k := 5) rfl rfl (by decide) rfl (fun ls hl => ?_)
          refine lv_goto (tgt := 18) hx hb dX6_sameAhead_64 (by decide) ?_
          refine W.widen (k := cells + 1) (n := slots + 3) (by omega) (by omega) ?_
          exact ih v4 (v5 + 1) w15 _ _ _ _ _ (by omega) (by omega) (lv_sub hl [1, 2, 3, 4, 5, 0] rfl) hH hv17
        · have hv18 := hv16.2 hc
          refine lv_iinc (v := (v4 + 1)) (lv' := [(4, .int (v4 + 1)), (0, .ref f0), (1, .int f1), (2, .int f2), (3, .ref f3), (5, .int v5)]) hx hb dX6_sameAhead_58 hl (k := 4) rfl rfl (by decide) rfl (fun ls hl => ?_)
          refine lv_iinc (v := (v5 + 1)) (lv' := [(5, .int (v5 + 1)), (4, .int (v4 + 1)), (0, .ref f0), (1, .int f1), (2, .int f2), (3, .ref f3)]) hx hb dX6_sameAhead_61 hl (k := 5) rfl rfl (by decide) rfl (fun ls hl => ?_)
          refine lv_goto (tgt := 18) hx hb dX6_sameAhead_64 (by decide) ?_
          refine W.widen (k := cells + 1) (n := slots + 3) (by omega) (by omega) ?_
          exact ih (v4 + 1) (v5 + 1) w15 _ _ _ _ _ (by omega) (by omega) (lv_sub hl [2, 3, 4, 5, 1, 0] rfl) hH hv18
set_option maxHeartbeats 4000000 in
set_option maxRecDepth 100000 in
theorem wk_X6_sameAhead (G : sj_G) (l : Launch) (hlt : l.stackTraces = false) (self : Nat) (a1 : Int32) (a2 : Int32) (w : sj_W) (Q : Int32 → sj_W → Prop) (QX : String → sj_W → Prop) (hv : vc_X6_sameAhead self a1 a2 w Q) : sj_MI G l yX6_sameAhead (sj_ws yX6_sameAhead cX6_sameAhead 6 (some .int)) rm_X6_sameAhead [.ref self, .int a1, .int a2] w Q QX := by
  refine sj_of (by decide +kernel) (Nat.le_of_ble_eq_true rfl) hlt ?_
  intro p e s m args below meth c ls hC hD hr hin hH hl
  have hx := hC.1
  have hb := hC.2.1
  have hl : lv_has ls 6 [(0, .ref self), (1, .int a1), (2, .int a2)] := hl
  refine lv_aload_n hx hb dX6_sameAhead_0 rfl (lv_at hl 0 rfl) ?_
  refine lv_iload_n hx hb dX6_sameAhead_1 rfl (lv_at hl 1 rfl) ?_
  refine lv_aload_n hx hb dX6_sameAhead_2 rfl (lv_at hl 0 rfl) ?_
  refine gf_X6_17 hC hH hv.1 hv.2.1 dX6_sameAhead_3 ?_
  refine lv_iload_n hx hb dX6_sameAhead_6 rfl (lv_at hl 2 rfl) ?_
  refine sj_aald hC hH hv.2.2.1 hv.2.2.2.1 hv.2.2.2.2.1 dX6_sameAhead_7 ?_
  refine cl_X6_137 hC hD hH hv.2.2.2.2.2.2 hv.2.2.2.2.2.1 ⟨Nat.le_of_ble_eq_true rfl, Nat.le_of_ble_eq_true rfl⟩ ⟨(Nat.le_of_ble_eq_true rfl), (Nat.le_of_ble_eq_true rfl)⟩ ⟨(Nat.le_of_ble_eq_true rfl), (Nat.le_of_ble_eq_true rfl)⟩ hl.1 (Nat.le_of_ble_eq_true rfl) dX6_sameAhead_8 (fun r1 w2 H locs hH hv3 => ?_)
  refine lv_astore_n (lv' := [(3, .ref r1), (0, .ref self), (1, .int a1), (2, .int a2)]) hx hb dX6_sameAhead_11 rfl hl (by decide) rfl (fun ls hl => ?_)
  refine lv_iconst (v := 0) hx hb dX6_sameAhead_12 (by decide) ?_
  refine lv_istore (lv' := [(4, .int 0), (3, .ref r1), (0, .ref self), (1, .int a1), (2, .int a2)]) hx hb dX6_sameAhead_13 hl (by decide) rfl (fun ls hl => ?_)
  refine lv_iconst (v := 0) hx hb dX6_sameAhead_15 (by decide) ?_
  refine lv_istore (lv' := [(5, .int 0), (4, .int 0), (3, .ref r1), (0, .ref self), (1, .int a1), (2, .int a2)]) hx hb dX6_sameAhead_16 hl (by decide) rfl (fun ls hl => ?_)
  refine wl_X6_sameAhead_18 hC hD hr hin (fun z4_18 w_18 H locs ls hl hH hv19 => ?_) 14 0 0 w2 _ _ _ 1 3 (Nat.le_of_ble_eq_true rfl) (Nat.le_of_ble_eq_true rfl) (lv_sub hl [3, 4, 5, 2, 1, 0] rfl) hH hv3
  refine lv_iload hx hb dX6_sameAhead_67 (lv_at hl 0 rfl) ?_
  exact sj_retI hC hD hH hr rfl hv19 ⟨(Nat.le_of_ble_eq_true rfl), (Nat.le_of_ble_eq_true rfl)⟩ dX6_sameAhead_69
section SJL_X6_sameAhead
variable {p : Program} {l : Launch} {e : Env} {R : Room} {s : State} {m : MethodId} {args : Array Value} {below : List Frame} {meth : Method} {c : Code} {H : Heap} {locs : List Loc} {cells slots : Nat} {Q : State → Prop} {cc : ByteArray} {pc : Nat} {ls : Array Slot} {rest : List Value} {G : sj_G} {nL : Nat} {w : sj_W}
theorem cl_X6_193 {rmM : Room} {QcM : Array Value → State → Outcome → State → Prop} {QX : String → sj_W → Prop} {b : Nat} {b0 : Int32} {b1 : Int32} {Qi : Int32 → sj_W → Prop} (hC : sj_C G p l s m args c cc RX6 nL) (hD : sj_D meth c) (hH : sj_H G s w H locs) (hv : vc_X6_sameAhead b b0 b1 w Qi) (hT : sj_T w b = 5) (hR : rm_X6_sameAhead.frames + 1 ≤ R.frames ∧ 8 + (6 + 11) + rm_X6_sameAhead.locals ≤ R.locals) (hf : cells + 16 ≤ R.cells ∧ slots + 48 ≤ R.slots) (hfM : cells + 16 ≤ rmM.cells ∧ slots + 48 ≤ rmM.slots) (hls : ls.size = nL) (hW : (rest.map fun v => v.category).sum ≤ 8) (hdg : decode cc pc = .ok (.invokevirtual 193, 3)) (kk : ∀ (r : Int32) (w1 : sj_W) (H : Heap) (locs : List Loc), sj_H G s w1 H locs → Qi r w1 → W p l e R s m args below meth c H locs (cells + 16) (slots + 48) (sj_MQ G below QcM QX args s rmM) (F0 m (pc + 3) ls (.int r :: rest))) : W p l e R s m args below meth c H locs cells slots (sj_MQ G below QcM QX args s rmM) (F0 m pc ls (.int b1 :: .int b0 :: .ref b :: rest)) :=
  sj_cI hD hH (sj_runV (n := 2) hC hH (As := [.int b0, .int b1]) (wk_X6_sameAhead G l hC.2.2.2.2.2.2 b b0 b1 w Qi QX hv) (ci := 4) rfl (by decide) hT mb_601 mb_603 mb_s20 mb_1 mb_604 (by decide +kernel) hR hf rfl hls hW hdg) hfM kk
end SJL_X6_sameAhead
abbrev rm_X6_share : Room := { frames := 7, cells := 241, slots := 726, locals := 102 }
def vb_X6_share_13 (f0 : Nat) (f2 : Int32) (Q : UInt32 → sj_W → Prop) (QX : String → sj_W → Prop) (E : Int32 → Int32 → sj_W → Prop) (K : Int32 → Int32 → Int32 → sj_W → Prop) (v3 : Int32) (v4 : Int32) (v5 : Int32) (w : sj_W) : Prop := ((12 ≤ v5 → E v3 v4 w) ∧ (¬ 12 ≤ v5 → sj_T w f0 = 5 ∧ sj_A w 33 f0 ≠ 0 ∧ (sj_T w (sj_A w 33 f0) = 10 ∨ sj_T w (sj_A w 33 f0) = 11 ∨ sj_T w (sj_A w 33 f0) = 12) ∧ vp_in v5 (sj_N w (sj_A w 33 f0)) ∧ (sj_r w (sj_A w 33 f0) v5.toNatClampNeg) ≠ 0 ∧ sj_T w f0 = 5 ∧ vc_X6_isFitting f0 f2 (sj_r w (sj_A w 33 f0) v5.toNatClampNeg) w (fun r6 w7 => ((r6 = 0 → K v3 v4 (v5 + 1) w7) ∧ (¬ r6 = 0 → sj_T w7 f0 = 5 ∧ vc_X6_fittingAhead f0 f2 v5 w7 (fun r11 w12 => sj_T w12 f0 = 5 ∧ vc_X6_sameAhead f0 f2 v5 w12 (fun r14 w15 => K (v3 + r11) (v4 + r14) (v5 + 1) w15)))))))
def vc_X6_share (self : Nat) (a1 : Int32) (w : sj_W) (Q : UInt32 → sj_W → Prop) (QX : String → sj_W → Prop) : Prop := vc_X6_kindOf a1 w (fun r1 w2 => sj_lp3 (vb_X6_share_13 self r1 Q QX (fun z3_13 z4_13 w_13 => ((¬ z3_13 = 0 → vf_n32 (FP.fdiv (FP.i2f z4_13) (FP.i2f z3_13)) ∧ Q (FP.fdiv (FP.i2f z4_13) (FP.i2f z3_13)) w_13) ∧ (z3_13 = 0 → QX "java/lang/IllegalStateException" w_13)))) 14 0 0 0 w2) QX
set_option maxHeartbeats 4000000 in
set_option maxRecDepth 100000 in
theorem wl_X6_share_13 {p : Program} {l : Launch} {e : Env} {s : State} {m : MethodId} {args : Array Value} {below : List Frame} {meth : Method} {c : Code} {G : sj_G} {f0 : Nat} {f2 : Int32} {Q : UInt32 → sj_W → Prop} {QX : String → sj_W → Prop} {E : Int32 → Int32 → sj_W → Prop} (hC : sj_C G p l s m args c cX6_share RX6 6) (hD : sj_D meth c) (hr : meth.sig.returnType = (some .float)) (hin : meth.name = "share") (hE : ∀ (v3 : Int32) (v4 : Int32) (w : sj_W) (H : Heap) (locs : List Loc) (ls : Array Slot), lv_has ls 6 [(3, .int v3), (4, .int v4)] → sj_H G s w H locs → E v3 v4 w → W p l e rm_X6_share s m args below meth c H locs 225 678 (sj_MQ G below (va_Qf Q (sj_B G) (sj_F G)) QX args s rm_X6_share) (F0 m 63 ls [])) : ∀ (n : Nat) (v3 : Int32) (v4 : Int32) (v5 : Int32) (w : sj_W) (H : Heap) (locs : List Loc) (ls : Array Slot) (cells slots : Nat), cells + n * 16 ≤ 225 → slots + n * 48 ≤ 678 → lv_has ls 6 [(0, .ref f0), (2, .int f2), (3, .int v3), (4, .int v4), (5, .int v5)] → sj_H G s w H locs → sj_lp3 (vb_X6_share_13 f0 f2 Q QX E) n v3 v4 v5 w → W p l e rm_X6_share s m args below meth c H locs cells slots (sj_MQ G below (va_Qf Q (sj_B G) (sj_F G)) QX args s rm_X6_share) (F0 m 13 ls []) := by
  have hx := hC.1
  have hb := hC.2.1
  intro n
  induction n with
  | zero =>
    intro v3 v4 v5 w H locs ls cells slots _ _ _ _ hv
    exact hv.elim
  | succ n ih =>
    intro v3 v4 v5 w H locs ls cells slots hcc hcs hl hH hv
    have hv : vb_X6_share_13 f0 f2 Q QX E (sj_lp3 (vb_X6_share_13 f0 f2 Q QX E) n) v3 v4 v5 w := hv
    have hc1 : rm_X6_share.cells = 241 := rfl
    have hc2 : rm_X6_share.slots = 726 := rfl
    refine lv_iload hx hb dX6_share_13 (lv_at hl 4 rfl) ?_
    refine lv_bipush (v := 12) hx hb dX6_share_15 (by decide) ?_
    refine lv_icmp_ge (tgt := 63) hx hb dX6_share_17 (by decide) (fun hc => ?_) (fun hc => ?_)
    · have hv4 := hv.1 hc
      refine W.widen (k := 225) (n := 678) (by omega) (by omega) ?_
      exact hE v3 v4 w _ _ _ (lv_sub hl [2, 3] rfl) hH hv4
    · have hv5 := hv.2 hc
      refine lv_aload_n hx hb dX6_share_20 rfl (lv_at hl 0 rfl) ?_
      refine lv_iload_n hx hb dX6_share_21 rfl (lv_at hl 1 rfl) ?_
      refine lv_aload_n hx hb dX6_share_22 rfl (lv_at hl 0 rfl) ?_
      refine gf_X6_17 hC hH hv5.1 hv5.2.1 dX6_share_23 ?_
      refine lv_iload hx hb dX6_share_26 (lv_at hl 4 rfl) ?_
      refine sj_aald hC hH hv5.2.2.1 hv5.2.2.2.1 hv5.2.2.2.2.1 dX6_share_28 ?_
      refine cl_X6_108 hC hD hH hv5.2.2.2.2.2.2 hv5.2.2.2.2.2.1 ⟨Nat.le_of_ble_eq_true rfl, Nat.le_of_ble_eq_true rfl⟩ ⟨(by have hc1 : rm_X6_share.cells = 241 := rfl; omega), (by have hc1 : rm_X6_share.slots = 726 := rfl; omega)⟩ ⟨(by have hc1 : rm_X6_share.cells = 241 := rfl; omega), (by have hc1 : rm_X6_share.slots = 726 := rfl; omega)⟩ hl.1 (Nat.le_of_ble_eq_true rfl) dX6_share_29 (fun r6 w7 H locs hH hv8 => ?_)
      refine lv_if_eq (tgt := 57) hx hb dX6_share_32 (by decide) (fun hc => ?_) (fun hc => ?_)
      · have hv9 := hv8.1 hc
        refine lv_iinc (v := (v5 + 1)) (lv' := [(5, .int (v5 + 1)), (0, .ref f0), (2, .int f2), (3, .int v3), (4, .int v4)]) hx hb dX6_share_57 hl (k := 4) rfl rfl (by decide) rfl (fun ls hl => ?_)
        refine lv_goto (tgt := 13) hx hb dX6_share_60 (by decide) ?_
        refine W.widen (k := cells + 16) (n := slots + 48) (by omega) (by omega) ?_
        exact ih v3 v4 (v5 + 1) w7 _ _ _ _ _ (by omega) (by omega) (lv_sub hl [1, 2, 3, 4, 0] rfl) hH hv9
      · have hv10 := hv8.2 hc
        refine lv_iload_n hx hb dX6_share_35 rfl (lv_at hl 2 rfl) ?_
        refine lv_aload_n hx hb dX6_share_36 rfl (lv_at hl 0 rfl) ?_
        refine lv_iload_n hx hb dX6_share_37 rfl (lv_at hl 1 rfl) ?_
        refine lv_iload hx hb dX6_share_38 (lv_at hl 4 rfl) ?_
        refine cl_X6_189 hC hD hH hv10.2 hv10.1 ⟨Nat.le_of_ble_eq_true rfl, Nat.le_of_ble_eq_true rfl⟩ ⟨(by have hc1 : rm_X6_share.cells = 241 := rfl; omega), (by have hc1 : rm_X6_share.slots = 726 := rfl; omega)⟩ ⟨(by have hc1 : rm_X6_share.cells = 241 := rfl; omega), (by have hc1 : rm_X6_share.slots = 726 := rfl; omega)⟩ hl.1 (Nat.le_of_ble_eq_true rfl) dX6_share_40 (fun r11 w12 H locs hH hv13 => ?_)
        refine lv_iadd hx hb dX6_share_43 ?_
        refine lv_istore_n (lv' := [(3, .int (v3 + r11)), (0, .ref f0), (2, .int f2), (4, .int v4), (5, .int v5)]) hx hb dX6_share_44 rfl hl (by decide) rfl (fun ls hl => ?_)
        refine lv_iload hx hb dX6_share_45 (lv_at hl 3 rfl) ?_
        refine lv_aload_n hx hb dX6_share_47 rfl (lv_at hl 1 rfl) ?_
        refine lv_iload_n hx hb dX6_share_48 rfl (lv_at hl 2 rfl) ?_
        refine lv_iload hx hb dX6_share_49 (lv_at hl 4 rfl) ?_
        refine cl_X6_193 hC hD hH hv13.2 hv13.1 ⟨Nat.le_of_ble_eq_true rfl, Nat.le_of_ble_eq_true rfl⟩ ⟨(by have hc1 : rm_X6_share.cells = 241 := rfl; omega), (by have hc1 : rm_X6_share.slots = 726 := rfl; omega)⟩ ⟨(by have hc1 : rm_X6_share.cells = 241 := rfl; omega), (by have hc1 : rm_X6_share.slots = 726 := rfl; omega)⟩ hl.1 (Nat.le_of_ble_eq_true rfl) dX6_share_51 (fun r14 w15 H locs hH hv16 => ?_)
        refine lv_iadd hx hb dX6_share_54 ?_
        refine lv_istore (lv' := [(4, .int (v4 + r14)), (3, .int (v3 + r11)), (0, .ref f0), (2, .int f2), (5, .int v5)]) hx hb dX6_share_55 hl (by decide) rfl (fun ls hl => ?_)
        refine lv_iinc (v := (v5 + 1)) (lv' := [(5, .int (v5 + 1)), (4, .int (v4 + r14)), (3, .int (v3 + r11)), (0, .ref f0), (2, .int f2)]) hx hb dX6_share_57 hl (k := 4) rfl rfl (by decide) rfl (fun ls hl => ?_)
        refine lv_goto (tgt := 13) hx hb dX6_share_60 (by decide) ?_
        refine W.widen (k := cells + 16) (n := slots + 48) (by omega) (by omega) ?_
        exact ih (v3 + r11) (v4 + r14) (v5 + 1) w15 _ _ _ _ _ (by omega) (by omega) (lv_sub hl [3, 4, 2, 1, 0] rfl) hH hv16
set_option maxHeartbeats 4000000 in
set_option maxRecDepth 100000 in
theorem wk_X6_share (G : sj_G) (l : Launch) (hlt : l.stackTraces = false) (self : Nat) (a1 : Int32) (w : sj_W) (Q : UInt32 → sj_W → Prop) (QX : String → sj_W → Prop) (hv : vc_X6_share self a1 w Q QX) : sj_MF G l yX6_share (sj_ws yX6_share cX6_share 6 (some .float)) rm_X6_share [.ref self, .int a1] w Q QX := by
  refine sj_of (by decide +kernel) (Nat.le_of_ble_eq_true rfl) hlt ?_
  intro p e s m args below meth c ls hC hD hr hin hH hl
  have hx := hC.1
  have hb := hC.2.1
  have hl : lv_has ls 6 [(0, .ref self), (1, .int a1)] := hl
  refine lv_iload_n hx hb dX6_share_0 rfl (lv_at hl 1 rfl) ?_
  refine cl_X6_34 hC hD hH hv ⟨Nat.le_of_ble_eq_true rfl, Nat.le_of_ble_eq_true rfl⟩ ⟨(Nat.le_of_ble_eq_true rfl), (Nat.le_of_ble_eq_true rfl)⟩ ⟨(Nat.le_of_ble_eq_true rfl), (Nat.le_of_ble_eq_true rfl)⟩ hl.1 (Nat.le_of_ble_eq_true rfl) dX6_share_1 (fun r1 w2 H locs hH hv3 => ?_)
  refine lv_istore_n (lv' := [(2, .int r1), (0, .ref self), (1, .int a1)]) hx hb dX6_share_4 rfl hl (by decide) rfl (fun ls hl => ?_)
  refine lv_iconst (v := 0) hx hb dX6_share_5 (by decide) ?_
  refine lv_istore_n (lv' := [(3, .int 0), (2, .int r1), (0, .ref self), (1, .int a1)]) hx hb dX6_share_6 rfl hl (by decide) rfl (fun ls hl => ?_)
  refine lv_iconst (v := 0) hx hb dX6_share_7 (by decide) ?_
  refine lv_istore (lv' := [(4, .int 0), (3, .int 0), (2, .int r1), (0, .ref self), (1, .int a1)]) hx hb dX6_share_8 hl (by decide) rfl (fun ls hl => ?_)
  refine lv_iconst (v := 0) hx hb dX6_share_10 (by decide) ?_
  refine lv_istore (lv' := [(5, .int 0), (4, .int 0), (3, .int 0), (2, .int r1), (0, .ref self), (1, .int a1)]) hx hb dX6_share_11 hl (by decide) rfl (fun ls hl => ?_)
  refine wl_X6_share_13 hC hD hr hin (fun z3_13 z4_13 w_13 H locs ls hl hH hv17 => ?_) 14 0 0 0 w2 _ _ _ 1 6 (Nat.le_of_ble_eq_true rfl) (Nat.le_of_ble_eq_true rfl) (lv_sub hl [4, 3, 2, 1, 0] rfl) hH hv3
  refine lv_iload_n hx hb dX6_share_63 rfl (lv_at hl 0 rfl) ?_
  refine lv_if_ne (tgt := 77) hx hb dX6_share_64 (by decide) (fun hc => ?_) (fun hc => ?_)
  · have hv18 := hv17.1 hc
    refine lv_iload hx hb dX6_share_77 (lv_at hl 1 rfl) ?_
    refine lv_i2f hx hb dX6_share_79 ?_
    refine lv_iload_n hx hb dX6_share_80 rfl (lv_at hl 0 rfl) ?_
    refine lv_i2f hx hb dX6_share_81 ?_
    refine lv_fdiv hx hb dX6_share_82 hv18.1 ?_
    exact sj_retF hC hD hH hr hv18.2 ⟨(Nat.le_of_ble_eq_true rfl), (Nat.le_of_ble_eq_true rfl)⟩ dX6_share_83
  · have hv19 := hv17.2 hc
    exact th_X6_196_54 hC hD hH hl.1 dX6_share_67 dX6_share_70 dX6_share_71 dX6_share_73 dX6_share_76 ⟨Nat.le_of_ble_eq_true rfl, Nat.le_of_ble_eq_true rfl⟩ ⟨(Nat.le_of_ble_eq_true rfl), (Nat.le_of_ble_eq_true rfl)⟩ ⟨(Nat.le_of_ble_eq_true rfl), (Nat.le_of_ble_eq_true rfl)⟩ hv19

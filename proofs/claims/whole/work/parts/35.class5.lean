abbrev rm_X0_countWays : Room := { frames := 3, cells := 0, slots := 0, locals := 79 }
def vb_X0_countWays_24 (f0 : Nat) (f1 : Int32) (Q : Int32 → sj_W → Prop) (E : sj_W → Prop) (K : Int32 → sj_W → Prop) (v2 : Int32) (w : sj_W) : Prop := sj_T w f0 = 1 ∧ (((sj_I w 6 f0) < v2 → E w) ∧ (¬ (sj_I w 6 f0) < v2 → sj_T w f0 = 1 ∧ sj_A w 1 f0 ≠ 0 ∧ sj_T w (sj_A w 1 f0) = 13 ∧ vp_in f1 (sj_N w (sj_A w 1 f0)) ∧ (sj_r w (sj_A w 1 f0) f1.toNatClampNeg) ≠ 0 ∧ sj_T w f0 = 1 ∧ vc_X0_isLyndon f0 f1 v2 w (fun r6 w7 => ((r6 = 0 → sj_T w7 (sj_r w (sj_A w 1 f0) f1.toNatClampNeg) = 7 ∧ vp_in v2 (sj_N w7 (sj_r w (sj_A w 1 f0) f1.toNatClampNeg)) ∧ ∀ w10 : sj_W, w10 = sj_si w7 (sj_r w (sj_A w 1 f0) f1.toNatClampNeg) v2.toNatClampNeg 0 → K (v2 + 1) w10) ∧ (¬ r6 = 0 → sj_T w7 f0 = 1 ∧ vc_X0_waysBehind f0 f1 v2 w7 (fun r13 w14 => sj_T w14 (sj_r w (sj_A w 1 f0) f1.toNatClampNeg) = 7 ∧ vp_in v2 (sj_N w14 (sj_r w (sj_A w 1 f0) f1.toNatClampNeg)) ∧ ∀ w16 : sj_W, w16 = sj_si w14 (sj_r w (sj_A w 1 f0) f1.toNatClampNeg) v2.toNatClampNeg r13 → K (v2 + 1) w16))))))
def vb_X0_countWays_16 (f0 : Nat) (Q : Int32 → sj_W → Prop) (E : sj_W → Prop) (K : Int32 → sj_W → Prop) (v1 : Int32) (w : sj_W) : Prop := ((v1 < 0 → E w) ∧ (¬ v1 < 0 → sj_lp1 (vb_X0_countWays_24 f0 v1 Q (fun w_24 => K (v1 + (-1)) w_24)) 64 (v1 + 1) w))
def vb_X0_countWays_75 (f0 : Nat) (Q : Int32 → sj_W → Prop) (E : Int32 → sj_W → Prop) (K : Int32 → Int32 → sj_W → Prop) (v1 : Int32) (v2 : Int32) (w : sj_W) : Prop := sj_T w f0 = 1 ∧ (((sj_I w 6 f0) < v2 → E v1 w) ∧ (¬ (sj_I w 6 f0) < v2 → sj_T w f0 = 1 ∧ sj_A w 1 f0 ≠ 0 ∧ sj_T w (sj_A w 1 f0) = 13 ∧ vp_in 0 (sj_N w (sj_A w 1 f0)) ∧ (sj_r w (sj_A w 1 f0) (0 : Int32).toNatClampNeg) ≠ 0 ∧ sj_T w (sj_r w (sj_A w 1 f0) (0 : Int32).toNatClampNeg) = 7 ∧ vp_in v2 (sj_N w (sj_r w (sj_A w 1 f0) (0 : Int32).toNatClampNeg)) ∧ K (v1 + (sj_i w (sj_r w (sj_A w 1 f0) (0 : Int32).toNatClampNeg) v2.toNatClampNeg)) (v2 + 1) w))
def vc_X0_countWays (self : Nat) (w : sj_W) (Q : Int32 → sj_W → Prop) : Prop := sj_T w self = 1 ∧ ((¬ (sj_I w 6 self) = 0 → sj_T w self = 1 ∧ sj_lp1 (vb_X0_countWays_16 self Q (fun w_16 => sj_lp2 (vb_X0_countWays_75 self Q (fun z1_75 w_75 => Q z1_75 w_75)) 64 0 1 w_16)) 64 ((sj_I w 6 self) - 1) w) ∧ ((sj_I w 6 self) = 0 → Q 1 w))
set_option maxHeartbeats 4000000 in
set_option maxRecDepth 100000 in
theorem wl_X0_countWays_24 {p : Program} {l : Launch} {e : Env} {s : State} {m : MethodId} {args : Array Value} {below : List Frame} {meth : Method} {c : Code} {G : sj_G} {f0 : Nat} {f1 : Int32} {Q : Int32 → sj_W → Prop} {QX : String → sj_W → Prop} {E : sj_W → Prop} (hC : sj_C G p l s m args c cX0_countWays RX0 3) (hD : sj_D meth c) (hr : meth.sig.returnType = (some .int)) (hin : meth.name = "countWays") (hE : ∀ (w : sj_W) (H : Heap) (locs : List Loc) (ls : Array Slot), lv_has ls 3 [(0, .ref f0), (1, .int f1)] → sj_H G s w H locs → E w → W p l e rm_X0_countWays s m args below meth c H locs 0 0 (sj_MQ G below (va_Qi Q (sj_B G) (sj_F G)) QX args s rm_X0_countWays) (F0 m 65 ls [])) : ∀ (n : Nat) (v2 : Int32) (w : sj_W) (H : Heap) (locs : List Loc) (ls : Array Slot), lv_has ls 3 [(0, .ref f0), (1, .int f1), (2, .int v2)] → sj_H G s w H locs → sj_lp1 (vb_X0_countWays_24 f0 f1 Q E) n v2 w → W p l e rm_X0_countWays s m args below meth c H locs 0 0 (sj_MQ G below (va_Qi Q (sj_B G) (sj_F G)) QX args s rm_X0_countWays) (F0 m 24 ls []) := by
  have hx := hC.1
  have hb := hC.2.1
  intro n
  induction n with
  | zero =>
    intro v2 w H locs ls _ _ hv
    exact hv.elim
  | succ n ih =>
    intro v2 w H locs ls hl hH hv
    have hv : vb_X0_countWays_24 f0 f1 Q E (sj_lp1 (vb_X0_countWays_24 f0 f1 Q E) n) v2 w := hv
    have hc1 : rm_X0_countWays.cells = 0 := rfl
    have hc2 : rm_X0_countWays.slots = 0 := rfl
    refine lv_iload_n hx hb dX0_countWays_24 rfl (lv_at hl 2 rfl) ?_
    refine lv_aload_n hx hb dX0_countWays_25 rfl (lv_at hl 0 rfl) ?_
    refine gf_X0_37 hC hH hv.1 dX0_countWays_26 ?_
    refine lv_icmp_gt (tgt := 65) hx hb dX0_countWays_29 (by decide) (fun hc => ?_) (fun hc => ?_)
    · have hv4 := hv.2.1 hc
      exact hE  w _ _ _ (lv_sub hl [0, 1] rfl) hH hv4
    · have hv5 := hv.2.2 hc
      refine lv_aload_n hx hb dX0_countWays_32 rfl (lv_at hl 0 rfl) ?_
      refine gf_X0_16 hC hH hv5.1 hv5.2.1 dX0_countWays_33 ?_
      refine lv_iload_n hx hb dX0_countWays_36 rfl (lv_at hl 1 rfl) ?_
      refine sj_aaldI hC hH hv5.2.2.1 hv5.2.2.2.1 hv5.2.2.2.2.1 dX0_countWays_37 ?_
      refine lv_iload_n hx hb dX0_countWays_38 rfl (lv_at hl 2 rfl) ?_
      refine lv_aload_n hx hb dX0_countWays_39 rfl (lv_at hl 0 rfl) ?_
      refine lv_iload_n hx hb dX0_countWays_40 rfl (lv_at hl 1 rfl) ?_
      refine lv_iload_n hx hb dX0_countWays_41 rfl (lv_at hl 2 rfl) ?_
      refine cl_X0_63 hC hD hH hv5.2.2.2.2.2.2 hv5.2.2.2.2.2.1 ⟨Nat.le_of_ble_eq_true rfl, Nat.le_of_ble_eq_true rfl⟩ ⟨(Nat.le_of_ble_eq_true rfl), (Nat.le_of_ble_eq_true rfl)⟩ ⟨(Nat.le_of_ble_eq_true rfl), (Nat.le_of_ble_eq_true rfl)⟩ hl.1 (Nat.le_of_ble_eq_true rfl) dX0_countWays_42 (fun r6 w7 H locs hH hv8 => ?_)
      refine lv_if_eq (tgt := 57) hx hb dX0_countWays_45 (by decide) (fun hc => ?_) (fun hc => ?_)
      · have hv9 := hv8.1 hc
        refine lv_iconst (v := 0) hx hb dX0_countWays_57 (by decide) ?_
        refine sj_iast hC hH hv9.1 hv9.2.1 dX0_countWays_58 (fun w10 H locs e11 hH => ?_)
        refine lv_iinc (v := (v2 + 1)) (lv' := [(2, .int (v2 + 1)), (0, .ref f0), (1, .int f1)]) hx hb dX0_countWays_59 hl (k := 2) rfl rfl (by decide) rfl (fun ls hl => ?_)
        refine lv_goto (tgt := 24) hx hb dX0_countWays_62 (by decide) ?_
        exact ih (v2 + 1) w10 _ _ _ (lv_sub hl [1, 2, 0] rfl) hH (hv9.2.2 w10 e11)
      · have hv12 := hv8.2 hc
        refine lv_aload_n hx hb dX0_countWays_48 rfl (lv_at hl 0 rfl) ?_
        refine lv_iload_n hx hb dX0_countWays_49 rfl (lv_at hl 1 rfl) ?_
        refine lv_iload_n hx hb dX0_countWays_50 rfl (lv_at hl 2 rfl) ?_
        refine cl_X0_67 hC hD hH hv12.2 hv12.1 ⟨Nat.le_of_ble_eq_true rfl, Nat.le_of_ble_eq_true rfl⟩ ⟨(Nat.le_of_ble_eq_true rfl), (Nat.le_of_ble_eq_true rfl)⟩ ⟨(Nat.le_of_ble_eq_true rfl), (Nat.le_of_ble_eq_true rfl)⟩ hl.1 (Nat.le_of_ble_eq_true rfl) dX0_countWays_51 (fun r13 w14 H locs hH hv15 => ?_)
        refine lv_goto (tgt := 58) hx hb dX0_countWays_54 (by decide) ?_
        refine sj_iast hC hH hv15.1 hv15.2.1 dX0_countWays_58 (fun w16 H locs e17 hH => ?_)
        refine lv_iinc (v := (v2 + 1)) (lv' := [(2, .int (v2 + 1)), (0, .ref f0), (1, .int f1)]) hx hb dX0_countWays_59 hl (k := 2) rfl rfl (by decide) rfl (fun ls hl => ?_)
        refine lv_goto (tgt := 24) hx hb dX0_countWays_62 (by decide) ?_
        exact ih (v2 + 1) w16 _ _ _ (lv_sub hl [1, 2, 0] rfl) hH (hv15.2.2 w16 e17)
set_option maxHeartbeats 4000000 in
set_option maxRecDepth 100000 in
theorem wl_X0_countWays_16 {p : Program} {l : Launch} {e : Env} {s : State} {m : MethodId} {args : Array Value} {below : List Frame} {meth : Method} {c : Code} {G : sj_G} {f0 : Nat} {Q : Int32 → sj_W → Prop} {QX : String → sj_W → Prop} {E : sj_W → Prop} (hC : sj_C G p l s m args c cX0_countWays RX0 3) (hD : sj_D meth c) (hr : meth.sig.returnType = (some .int)) (hin : meth.name = "countWays") (hE : ∀ (w : sj_W) (H : Heap) (locs : List Loc) (ls : Array Slot), lv_has ls 3 [(0, .ref f0)] → sj_H G s w H locs → E w → W p l e rm_X0_countWays s m args below meth c H locs 0 0 (sj_MQ G below (va_Qi Q (sj_B G) (sj_F G)) QX args s rm_X0_countWays) (F0 m 71 ls [])) : ∀ (n : Nat) (v1 : Int32) (w : sj_W) (H : Heap) (locs : List Loc) (ls : Array Slot), lv_has ls 3 [(0, .ref f0), (1, .int v1)] → sj_H G s w H locs → sj_lp1 (vb_X0_countWays_16 f0 Q E) n v1 w → W p l e rm_X0_countWays s m args below meth c H locs 0 0 (sj_MQ G below (va_Qi Q (sj_B G) (sj_F G)) QX args s rm_X0_countWays) (F0 m 16 ls []) := by
  have hx := hC.1
  have hb := hC.2.1
  intro n
  induction n with
  | zero =>
    intro v1 w H locs ls _ _ hv
    exact hv.elim
  | succ n ih =>
    intro v1 w H locs ls hl hH hv
    have hv : vb_X0_countWays_16 f0 Q E (sj_lp1 (vb_X0_countWays_16 f0 Q E) n) v1 w := hv
    have hc1 : rm_X0_countWays.cells = 0 := rfl
    have hc2 : rm_X0_countWays.slots = 0 := rfl
    refine lv_iload_n hx hb dX0_countWays_16 rfl (lv_at hl 1 rfl) ?_
    refine lv_if_lt (tgt := 71) hx hb dX0_countWays_17 (by decide) (fun hc => ?_) (fun hc => ?_)
    · have hv2 := hv.1 hc
      exact hE  w _ _ _ (lv_sub hl [0] rfl) hH hv2
    · have hv3 := hv.2 hc
      refine lv_iload_n hx hb dX0_countWays_20 rfl (lv_at hl 1 rfl) ?_
      refine lv_iconst (v := 1) hx hb dX0_countWays_21 (by decide) ?_
      refine lv_iadd hx hb dX0_countWays_22 ?_
      refine lv_istore_n (lv' := [(2, .int (v1 + 1)), (0, .ref f0), (1, .int v1)]) hx hb dX0_countWays_23 rfl hl (by decide) rfl (fun ls hl => ?_)
      refine wl_X0_countWays_24 hC hD hr hin (fun w_24 H locs ls hl hH hv18 => ?_) 64 (v1 + 1) w _ _ _ (lv_sub hl [1, 2, 0] rfl) hH hv3
      refine lv_iinc (v := (v1 + (-1))) (lv' := [(1, .int (v1 + (-1))), (0, .ref f0)]) hx hb dX0_countWays_65 hl (k := 1) rfl rfl (by decide) rfl (fun ls hl => ?_)
      refine lv_goto (tgt := 16) hx hb dX0_countWays_68 (by decide) ?_
      exact ih (v1 + (-1)) w_24 _ _ _ (lv_sub hl [1, 0] rfl) hH hv18
set_option maxHeartbeats 4000000 in
set_option maxRecDepth 100000 in
theorem wl_X0_countWays_75 {p : Program} {l : Launch} {e : Env} {s : State} {m : MethodId} {args : Array Value} {below : List Frame} {meth : Method} {c : Code} {G : sj_G} {f0 : Nat} {Q : Int32 → sj_W → Prop} {QX : String → sj_W → Prop} {E : Int32 → sj_W → Prop} (hC : sj_C G p l s m args c cX0_countWays RX0 3) (hD : sj_D meth c) (hr : meth.sig.returnType = (some .int)) (hin : meth.name = "countWays") (hE : ∀ (v1 : Int32) (w : sj_W) (H : Heap) (locs : List Loc) (ls : Array Slot), lv_has ls 3 [(1, .int v1)] → sj_H G s w H locs → E v1 w → W p l e rm_X0_countWays s m args below meth c H locs 0 0 (sj_MQ G below (va_Qi Q (sj_B G) (sj_F G)) QX args s rm_X0_countWays) (F0 m 100 ls [])) : ∀ (n : Nat) (v1 : Int32) (v2 : Int32) (w : sj_W) (H : Heap) (locs : List Loc) (ls : Array Slot), lv_has ls 3 [(0, .ref f0), (1, .int v1), (2, .int v2)] → sj_H G s w H locs → sj_lp2 (vb_X0_countWays_75 f0 Q E) n v1 v2 w → W p l e rm_X0_countWays s m args below meth c H locs 0 0 (sj_MQ G below (va_Qi Q (sj_B G) (sj_F G)) QX args s rm_X0_countWays) (F0 m 75 ls []) := by
  have hx := hC.1
  have hb := hC.2.1
  intro n
  induction n with
  | zero =>
    intro v1 v2 w H locs ls _ _ hv
    exact hv.elim
  | succ n ih =>
    intro v1 v2 w H locs ls hl hH hv
    have hv : vb_X0_countWays_75 f0 Q E (sj_lp2 (vb_X0_countWays_75 f0 Q E) n) v1 v2 w := hv
    have hc1 : rm_X0_countWays.cells = 0 := rfl
    have hc2 : rm_X0_countWays.slots = 0 := rfl
    refine lv_iload_n hx hb dX0_countWays_75 rfl (lv_at hl 2 rfl) ?_
    refine lv_aload_n hx hb dX0_countWays_76 rfl (lv_at hl 0 rfl) ?_
    refine gf_X0_37 hC hH hv.1 dX0_countWays_77 ?_
    refine lv_icmp_gt (tgt := 100) hx hb dX0_countWays_80 (by decide) (fun hc => ?_) (fun hc => ?_)
    · have hv20 := hv.2.1 hc
      exact hE v1 w _ _ _ (lv_sub hl [1] rfl) hH hv20
    · have hv21 := hv.2.2 hc
      refine lv_iload_n hx hb dX0_countWays_83 rfl (lv_at hl 1 rfl) ?_
      refine lv_aload_n hx hb dX0_countWays_84 rfl (lv_at hl 0 rfl) ?_
      refine gf_X0_16 hC hH hv21.1 hv21.2.1 dX0_countWays_85 ?_
      refine lv_iconst (v := 0) hx hb dX0_countWays_88 (by decide) ?_
      refine sj_aaldI hC hH hv21.2.2.1 hv21.2.2.2.1 hv21.2.2.2.2.1 dX0_countWays_89 ?_
      refine lv_iload_n hx hb dX0_countWays_90 rfl (lv_at hl 2 rfl) ?_
      refine sj_iald hC hH hv21.2.2.2.2.2.1 hv21.2.2.2.2.2.2.1 dX0_countWays_91 ?_
      refine lv_iadd hx hb dX0_countWays_92 ?_
      refine lv_istore_n (lv' := [(1, .int (v1 + (sj_i w (sj_r w (sj_A w 1 f0) (0 : Int32).toNatClampNeg) v2.toNatClampNeg))), (0, .ref f0), (2, .int v2)]) hx hb dX0_countWays_93 rfl hl (by decide) rfl (fun ls hl => ?_)
      refine lv_iinc (v := (v2 + 1)) (lv' := [(2, .int (v2 + 1)), (1, .int (v1 + (sj_i w (sj_r w (sj_A w 1 f0) (0 : Int32).toNatClampNeg) v2.toNatClampNeg))), (0, .ref f0)]) hx hb dX0_countWays_94 hl (k := 2) rfl rfl (by decide) rfl (fun ls hl => ?_)
      refine lv_goto (tgt := 75) hx hb dX0_countWays_97 (by decide) ?_
      exact ih (v1 + (sj_i w (sj_r w (sj_A w 1 f0) (0 : Int32).toNatClampNeg) v2.toNatClampNeg)) (v2 + 1) w _ _ _ (lv_sub hl [2, 1, 0] rfl) hH hv21.2.2.2.2.2.2.2
set_option maxHeartbeats 4000000 in
set_option maxRecDepth 100000 in
theorem wk_X0_countWays (G : sj_G) (l : Launch) (hlt : l.stackTraces = false) (self : Nat) (w : sj_W) (Q : Int32 → sj_W → Prop) (QX : String → sj_W → Prop) (hv : vc_X0_countWays self w Q) : sj_MI G l yX0_countWays (sj_ws yX0_countWays cX0_countWays 3 (some .int)) rm_X0_countWays [.ref self] w Q QX := by
  refine sj_of (by decide +kernel) (Nat.le_of_ble_eq_true rfl) hlt ?_
  intro p e s m args below meth c ls hC hD hr hin hH hl
  have hx := hC.1
  have hb := hC.2.1
  have hl : lv_has ls 3 [(0, .ref self)] := hl
  refine lv_aload_n hx hb dX0_countWays_0 rfl (lv_at hl 0 rfl) ?_
  refine gf_X0_37 hC hH hv.1 dX0_countWays_1 ?_
  refine lv_if_ne (tgt := 9) hx hb dX0_countWays_4 (by decide) (fun hc => ?_) (fun hc => ?_)
  · have hv1 := hv.2.1 hc
    refine lv_aload_n hx hb dX0_countWays_9 rfl (lv_at hl 0 rfl) ?_
    refine gf_X0_37 hC hH hv1.1 dX0_countWays_10 ?_
    refine lv_iconst (v := 1) hx hb dX0_countWays_13 (by decide) ?_
    refine lv_isub hx hb dX0_countWays_14 ?_
    refine lv_istore_n (lv' := [(1, .int ((sj_I w 6 self) - 1)), (0, .ref self)]) hx hb dX0_countWays_15 rfl hl (by decide) rfl (fun ls hl => ?_)
    refine wl_X0_countWays_16 hC hD hr hin (fun w_16 H locs ls hl hH hv19 => ?_) 64 ((sj_I w 6 self) - 1) w _ _ _ (lv_sub hl [1, 0] rfl) hH hv1.2
    refine lv_iconst (v := 0) hx hb dX0_countWays_71 (by decide) ?_
    refine lv_istore_n (lv' := [(1, .int 0), (0, .ref self)]) hx hb dX0_countWays_72 rfl hl (by decide) rfl (fun ls hl => ?_)
    refine lv_iconst (v := 1) hx hb dX0_countWays_73 (by decide) ?_
    refine lv_istore_n (lv' := [(2, .int 1), (1, .int 0), (0, .ref self)]) hx hb dX0_countWays_74 rfl hl (by decide) rfl (fun ls hl => ?_)
    refine wl_X0_countWays_75 hC hD hr hin (fun z1_75 w_75 H locs ls hl hH hv22 => ?_) 64 0 1 w_16 _ _ _ (lv_sub hl [2, 1, 0] rfl) hH hv19
    refine lv_iload_n hx hb dX0_countWays_100 rfl (lv_at hl 0 rfl) ?_
    exact sj_retI hC hD.2 hH hr rfl hv22 ⟨(Nat.le_of_ble_eq_true rfl), (Nat.le_of_ble_eq_true rfl)⟩ dX0_countWays_101
  · have hv23 := hv.2.2 hc
    refine lv_iconst (v := 1) hx hb dX0_countWays_7 (by decide) ?_
    exact sj_retI hC hD.2 hH hr rfl hv23 ⟨(Nat.le_of_ble_eq_true rfl), (Nat.le_of_ble_eq_true rfl)⟩ dX0_countWays_8
section SJL_X0_countWays
variable {p : Program} {l : Launch} {e : Env} {R : Room} {s : State} {m : MethodId} {args : Array Value} {below : List Frame} {meth : Method} {c : Code} {H : Heap} {locs : List Loc} {cells slots : Nat} {Q : State → Prop} {cc : ByteArray} {pc : Nat} {ls : Array Slot} {rest : List Value} {G : sj_G} {nL : Nat} {w : sj_W}
theorem cl_X2_65 {rmM : Room} {QcM : Array Value → State → Outcome → State → Prop} {QX : String → sj_W → Prop} {b : Nat} {Qi : Int32 → sj_W → Prop} (hC : sj_C G p l s m args c cc RX2 nL) (hD : sj_D meth c) (hH : sj_H G s w H locs) (hv : vc_X0_countWays b w Qi) (hT : sj_T w b = 1) (hR : rm_X0_countWays.frames + 1 ≤ R.frames ∧ 8 + (3 + 11) + rm_X0_countWays.locals ≤ R.locals) (hf : cells + 0 ≤ R.cells ∧ slots + 0 ≤ R.slots) (hfM : cells + 0 ≤ rmM.cells ∧ slots + 0 ≤ rmM.slots) (hls : ls.size = nL) (hW : (rest.map fun v => v.category).sum ≤ 8) (hdg : decode cc pc = .ok (.invokevirtual 65, 3)) (kk : ∀ (r : Int32) (w1 : sj_W) (H : Heap) (locs : List Loc), sj_H G s w1 H locs → Qi r w1 → W p l e R s m args below meth c H locs (cells + 0) (slots + 0) (sj_MQ G below QcM QX args s rmM) (F0 m (pc + 3) ls (.int r :: rest))) : W p l e R s m args below meth c H locs cells slots (sj_MQ G below QcM QX args s rmM) (F0 m pc ls (.ref b :: rest)) :=
  sj_cI hD hH (sj_runVN (n := 0) hC hH (As := []) (wk_X0_countWays G l hC.2.2.2.2.2.2 b w Qi QX hv) (ci := 0) rfl (by decide) hT mb_695 mb_697 mb_s24 mb_2 mb_698 (by decide +kernel) hR hf rfl hls hW hdg) hfM kk
end SJL_X0_countWays
abbrev rm_X2_factorsAreTrue : Room := { frames := 4, cells := 0, slots := 0, locals := 101 }
def vb_X2_factorsAreTrue_9 (f0 : Nat) (f1 : Int32) (Q : Int32 → sj_W → Prop) (E : sj_W → Prop) (K : Int32 → sj_W → Prop) (v2 : Int32) (w : sj_W) : Prop := ((f1 < v2 → E w) ∧ (¬ f1 < v2 → sj_T w f0 = 1 ∧ sj_A w 3 f0 ≠ 0 ∧ sj_T w (sj_A w 3 f0) = 7 ∧ vp_in v2 (sj_N w (sj_A w 3 f0)) ∧ sj_T w f0 = 1 ∧ vc_X0_factorEnd f0 v2 w (fun r3 w4 => sj_T w4 f0 = 1 ∧ vc_X0_isLyndon f0 (sj_i w (sj_A w 3 f0) v2.toNatClampNeg) r3 w4 (fun r6 w7 => ((¬ r6 = 0 → ((f1 ≤ v2 → K (v2 + 1) w7) ∧ (¬ f1 ≤ v2 → sj_T w7 f0 = 1 ∧ vc_X0_factorEnd f0 (v2 + 1) w7 (fun r12 w13 => sj_T w13 f0 = 1 ∧ vc_X0_compareParts f0 (sj_i w (sj_A w 3 f0) v2.toNatClampNeg) r3 r3 r12 w13 (fun r15 w16 => ((0 ≤ r15 → K (v2 + 1) w16) ∧ (¬ 0 ≤ r15 → Q 0 w16))))))) ∧ (r6 = 0 → Q 0 w7))))))
def vc_X2_factorsAreTrue (a1 : Nat) (w : sj_W) (Q : Int32 → sj_W → Prop) : Prop := sj_T w a1 = 1 ∧ sj_lp1 (vb_X2_factorsAreTrue_9 a1 ((sj_I w 4 a1) - 1) Q (fun w_9 => sj_jn1 (fun (E22 : Int32 → sj_W → Prop) => ((((sj_I w 4 a1) - 1) < 0 → E22 1 w_9) ∧ (¬ ((sj_I w 4 a1) - 1) < 0 → sj_T w_9 a1 = 1 ∧ sj_A w_9 3 a1 ≠ 0 ∧ sj_T w_9 (sj_A w_9 3 a1) = 7 ∧ vp_in ((sj_I w 4 a1) - 1) (sj_N w_9 (sj_A w_9 3 a1)) ∧ sj_T w_9 a1 = 1 ∧ sj_A w_9 2 a1 ≠ 0 ∧ sj_T w_9 (sj_A w_9 2 a1) = 7 ∧ vp_in 0 (sj_N w_9 (sj_A w_9 2 a1)) ∧ ((¬ (sj_i w_9 (sj_A w_9 3 a1) ((sj_I w 4 a1) - 1).toNatClampNeg) = (sj_i w_9 (sj_A w_9 2 a1) (0 : Int32).toNatClampNeg) → E22 0 w_9) ∧ ((sj_i w_9 (sj_A w_9 3 a1) ((sj_I w 4 a1) - 1).toNatClampNeg) = (sj_i w_9 (sj_A w_9 2 a1) (0 : Int32).toNatClampNeg) → E22 1 w_9))))) (fun (y0_96 : Int32) (w_96 : sj_W) => ((y0_96 = 0 → Q 0 w_96) ∧ (¬ y0_96 = 0 → sj_T w_96 a1 = 1 ∧ vc_X0_countWays a1 w_96 (fun r34 w35 => ((¬ r34 = 1 → Q 0 w35) ∧ (r34 = 1 → Q 1 w35)))))))) 64 0 w
set_option maxHeartbeats 4000000 in
set_option maxRecDepth 100000 in
theorem wl_X2_factorsAreTrue_9 {p : Program} {l : Launch} {e : Env} {s : State} {m : MethodId} {args : Array Value} {below : List Frame} {meth : Method} {c : Code} {G : sj_G} {f0 : Nat} {f1 : Int32} {Q : Int32 → sj_W → Prop} {QX : String → sj_W → Prop} {E : sj_W → Prop} (hC : sj_C G p l s m args c cX2_factorsAreTrue RX2 5) (hD : sj_D meth c) (hr : meth.sig.returnType = (some .boolean)) (hin : meth.name = "factorsAreTrue") (hE : ∀ (w : sj_W) (H : Heap) (locs : List Loc) (ls : Array Slot), lv_has ls 5 [(0, .ref f0), (1, .int f1)] → sj_H G s w H locs → E w → W p l e rm_X2_factorsAreTrue s m args below meth c H locs 0 0 (sj_MQ G below (va_Qi Q (sj_B G) (sj_F G)) QX args s rm_X2_factorsAreTrue) (F0 m 72 ls [])) : ∀ (n : Nat) (v2 : Int32) (w : sj_W) (H : Heap) (locs : List Loc) (ls : Array Slot), lv_has ls 5 [(0, .ref f0), (1, .int f1), (2, .int v2)] → sj_H G s w H locs → sj_lp1 (vb_X2_factorsAreTrue_9 f0 f1 Q E) n v2 w → W p l e rm_X2_factorsAreTrue s m args below meth c H locs 0 0 (sj_MQ G below (va_Qi Q (sj_B G) (sj_F G)) QX args s rm_X2_factorsAreTrue) (F0 m 9 ls []) := by
  have hx := hC.1
  have hb := hC.2.1
  intro n
  induction n with
  | zero =>
    intro v2 w H locs ls _ _ hv
    exact hv.elim
  | succ n ih =>
    intro v2 w H locs ls hl hH hv
    have hv : vb_X2_factorsAreTrue_9 f0 f1 Q E (sj_lp1 (vb_X2_factorsAreTrue_9 f0 f1 Q E) n) v2 w := hv
    have hc1 : rm_X2_factorsAreTrue.cells = 0 := rfl
    have hc2 : rm_X2_factorsAreTrue.slots = 0 := rfl
    refine lv_iload_n hx hb dX2_factorsAreTrue_9 rfl (lv_at hl 2 rfl) ?_
    refine lv_iload_n hx hb dX2_factorsAreTrue_10 rfl (lv_at hl 1 rfl) ?_
    refine lv_icmp_gt (tgt := 72) hx hb dX2_factorsAreTrue_11 (by decide) (fun hc => ?_) (fun hc => ?_)
    · have hv1 := hv.1 hc
      exact hE  w _ _ _ (lv_sub hl [0, 1] rfl) hH hv1
    · have hv2 := hv.2 hc
      refine lv_aload_n hx hb dX2_factorsAreTrue_14 rfl (lv_at hl 0 rfl) ?_
      refine gf_X2_54 hC hH hv2.1 hv2.2.1 dX2_factorsAreTrue_15 ?_
      refine lv_iload_n hx hb dX2_factorsAreTrue_18 rfl (lv_at hl 2 rfl) ?_
      refine sj_iald hC hH hv2.2.2.1 hv2.2.2.2.1 dX2_factorsAreTrue_19 ?_
      refine lv_istore_n (lv' := [(3, .int (sj_i w (sj_A w 3 f0) v2.toNatClampNeg)), (0, .ref f0), (1, .int f1), (2, .int v2)]) hx hb dX2_factorsAreTrue_20 rfl hl (by decide) rfl (fun ls hl => ?_)
      refine lv_aload_n hx hb dX2_factorsAreTrue_21 rfl (lv_at hl 1 rfl) ?_
      refine lv_iload_n hx hb dX2_factorsAreTrue_22 rfl (lv_at hl 3 rfl) ?_
      refine cl_X2_57 hC hD hH hv2.2.2.2.2.2 hv2.2.2.2.2.1 ⟨Nat.le_of_ble_eq_true rfl, Nat.le_of_ble_eq_true rfl⟩ ⟨(Nat.le_of_ble_eq_true rfl), (Nat.le_of_ble_eq_true rfl)⟩ ⟨(Nat.le_of_ble_eq_true rfl), (Nat.le_of_ble_eq_true rfl)⟩ hl.1 (Nat.le_of_ble_eq_true rfl) dX2_factorsAreTrue_23 (fun r3 w4 H locs hH hv5 => ?_)
      refine lv_istore (lv' := [(4, .int r3), (3, .int (sj_i w (sj_A w 3 f0) v2.toNatClampNeg)), (0, .ref f0), (1, .int f1), (2, .int v2)]) hx hb dX2_factorsAreTrue_26 hl (by decide) rfl (fun ls hl => ?_)
      refine lv_aload_n hx hb dX2_factorsAreTrue_28 rfl (lv_at hl 2 rfl) ?_
      refine lv_iload_n hx hb dX2_factorsAreTrue_29 rfl (lv_at hl 1 rfl) ?_
      refine lv_iload hx hb dX2_factorsAreTrue_30 (lv_at hl 0 rfl) ?_
      refine cl_X2_61 hC hD hH hv5.2 hv5.1 ⟨Nat.le_of_ble_eq_true rfl, Nat.le_of_ble_eq_true rfl⟩ ⟨(Nat.le_of_ble_eq_true rfl), (Nat.le_of_ble_eq_true rfl)⟩ ⟨(Nat.le_of_ble_eq_true rfl), (Nat.le_of_ble_eq_true rfl)⟩ hl.1 (Nat.le_of_ble_eq_true rfl) dX2_factorsAreTrue_32 (fun r6 w7 H locs hH hv8 => ?_)
      refine lv_if_ne (tgt := 40) hx hb dX2_factorsAreTrue_35 (by decide) (fun hc => ?_) (fun hc => ?_)
      · have hv9 := hv8.1 hc
        refine lv_iload_n hx hb dX2_factorsAreTrue_40 rfl (lv_at hl 4 rfl) ?_
        refine lv_iload_n hx hb dX2_factorsAreTrue_41 rfl (lv_at hl 3 rfl) ?_
        refine lv_icmp_ge (tgt := 66) hx hb dX2_factorsAreTrue_42 (by decide) (fun hc => ?_) (fun hc => ?_)
        · have hv10 := hv9.1 hc
          refine lv_iinc (v := (v2 + 1)) (lv' := [(2, .int (v2 + 1)), (4, .int r3), (3, .int (sj_i w (sj_A w 3 f0) v2.toNatClampNeg)), (0, .ref f0), (1, .int f1)]) hx hb dX2_factorsAreTrue_66 hl (k := 4) rfl rfl (by decide) rfl (fun ls hl => ?_)
          refine lv_goto (tgt := 9) hx hb dX2_factorsAreTrue_69 (by decide) ?_
          exact ih (v2 + 1) w7 _ _ _ (lv_sub hl [3, 4, 0] rfl) hH hv10
        · have hv11 := hv9.2 hc
          refine lv_aload_n hx hb dX2_factorsAreTrue_45 rfl (lv_at hl 2 rfl) ?_
          refine lv_iload_n hx hb dX2_factorsAreTrue_46 rfl (lv_at hl 1 rfl) ?_
          refine lv_iload hx hb dX2_factorsAreTrue_47 (lv_at hl 0 rfl) ?_
          refine lv_iload hx hb dX2_factorsAreTrue_49 (lv_at hl 0 rfl) ?_
          refine lv_aload_n hx hb dX2_factorsAreTrue_51 rfl (lv_at hl 2 rfl) ?_
          refine lv_iload_n hx hb dX2_factorsAreTrue_52 rfl (lv_at hl 4 rfl) ?_
          refine lv_iconst (v := 1) hx hb dX2_factorsAreTrue_53 (by decide) ?_
          refine lv_iadd hx hb dX2_factorsAreTrue_54 ?_
          refine cl_X2_57 hC hD hH hv11.2 hv11.1 ⟨Nat.le_of_ble_eq_true rfl, Nat.le_of_ble_eq_true rfl⟩ ⟨(Nat.le_of_ble_eq_true rfl), (Nat.le_of_ble_eq_true rfl)⟩ ⟨(Nat.le_of_ble_eq_true rfl), (Nat.le_of_ble_eq_true rfl)⟩ hl.1 (Nat.le_of_ble_eq_true rfl) dX2_factorsAreTrue_55 (fun r12 w13 H locs hH hv14 => ?_)
          refine cl_X2_28 hC hD hH hv14.2 hv14.1 ⟨Nat.le_of_ble_eq_true rfl, Nat.le_of_ble_eq_true rfl⟩ ⟨(Nat.le_of_ble_eq_true rfl), (Nat.le_of_ble_eq_true rfl)⟩ ⟨(Nat.le_of_ble_eq_true rfl), (Nat.le_of_ble_eq_true rfl)⟩ hl.1 (Nat.le_of_ble_eq_true rfl) dX2_factorsAreTrue_58 (fun r15 w16 H locs hH hv17 => ?_)
          refine lv_if_ge (tgt := 66) hx hb dX2_factorsAreTrue_61 (by decide) (fun hc => ?_) (fun hc => ?_)
          · have hv18 := hv17.1 hc
            refine lv_iinc (v := (v2 + 1)) (lv' := [(2, .int (v2 + 1)), (4, .int r3), (3, .int (sj_i w (sj_A w 3 f0) v2.toNatClampNeg)), (0, .ref f0), (1, .int f1)]) hx hb dX2_factorsAreTrue_66 hl (k := 4) rfl rfl (by decide) rfl (fun ls hl => ?_)
            refine lv_goto (tgt := 9) hx hb dX2_factorsAreTrue_69 (by decide) ?_
            exact ih (v2 + 1) w16 _ _ _ (lv_sub hl [3, 4, 0] rfl) hH hv18
          · have hv19 := hv17.2 hc
            refine lv_iconst (v := 0) hx hb dX2_factorsAreTrue_64 (by decide) ?_
            exact sj_retI hC hD.2 hH hr rfl hv19 ⟨(Nat.le_of_ble_eq_true rfl), (Nat.le_of_ble_eq_true rfl)⟩ dX2_factorsAreTrue_65
      · have hv20 := hv8.2 hc
        refine lv_iconst (v := 0) hx hb dX2_factorsAreTrue_38 (by decide) ?_
        exact sj_retI hC hD.2 hH hr rfl hv20 ⟨(Nat.le_of_ble_eq_true rfl), (Nat.le_of_ble_eq_true rfl)⟩ dX2_factorsAreTrue_39
set_option maxHeartbeats 4000000 in
set_option maxRecDepth 100000 in
theorem wk_X2_factorsAreTrue (G : sj_G) (l : Launch) (hlt : l.stackTraces = false) (a1 : Nat) (w : sj_W) (Q : Int32 → sj_W → Prop) (QX : String → sj_W → Prop) (hv : vc_X2_factorsAreTrue a1 w Q) : sj_MI G l yX2_factorsAreTrue (sj_ws yX2_factorsAreTrue cX2_factorsAreTrue 5 (some .boolean)) rm_X2_factorsAreTrue [.ref a1] w Q QX := by
  refine sj_of (by decide +kernel) (Nat.le_of_ble_eq_true rfl) hlt ?_
  intro p e s m args below meth c ls hC hD hr hin hH hl
  have hx := hC.1
  have hb := hC.2.1
  have hl : lv_has ls 5 [(0, .ref a1)] := hl
  refine lv_aload_n hx hb dX2_factorsAreTrue_0 rfl (lv_at hl 0 rfl) ?_
  refine gf_X2_51 hC hH hv.1 dX2_factorsAreTrue_1 ?_
  refine lv_iconst (v := 1) hx hb dX2_factorsAreTrue_4 (by decide) ?_
  refine lv_isub hx hb dX2_factorsAreTrue_5 ?_
  refine lv_istore_n (lv' := [(1, .int ((sj_I w 4 a1) - 1)), (0, .ref a1)]) hx hb dX2_factorsAreTrue_6 rfl hl (by decide) rfl (fun ls hl => ?_)
  refine lv_iconst (v := 0) hx hb dX2_factorsAreTrue_7 (by decide) ?_
  refine lv_istore_n (lv' := [(2, .int 0), (1, .int ((sj_I w 4 a1) - 1)), (0, .ref a1)]) hx hb dX2_factorsAreTrue_8 rfl hl (by decide) rfl (fun ls hl => ?_)
  refine wl_X2_factorsAreTrue_9 hC hD hr hin (fun w_9 H locs ls hl hH hv21 => ?_) 64 0 w _ _ _ (lv_sub hl [2, 1, 0] rfl) hH hv.2
  refine lv_iload_n hx hb dX2_factorsAreTrue_72 rfl (lv_at hl 1 rfl) ?_
  obtain ⟨E22, hE23, hv26⟩ := sj_jn1_e hv21
  have hJ24 : ∀ (y0_96 : Int32) (w_96 : sj_W) (H : Heap) (locs : List Loc) (ls : Array Slot), lv_has ls 5 [(0, .ref a1)] → sj_H G s w_96 H locs → E22 y0_96 w_96 → W p l e rm_X2_factorsAreTrue s m args below meth c H locs 0 0 (sj_MQ G below (va_Qi Q (sj_B G) (sj_F G)) QX args s rm_X2_factorsAreTrue) (F0 m 96 ls [.int y0_96]) := by
    intro y0_96 w_96 H locs ls hl hH hv27
    rw [hE23] at hv27
    refine lv_istore_n (lv' := [(2, .int y0_96), (0, .ref a1)]) hx hb dX2_factorsAreTrue_96 rfl hl (by decide) rfl (fun ls hl => ?_)
    refine lv_iload_n hx hb dX2_factorsAreTrue_97 rfl (lv_at hl 0 rfl) ?_
    refine lv_if_eq (tgt := 113) hx hb dX2_factorsAreTrue_98 (by decide) (fun hc => ?_) (fun hc => ?_)
    · have hv32 := hv27.1 hc
      refine lv_iconst (v := 0) hx hb dX2_factorsAreTrue_113 (by decide) ?_
      exact sj_retI hC hD.2 hH hr rfl hv32 ⟨(Nat.le_of_ble_eq_true rfl), (Nat.le_of_ble_eq_true rfl)⟩ dX2_factorsAreTrue_114
    · have hv33 := hv27.2 hc
      refine lv_aload_n hx hb dX2_factorsAreTrue_101 rfl (lv_at hl 1 rfl) ?_
      refine cl_X2_65 hC hD hH hv33.2 hv33.1 ⟨Nat.le_of_ble_eq_true rfl, Nat.le_of_ble_eq_true rfl⟩ ⟨(Nat.le_of_ble_eq_true rfl), (Nat.le_of_ble_eq_true rfl)⟩ ⟨(Nat.le_of_ble_eq_true rfl), (Nat.le_of_ble_eq_true rfl)⟩ hl.1 (Nat.le_of_ble_eq_true rfl) dX2_factorsAreTrue_102 (fun r34 w35 H locs hH hv36 => ?_)
      refine lv_iconst (v := 1) hx hb dX2_factorsAreTrue_105 (by decide) ?_
      refine lv_icmp_ne (tgt := 113) hx hb dX2_factorsAreTrue_106 (by decide) (fun hc => ?_) (fun hc => ?_)
      · have hv37 := hv36.1 hc
        refine lv_iconst (v := 0) hx hb dX2_factorsAreTrue_113 (by decide) ?_
        exact sj_retI hC hD.2 hH hr rfl hv37 ⟨(Nat.le_of_ble_eq_true rfl), (Nat.le_of_ble_eq_true rfl)⟩ dX2_factorsAreTrue_114
      · have hv38 := hv36.2 hc
        refine lv_iconst (v := 1) hx hb dX2_factorsAreTrue_109 (by decide) ?_
        refine lv_goto (tgt := 114) hx hb dX2_factorsAreTrue_110 (by decide) ?_
        exact sj_retI hC hD.2 hH hr rfl hv38 ⟨(Nat.le_of_ble_eq_true rfl), (Nat.le_of_ble_eq_true rfl)⟩ dX2_factorsAreTrue_114
  clear hE23
  refine lv_if_lt (tgt := 91) hx hb dX2_factorsAreTrue_73 (by decide) (fun hc => ?_) (fun hc => ?_)
  · have hv28 := hv26.1 hc
    refine lv_iconst (v := 1) hx hb dX2_factorsAreTrue_91 (by decide) ?_
    refine lv_goto (tgt := 96) hx hb dX2_factorsAreTrue_92 (by decide) ?_
    exact hJ24 1 w_9 _ _ _ (lv_sub hl [0] rfl) hH hv28
  · have hv29 := hv26.2 hc
    refine lv_aload_n hx hb dX2_factorsAreTrue_76 rfl (lv_at hl 0 rfl) ?_
    refine gf_X2_54 hC hH hv29.1 hv29.2.1 dX2_factorsAreTrue_77 ?_
    refine lv_iload_n hx hb dX2_factorsAreTrue_80 rfl (lv_at hl 1 rfl) ?_
    refine sj_iald hC hH hv29.2.2.1 hv29.2.2.2.1 dX2_factorsAreTrue_81 ?_
    refine lv_aload_n hx hb dX2_factorsAreTrue_82 rfl (lv_at hl 0 rfl) ?_
    refine gf_X2_17 hC hH hv29.2.2.2.2.1 hv29.2.2.2.2.2.1 dX2_factorsAreTrue_83 ?_
    refine lv_iconst (v := 0) hx hb dX2_factorsAreTrue_86 (by decide) ?_
    refine sj_iald hC hH hv29.2.2.2.2.2.2.1 hv29.2.2.2.2.2.2.2.1 dX2_factorsAreTrue_87 ?_
    refine lv_icmp_ne (tgt := 95) hx hb dX2_factorsAreTrue_88 (by decide) (fun hc => ?_) (fun hc => ?_)
    · have hv30 := hv29.2.2.2.2.2.2.2.2.1 hc
      refine lv_iconst (v := 0) hx hb dX2_factorsAreTrue_95 (by decide) ?_
      exact hJ24 0 w_9 _ _ _ (lv_sub hl [0] rfl) hH hv30
    · have hv31 := hv29.2.2.2.2.2.2.2.2.2 hc
      refine lv_iconst (v := 1) hx hb dX2_factorsAreTrue_91 (by decide) ?_
      refine lv_goto (tgt := 96) hx hb dX2_factorsAreTrue_92 (by decide) ?_
      exact hJ24 1 w_9 _ _ _ (lv_sub hl [0] rfl) hH hv31
section SJL_X2_factorsAreTrue
variable {p : Program} {l : Launch} {e : Env} {R : Room} {s : State} {m : MethodId} {args : Array Value} {below : List Frame} {meth : Method} {c : Code} {H : Heap} {locs : List Loc} {cells slots : Nat} {Q : State → Prop} {cc : ByteArray} {pc : Nat} {ls : Array Slot} {rest : List Value} {G : sj_G} {nL : Nat} {w : sj_W}
theorem cl_X6_220 {rmM : Room} {QcM : Array Value → State → Outcome → State → Prop} {QX : String → sj_W → Prop} {b0 : Nat} {Qi : Int32 → sj_W → Prop} (hC : sj_C G p l s m args c cc RX6 nL) (hD : sj_D meth c) (hH : sj_H G s w H locs) (hv : vc_X2_factorsAreTrue b0 w Qi) (hR : rm_X2_factorsAreTrue.frames + 1 ≤ R.frames ∧ 8 + (5 + 11) + rm_X2_factorsAreTrue.locals ≤ R.locals) (hf : cells + 0 ≤ R.cells ∧ slots + 0 ≤ R.slots) (hfM : cells + 0 ≤ rmM.cells ∧ slots + 0 ≤ rmM.slots) (hls : ls.size = nL) (hW : (rest.map fun v => v.category).sum ≤ 8) (hdg : decode cc pc = .ok (.invokestatic 220, 3)) (kk : ∀ (r : Int32) (w1 : sj_W) (H : Heap) (locs : List Loc), sj_H G s w1 H locs → Qi r w1 → W p l e R s m args below meth c H locs (cells + 0) (slots + 0) (sj_MQ G below QcM QX args s rmM) (F0 m (pc + 3) ls (.int r :: rest))) : W p l e R s m args below meth c H locs cells slots (sj_MQ G below QcM QX args s rmM) (F0 m pc ls (.ref b0 :: rest)) :=
  sj_cI hD hH (sj_runSN (n := 1) hC hH (As := [.ref b0]) (wk_X2_factorsAreTrue G l hC.2.2.2.2.2.2 b0 w Qi QX hv) mb_684 mb_685 mb_15 mb_686 (by decide +kernel) hR hf rfl hls hW hdg) hfM kk
end SJL_X2_factorsAreTrue
abbrev rm_X6_rowIsTrue : Room := { frames := 8, cells := 3, slots := 18, locals := 125 }
def vc_X6_rowIsTrue (self : Nat) (a1 : Int32) (a2 : Int32) (a3 : Int32) (w : sj_W) (Q : Int32 → sj_W → Prop) (QX : String → sj_W → Prop) : Prop := vc_X6_kindOf a1 w (fun r1 w2 => vc_X6_isUnsigned a2 w2 (fun r4 w5 => sj_T w5 self = 5 ∧ vc_X6_rowOf self r1 a3 w5 (fun r7 w8 => sj_T w8 self = 5 ∧ sj_A w8 35 self ≠ 0 ∧ sj_T w8 (sj_A w8 35 self) = 1 ∧ vc_X0_take (sj_A w8 35 self) r7 r4 w8 (fun w11 => sj_T w11 self = 5 ∧ sj_A w11 35 self ≠ 0 ∧ sj_T w11 (sj_A w11 35 self) = 1 ∧ vc_X0_putInOrder (sj_A w11 35 self) w11 (fun w14 => sj_T w14 self = 5 ∧ sj_A w14 35 self ≠ 0 ∧ sj_T w14 (sj_A w14 35 self) = 1 ∧ vc_X0_split (sj_A w14 35 self) w14 (fun w17 => sj_T w17 self = 5 ∧ sj_A w17 35 self ≠ 0 ∧ vc_X2_countIsTrue (sj_A w17 35 self) w17 (fun r19 w20 => ((r19 = 0 → Q 0 w20) ∧ (¬ r19 = 0 → sj_T w20 self = 5 ∧ sj_A w20 35 self ≠ 0 ∧ vc_X2_periodsAreTrue r7 (sj_A w20 35 self) w20 (fun r24 w25 => ((r24 = 0 → Q 0 w25) ∧ (¬ r24 = 0 → sj_T w25 self = 5 ∧ sj_A w25 35 self ≠ 0 ∧ vc_X2_factorsAreTrue (sj_A w25 35 self) w25 (fun r29 w30 => ((r29 = 0 → Q 0 w30) ∧ (¬ r29 = 0 → Q 1 w30))))))))))))) QX) QX) QX
set_option maxHeartbeats 4000000 in
set_option maxRecDepth 100000 in
theorem wk_X6_rowIsTrue (G : sj_G) (l : Launch) (hlt : l.stackTraces = false) (self : Nat) (a1 : Int32) (a2 : Int32) (a3 : Int32) (w : sj_W) (Q : Int32 → sj_W → Prop) (QX : String → sj_W → Prop) (hv : vc_X6_rowIsTrue self a1 a2 a3 w Q QX) : sj_MI G l yX6_rowIsTrue (sj_ws yX6_rowIsTrue cX6_rowIsTrue 7 (some .boolean)) rm_X6_rowIsTrue [.ref self, .int a1, .int a2, .int a3] w Q QX := by
  refine sj_of (by decide +kernel) (Nat.le_of_ble_eq_true rfl) hlt ?_
  intro p e s m args below meth c ls hC hD hr hin hH hl
  have hx := hC.1
  have hb := hC.2.1
  have hl : lv_has ls 7 [(0, .ref self), (1, .int a1), (2, .int a2), (3, .int a3)] := hl
  refine lv_iload_n hx hb dX6_rowIsTrue_0 rfl (lv_at hl 1 rfl) ?_
  refine cl_X6_34 hC hD hH hv ⟨Nat.le_of_ble_eq_true rfl, Nat.le_of_ble_eq_true rfl⟩ ⟨(Nat.le_of_ble_eq_true rfl), (Nat.le_of_ble_eq_true rfl)⟩ ⟨(Nat.le_of_ble_eq_true rfl), (Nat.le_of_ble_eq_true rfl)⟩ hl.1 (Nat.le_of_ble_eq_true rfl) dX6_rowIsTrue_1 (fun r1 w2 H locs hH hv3 => ?_)
  refine lv_istore (lv' := [(4, .int r1), (0, .ref self), (1, .int a1), (2, .int a2), (3, .int a3)]) hx hb dX6_rowIsTrue_4 hl (by decide) rfl (fun ls hl => ?_)
  refine lv_iload_n hx hb dX6_rowIsTrue_6 rfl (lv_at hl 3 rfl) ?_
  refine cl_X6_133 hC hD hH hv3 ⟨Nat.le_of_ble_eq_true rfl, Nat.le_of_ble_eq_true rfl⟩ ⟨(Nat.le_of_ble_eq_true rfl), (Nat.le_of_ble_eq_true rfl)⟩ ⟨(Nat.le_of_ble_eq_true rfl), (Nat.le_of_ble_eq_true rfl)⟩ hl.1 (Nat.le_of_ble_eq_true rfl) dX6_rowIsTrue_7 (fun r4 w5 H locs hH hv6 => ?_)
  refine lv_istore (lv' := [(5, .int r4), (4, .int r1), (0, .ref self), (1, .int a1), (2, .int a2), (3, .int a3)]) hx hb dX6_rowIsTrue_10 hl (by decide) rfl (fun ls hl => ?_)
  refine lv_aload_n hx hb dX6_rowIsTrue_12 rfl (lv_at hl 2 rfl) ?_
  refine lv_iload hx hb dX6_rowIsTrue_13 (lv_at hl 1 rfl) ?_
  refine lv_iload_n hx hb dX6_rowIsTrue_15 rfl (lv_at hl 5 rfl) ?_
  refine cl_X6_42 hC hD hH hv6.2 hv6.1 ⟨Nat.le_of_ble_eq_true rfl, Nat.le_of_ble_eq_true rfl⟩ ⟨(Nat.le_of_ble_eq_true rfl), (Nat.le_of_ble_eq_true rfl)⟩ ⟨(Nat.le_of_ble_eq_true rfl), (Nat.le_of_ble_eq_true rfl)⟩ hl.1 (Nat.le_of_ble_eq_true rfl) dX6_rowIsTrue_16 (fun r7 w8 H locs hH hv9 => ?_)
  refine lv_astore (lv' := [(6, .ref r7), (5, .int r4), (4, .int r1), (0, .ref self), (1, .int a1), (2, .int a2), (3, .int a3)]) hx hb dX6_rowIsTrue_19 hl (by decide) rfl (fun ls hl => ?_)
  refine lv_aload_n hx hb dX6_rowIsTrue_21 rfl (lv_at hl 3 rfl) ?_
  refine gf_X6_28 hC hH hv9.1 hv9.2.1 dX6_rowIsTrue_22 ?_
  refine lv_aload hx hb dX6_rowIsTrue_25 (lv_at hl 0 rfl) ?_
  refine lv_iload hx hb dX6_rowIsTrue_27 (lv_at hl 1 rfl) ?_
  refine cl_X6_151 hC hD hH hv9.2.2.2 hv9.2.2.1 ⟨Nat.le_of_ble_eq_true rfl, Nat.le_of_ble_eq_true rfl⟩ ⟨(Nat.le_of_ble_eq_true rfl), (Nat.le_of_ble_eq_true rfl)⟩ ⟨(Nat.le_of_ble_eq_true rfl), (Nat.le_of_ble_eq_true rfl)⟩ hl.1 (Nat.le_of_ble_eq_true rfl) dX6_rowIsTrue_29 (fun w11 H locs hH hv12 => ?_)
  refine lv_aload_n hx hb dX6_rowIsTrue_32 rfl (lv_at hl 3 rfl) ?_
  refine gf_X6_28 hC hH hv12.1 hv12.2.1 dX6_rowIsTrue_33 ?_
  refine cl_X6_155 hC hD hH hv12.2.2.2 hv12.2.2.1 ⟨Nat.le_of_ble_eq_true rfl, Nat.le_of_ble_eq_true rfl⟩ ⟨(Nat.le_of_ble_eq_true rfl), (Nat.le_of_ble_eq_true rfl)⟩ ⟨(Nat.le_of_ble_eq_true rfl), (Nat.le_of_ble_eq_true rfl)⟩ hl.1 (Nat.le_of_ble_eq_true rfl) dX6_rowIsTrue_36 (fun w14 H locs hH hv15 => ?_)
  refine lv_aload_n hx hb dX6_rowIsTrue_39 rfl (lv_at hl 3 rfl) ?_
  refine gf_X6_28 hC hH hv15.1 hv15.2.1 dX6_rowIsTrue_40 ?_
  refine cl_X6_180 hC hD hH hv15.2.2.2 hv15.2.2.1 ⟨Nat.le_of_ble_eq_true rfl, Nat.le_of_ble_eq_true rfl⟩ ⟨(Nat.le_of_ble_eq_true rfl), (Nat.le_of_ble_eq_true rfl)⟩ ⟨(Nat.le_of_ble_eq_true rfl), (Nat.le_of_ble_eq_true rfl)⟩ hl.1 (Nat.le_of_ble_eq_true rfl) dX6_rowIsTrue_43 (fun w17 H locs hH hv18 => ?_)
  refine lv_aload_n hx hb dX6_rowIsTrue_46 rfl (lv_at hl 3 rfl) ?_
  refine gf_X6_28 hC hH hv18.1 hv18.2.1 dX6_rowIsTrue_47 ?_
  refine cl_X6_210 hC hD hH hv18.2.2 ⟨Nat.le_of_ble_eq_true rfl, Nat.le_of_ble_eq_true rfl⟩ ⟨(Nat.le_of_ble_eq_true rfl), (Nat.le_of_ble_eq_true rfl)⟩ ⟨(Nat.le_of_ble_eq_true rfl), (Nat.le_of_ble_eq_true rfl)⟩ hl.1 (Nat.le_of_ble_eq_true rfl) dX6_rowIsTrue_50 (fun r19 w20 H locs hH hv21 => ?_)
  refine lv_if_eq (tgt := 82) hx hb dX6_rowIsTrue_53 (by decide) (fun hc => ?_) (fun hc => ?_)
  · have hv22 := hv21.1 hc
    refine lv_iconst (v := 0) hx hb dX6_rowIsTrue_82 (by decide) ?_
    exact sj_retI hC hD.2 hH hr rfl hv22 ⟨(Nat.le_of_ble_eq_true rfl), (Nat.le_of_ble_eq_true rfl)⟩ dX6_rowIsTrue_83
  · have hv23 := hv21.2 hc
    refine lv_aload hx hb dX6_rowIsTrue_56 (lv_at hl 0 rfl) ?_
    refine lv_aload_n hx hb dX6_rowIsTrue_58 rfl (lv_at hl 3 rfl) ?_
    refine gf_X6_28 hC hH hv23.1 hv23.2.1 dX6_rowIsTrue_59 ?_
    refine cl_X6_216 hC hD hH hv23.2.2 ⟨Nat.le_of_ble_eq_true rfl, Nat.le_of_ble_eq_true rfl⟩ ⟨(Nat.le_of_ble_eq_true rfl), (Nat.le_of_ble_eq_true rfl)⟩ ⟨(Nat.le_of_ble_eq_true rfl), (Nat.le_of_ble_eq_true rfl)⟩ hl.1 (Nat.le_of_ble_eq_true rfl) dX6_rowIsTrue_62 (fun r24 w25 H locs hH hv26 => ?_)
    refine lv_if_eq (tgt := 82) hx hb dX6_rowIsTrue_65 (by decide) (fun hc => ?_) (fun hc => ?_)
    · have hv27 := hv26.1 hc
      refine lv_iconst (v := 0) hx hb dX6_rowIsTrue_82 (by decide) ?_
      exact sj_retI hC hD.2 hH hr rfl hv27 ⟨(Nat.le_of_ble_eq_true rfl), (Nat.le_of_ble_eq_true rfl)⟩ dX6_rowIsTrue_83
    · have hv28 := hv26.2 hc
      refine lv_aload_n hx hb dX6_rowIsTrue_68 rfl (lv_at hl 3 rfl) ?_
      refine gf_X6_28 hC hH hv28.1 hv28.2.1 dX6_rowIsTrue_69 ?_
      refine cl_X6_220 hC hD hH hv28.2.2 ⟨Nat.le_of_ble_eq_true rfl, Nat.le_of_ble_eq_true rfl⟩ ⟨(Nat.le_of_ble_eq_true rfl), (Nat.le_of_ble_eq_true rfl)⟩ ⟨(Nat.le_of_ble_eq_true rfl), (Nat.le_of_ble_eq_true rfl)⟩ hl.1 (Nat.le_of_ble_eq_true rfl) dX6_rowIsTrue_72 (fun r29 w30 H locs hH hv31 => ?_)
      refine lv_if_eq (tgt := 82) hx hb dX6_rowIsTrue_75 (by decide) (fun hc => ?_) (fun hc => ?_)
      · have hv32 := hv31.1 hc
        refine lv_iconst (v := 0) hx hb dX6_rowIsTrue_82 (by decide) ?_
        exact sj_retI hC hD.2 hH hr rfl hv32 ⟨(Nat.le_of_ble_eq_true rfl), (Nat.le_of_ble_eq_true rfl)⟩ dX6_rowIsTrue_83
      · have hv33 := hv31.2 hc
        refine lv_iconst (v := 1) hx hb dX6_rowIsTrue_78 (by decide) ?_
        refine lv_goto (tgt := 83) hx hb dX6_rowIsTrue_79 (by decide) ?_
        exact sj_retI hC hD.2 hH hr rfl hv33 ⟨(Nat.le_of_ble_eq_true rfl), (Nat.le_of_ble_eq_true rfl)⟩ dX6_rowIsTrue_83
section SJL_X6_rowIsTrue
variable {p : Program} {l : Launch} {e : Env} {R : Room} {s : State} {m : MethodId} {args : Array Value} {below : List Frame} {meth : Method} {c : Code} {H : Heap} {locs : List Loc} {cells slots : Nat} {Q : State → Prop} {cc : ByteArray} {pc : Nat} {ls : Array Slot} {rest : List Value} {G : sj_G} {nL : Nat} {w : sj_W}
theorem cx_L_130 {QX : String → sj_W → Prop} {b : Nat} {b0 : Int32} {b1 : Int32} {b2 : Int32} {Qi : Int32 → sj_W → Prop} (hC : sj_C G p l s m args c cc RL nL) (hH : sj_H G s w H locs) (hv : vc_X6_rowIsTrue b b0 b1 b2 w Qi QX) (hT : sj_T w b = 5) (hR : rm_X6_rowIsTrue.frames + 1 ≤ R.frames ∧ 8 + (7 + 11) + rm_X6_rowIsTrue.locals ≤ R.locals) (hf : cells + 3 ≤ R.cells ∧ slots + 18 ≤ R.slots) (hls : ls.size = nL) (hW : (rest.map fun v => v.category).sum ≤ 8) (hdg : decode cc pc = .ok (.invokevirtual 130, 3)) (kx : ∀ (E : String) (ce : Cell) (q9 : Addr) (w1 : sj_W) (H1 : Heap) (locs1 : List Loc), sj_H G s w1 H1 locs1 → QX E w1 → H1[q9]? = some ce → ce.vm = .none → s.vm.findClass E = some ce.cls → vx_W p l e R s m args below meth c H1 locs1 (cells + 3) (slots + 18) Q (F0 m pc ls rest) q9) (kk : ∀ (r : Int32) (w1 : sj_W) (H : Heap) (locs : List Loc), sj_H G s w1 H locs → Qi r w1 → W p l e R s m args below meth c H locs (cells + 3) (slots + 18) Q (F0 m (pc + 3) ls (.int r :: rest))) : W p l e R s m args below meth c H locs cells slots Q (F0 m pc ls (.int b2 :: .int b1 :: .int b0 :: .ref b :: rest)) :=
  sj_xI hH (sj_runV (n := 3) hC hH (As := [.int b0, .int b1, .int b2]) (wk_X6_rowIsTrue G l hC.2.2.2.2.2.2 b b0 b1 b2 w Qi QX hv) (ci := 4) rfl (by decide) hT mb_664 mb_665 mb_666 mb_1 mb_667 (by decide +kernel) hR hf rfl hls hW hdg) kx kk
end SJL_X6_rowIsTrue
abbrev rm_X6_set : Room := { frames := 8, cells := 4, slots := 24, locals := 124 }
def vc_X6_set (self : Nat) (a1 : Int32) (a2 : Int32) (a3 : Int32) (a4 : Int64) (w : sj_W) (Q : Int64 → sj_W → Prop) (QX : String → sj_W → Prop) : Prop := vc_X6_kindOf a1 w (fun r1 w2 => vc_X6_wantNumber r1 a4 w2 (fun w5 => sj_T w5 self = 5 ∧ vc_X6_rowOf self r1 a2 w5 (fun r7 w8 => sj_T w8 r7 = 2 ∧ vc_X6_wantPlace a3 (sj_I w8 9 r7) w8 (fun w11 => sj_T w11 r7 = 2 ∧ sj_A w11 8 r7 ≠ 0 ∧ sj_T w11 (sj_A w11 8 r7) = 8 ∧ vp_in a3 (sj_N w11 (sj_A w11 8 r7)) ∧ sj_T w11 r7 = 2 ∧ sj_A w11 8 r7 ≠ 0 ∧ sj_T w11 (sj_A w11 8 r7) = 8 ∧ vp_in a3 (sj_N w11 (sj_A w11 8 r7)) ∧ ∀ w13 : sj_W, w13 = sj_sl w11 (sj_A w11 8 r7) a3.toNatClampNeg a4 → Q (sj_l w11 (sj_A w11 8 r7) a3.toNatClampNeg) w13) QX) QX) QX) QX
set_option maxHeartbeats 4000000 in
set_option maxRecDepth 100000 in
theorem wk_X6_set (G : sj_G) (l : Launch) (hlt : l.stackTraces = false) (self : Nat) (a1 : Int32) (a2 : Int32) (a3 : Int32) (a4 : Int64) (w : sj_W) (Q : Int64 → sj_W → Prop) (QX : String → sj_W → Prop) (hv : vc_X6_set self a1 a2 a3 a4 w Q QX) : sj_ML G l yX6_set (sj_ws yX6_set cX6_set 10 (some .long)) rm_X6_set [.ref self, .int a1, .int a2, .int a3, .long a4] w Q QX := by
  refine sj_of (by decide +kernel) (Nat.le_of_ble_eq_true rfl) hlt ?_
  intro p e s m args below meth c ls hC hD hr hin hH hl
  have hx := hC.1
  have hb := hC.2.1
  have hl : lv_has ls 10 [(0, .ref self), (1, .int a1), (2, .int a2), (3, .int a3), (4, .long a4)] := hl
  refine lv_iload_n hx hb dX6_set_0 rfl (lv_at hl 1 rfl) ?_
  refine cl_X6_34 hC hD hH hv ⟨Nat.le_of_ble_eq_true rfl, Nat.le_of_ble_eq_true rfl⟩ ⟨(Nat.le_of_ble_eq_true rfl), (Nat.le_of_ble_eq_true rfl)⟩ ⟨(Nat.le_of_ble_eq_true rfl), (Nat.le_of_ble_eq_true rfl)⟩ hl.1 (Nat.le_of_ble_eq_true rfl) dX6_set_1 (fun r1 w2 H locs hH hv3 => ?_)
  refine lv_istore (lv' := [(6, .int r1), (0, .ref self), (1, .int a1), (2, .int a2), (3, .int a3), (4, .long a4)]) hx hb dX6_set_4 hl (by decide) rfl (fun ls hl => ?_)
  refine lv_iload hx hb dX6_set_6 (lv_at hl 0 rfl) ?_
  refine lv_lload hx hb dX6_set_8 (lv_at hl 5 rfl) ?_
  refine cl_X6_38 hC hD hH hv3 ⟨Nat.le_of_ble_eq_true rfl, Nat.le_of_ble_eq_true rfl⟩ ⟨(Nat.le_of_ble_eq_true rfl), (Nat.le_of_ble_eq_true rfl)⟩ ⟨(Nat.le_of_ble_eq_true rfl), (Nat.le_of_ble_eq_true rfl)⟩ hl.1 (Nat.le_of_ble_eq_true rfl) dX6_set_10 (fun w5 H locs hH hv6 => ?_)
  refine lv_aload_n hx hb dX6_set_13 rfl (lv_at hl 1 rfl) ?_
  refine lv_iload hx hb dX6_set_14 (lv_at hl 0 rfl) ?_
  refine lv_iload_n hx hb dX6_set_16 rfl (lv_at hl 3 rfl) ?_
  refine cl_X6_42 hC hD hH hv6.2 hv6.1 ⟨Nat.le_of_ble_eq_true rfl, Nat.le_of_ble_eq_true rfl⟩ ⟨(Nat.le_of_ble_eq_true rfl), (Nat.le_of_ble_eq_true rfl)⟩ ⟨(Nat.le_of_ble_eq_true rfl), (Nat.le_of_ble_eq_true rfl)⟩ hl.1 (Nat.le_of_ble_eq_true rfl) dX6_set_17 (fun r7 w8 H locs hH hv9 => ?_)
  refine lv_astore (lv' := [(7, .ref r7), (6, .int r1), (0, .ref self), (1, .int a1), (2, .int a2), (3, .int a3), (4, .long a4)]) hx hb dX6_set_20 hl (by decide) rfl (fun ls hl => ?_)
  refine lv_iload_n hx hb dX6_set_22 rfl (lv_at hl 5 rfl) ?_
  refine lv_aload hx hb dX6_set_23 (lv_at hl 0 rfl) ?_
  refine gf_X6_46 hC hH hv9.1 dX6_set_25 ?_
  refine cl_X6_61 hC hD hH hv9.2 ⟨Nat.le_of_ble_eq_true rfl, Nat.le_of_ble_eq_true rfl⟩ ⟨(Nat.le_of_ble_eq_true rfl), (Nat.le_of_ble_eq_true rfl)⟩ ⟨(Nat.le_of_ble_eq_true rfl), (Nat.le_of_ble_eq_true rfl)⟩ hl.1 (Nat.le_of_ble_eq_true rfl) dX6_set_28 (fun w11 H locs hH hv12 => ?_)
  refine lv_aload hx hb dX6_set_31 (lv_at hl 0 rfl) ?_
  refine gf_X6_57 hC hH hv12.1 hv12.2.1 dX6_set_33 ?_
  refine lv_iload_n hx hb dX6_set_36 rfl (lv_at hl 5 rfl) ?_
  refine sj_lald hC hH hv12.2.2.1 hv12.2.2.2.1 dX6_set_37 ?_
  refine lv_lstore (lv' := [(8, .long (sj_l w11 (sj_A w11 8 r7) a3.toNatClampNeg)), (7, .ref r7), (6, .int r1), (0, .ref self), (1, .int a1), (2, .int a2), (3, .int a3), (4, .long a4)]) hx hb dX6_set_38 hl (by decide) rfl (fun ls hl => ?_)
  refine lv_aload hx hb dX6_set_40 (lv_at hl 1 rfl) ?_
  refine gf_X6_57 hC hH hv12.2.2.2.2.1 hv12.2.2.2.2.2.1 dX6_set_42 ?_
  refine lv_iload_n hx hb dX6_set_45 rfl (lv_at hl 6 rfl) ?_
  refine lv_lload hx hb dX6_set_46 (lv_at hl 7 rfl) ?_
  refine sj_last hC hH hv12.2.2.2.2.2.2.1 hv12.2.2.2.2.2.2.2.1 dX6_set_48 (fun w13 H locs e14 hH => ?_)
  refine lv_lload hx hb dX6_set_49 (lv_at hl 0 rfl) ?_
  exact sj_retL hC hD.2 hH hr (hv12.2.2.2.2.2.2.2.2 w13 e14) ⟨(Nat.le_of_ble_eq_true rfl), (Nat.le_of_ble_eq_true rfl)⟩ dX6_set_51
section SJL_X6_set
variable {p : Program} {l : Launch} {e : Env} {R : Room} {s : State} {m : MethodId} {args : Array Value} {below : List Frame} {meth : Method} {c : Code} {H : Heap} {locs : List Loc} {cells slots : Nat} {Q : State → Prop} {cc : ByteArray} {pc : Nat} {ls : Array Slot} {rest : List Value} {G : sj_G} {nL : Nat} {w : sj_W}
theorem cx_L_19 {QX : String → sj_W → Prop} {b : Nat} {b0 : Int32} {b1 : Int32} {b2 : Int32} {b3 : Int64} {Qi : Int64 → sj_W → Prop} (hC : sj_C G p l s m args c cc RL nL) (hH : sj_H G s w H locs) (hv : vc_X6_set b b0 b1 b2 b3 w Qi QX) (hT : sj_T w b = 5) (hR : rm_X6_set.frames + 1 ≤ R.frames ∧ 8 + (10 + 11) + rm_X6_set.locals ≤ R.locals) (hf : cells + 4 ≤ R.cells ∧ slots + 24 ≤ R.slots) (hls : ls.size = nL) (hW : (rest.map fun v => v.category).sum ≤ 8) (hdg : decode cc pc = .ok (.invokevirtual 19, 3)) (kx : ∀ (E : String) (ce : Cell) (q9 : Addr) (w1 : sj_W) (H1 : Heap) (locs1 : List Loc), sj_H G s w1 H1 locs1 → QX E w1 → H1[q9]? = some ce → ce.vm = .none → s.vm.findClass E = some ce.cls → vx_W p l e R s m args below meth c H1 locs1 (cells + 4) (slots + 24) Q (F0 m pc ls rest) q9) (kk : ∀ (r : Int64) (w1 : sj_W) (H : Heap) (locs : List Loc), sj_H G s w1 H locs → Qi r w1 → W p l e R s m args below meth c H locs (cells + 4) (slots + 24) Q (F0 m (pc + 3) ls (.long r :: rest))) : W p l e R s m args below meth c H locs cells slots Q (F0 m pc ls (.long b3 :: .int b2 :: .int b1 :: .int b0 :: .ref b :: rest)) :=
  sj_xL hH (sj_runV (n := 4) hC hH (As := [.int b0, .int b1, .int b2, .long b3]) (wk_X6_set G l hC.2.2.2.2.2.2 b b0 b1 b2 b3 w Qi QX hv) (ci := 4) rfl (by decide) hT mb_258 mb_259 mb_260 mb_1 mb_261 (by decide +kernel) hR hf rfl hls hW hdg) kx kk
end SJL_X6_set
abbrev rm_X6_fittingAhead : Room := { frames := 1, cells := 0, slots := 0, locals := 22 }
def vb_X6_fittingAhead_5 (f0 : Nat) (f1 : Int32) (f2 : Int32) (Q : Int32 → sj_W → Prop) (E : Int32 → sj_W → Prop) (K : Int32 → Int32 → sj_W → Prop) (v3 : Int32) (v4 : Int32) (w : sj_W) : Prop := ((f2 ≤ v4 → E v3 w) ∧ (¬ f2 ≤ v4 → sj_T w f0 = 5 ∧ sj_A w 33 f0 ≠ 0 ∧ (sj_T w (sj_A w 33 f0) = 10 ∨ sj_T w (sj_A w 33 f0) = 11 ∨ sj_T w (sj_A w 33 f0) = 12) ∧ vp_in v4 (sj_N w (sj_A w 33 f0)) ∧ (sj_r w (sj_A w 33 f0) v4.toNatClampNeg) ≠ 0 ∧ sj_T w f0 = 5 ∧ vc_X6_isFitting f0 f1 (sj_r w (sj_A w 33 f0) v4.toNatClampNeg) w (fun r3 w4 => ((r3 = 0 → K v3 (v4 + 1) w4) ∧ (¬ r3 = 0 → K (v3 + 1) (v4 + 1) w4)))))
def vc_X6_fittingAhead (self : Nat) (a1 : Int32) (a2 : Int32) (w : sj_W) (Q : Int32 → sj_W → Prop) : Prop := sj_lp2 (vb_X6_fittingAhead_5 self a1 a2 Q (fun z3_5 w_5 => Q z3_5 w_5)) 64 0 0 w
set_option maxHeartbeats 4000000 in
set_option maxRecDepth 100000 in
theorem wl_X6_fittingAhead_5 {p : Program} {l : Launch} {e : Env} {s : State} {m : MethodId} {args : Array Value} {below : List Frame} {meth : Method} {c : Code} {G : sj_G} {f0 : Nat} {f1 : Int32} {f2 : Int32} {Q : Int32 → sj_W → Prop} {QX : String → sj_W → Prop} {E : Int32 → sj_W → Prop} (hC : sj_C G p l s m args c cX6_fittingAhead RX6 5) (hD : sj_D meth c) (hr : meth.sig.returnType = (some .int)) (hin : meth.name = "fittingAhead") (hE : ∀ (v3 : Int32) (w : sj_W) (H : Heap) (locs : List Loc) (ls : Array Slot), lv_has ls 5 [(3, .int v3)] → sj_H G s w H locs → E v3 w → W p l e rm_X6_fittingAhead s m args below meth c H locs 0 0 (sj_MQ G below (va_Qi Q (sj_B G) (sj_F G)) QX args s rm_X6_fittingAhead) (F0 m 35 ls [])) : ∀ (n : Nat) (v3 : Int32) (v4 : Int32) (w : sj_W) (H : Heap) (locs : List Loc) (ls : Array Slot), lv_has ls 5 [(0, .ref f0), (1, .int f1), (2, .int f2), (3, .int v3), (4, .int v4)] → sj_H G s w H locs → sj_lp2 (vb_X6_fittingAhead_5 f0 f1 f2 Q E) n v3 v4 w → W p l e rm_X6_fittingAhead s m args below meth c H locs 0 0 (sj_MQ G below (va_Qi Q (sj_B G) (sj_F G)) QX args s rm_X6_fittingAhead) (F0 m 5 ls []) := by
  have hx := hC.1
  have hb := hC.2.1
  intro n
  induction n with
  | zero =>
    intro v3 v4 w H locs ls _ _ hv
    exact hv.elim
  | succ n ih =>
    intro v3 v4 w H locs ls hl hH hv
    have hv : vb_X6_fittingAhead_5 f0 f1 f2 Q E (sj_lp2 (vb_X6_fittingAhead_5 f0 f1 f2 Q E) n) v3 v4 w := hv
    have hc1 : rm_X6_fittingAhead.cells = 0 := rfl
    have hc2 : rm_X6_fittingAhead.slots = 0 := rfl
    refine lv_iload hx hb dX6_fittingAhead_5 (lv_at hl 4 rfl) ?_
    refine lv_iload_n hx hb dX6_fittingAhead_7 rfl (lv_at hl 2 rfl) ?_
    refine lv_icmp_ge (tgt := 35) hx hb dX6_fittingAhead_8 (by decide) (fun hc => ?_) (fun hc => ?_)
    · have hv1 := hv.1 hc
      exact hE v3 w _ _ _ (lv_sub hl [3] rfl) hH hv1
    · have hv2 := hv.2 hc
      refine lv_aload_n hx hb dX6_fittingAhead_11 rfl (lv_at hl 0 rfl) ?_
      refine lv_iload_n hx hb dX6_fittingAhead_12 rfl (lv_at hl 1 rfl) ?_
      refine lv_aload_n hx hb dX6_fittingAhead_13 rfl (lv_at hl 0 rfl) ?_
      refine gf_X6_17 hC hH hv2.1 hv2.2.1 dX6_fittingAhead_14 ?_
      refine lv_iload hx hb dX6_fittingAhead_17 (lv_at hl 4 rfl) ?_
      refine sj_aald hC hH hv2.2.2.1 hv2.2.2.2.1 hv2.2.2.2.2.1 dX6_fittingAhead_19 ?_
      refine cl_X6_108 hC hD hH hv2.2.2.2.2.2.2 hv2.2.2.2.2.2.1 ⟨Nat.le_of_ble_eq_true rfl, Nat.le_of_ble_eq_true rfl⟩ ⟨(Nat.le_of_ble_eq_true rfl), (Nat.le_of_ble_eq_true rfl)⟩ ⟨(Nat.le_of_ble_eq_true rfl), (Nat.le_of_ble_eq_true rfl)⟩ hl.1 (Nat.le_of_ble_eq_true rfl) dX6_fittingAhead_20 (fun r3 w4 H locs hH hv5 => ?_)
      refine lv_if_eq (tgt := 29) hx hb dX6_fittingAhead_23 (by decide) (fun hc => ?_) (fun hc => ?_)
      · have hv6 := hv5.1 hc
        refine lv_iinc (v := (v4 + 1)) (lv' := [(4, .int (v4 + 1)), (0, .ref f0), (1, .int f1), (2, .int f2), (3, .int v3)]) hx hb dX6_fittingAhead_29 hl (k := 4) rfl rfl (by decide) rfl (fun ls hl => ?_)
        refine lv_goto (tgt := 5) hx hb dX6_fittingAhead_32 (by decide) ?_
        exact ih v3 (v4 + 1) w4 _ _ _ (lv_sub hl [1, 2, 3, 4, 0] rfl) hH hv6
      · have hv7 := hv5.2 hc
        refine lv_iinc (v := (v3 + 1)) (lv' := [(3, .int (v3 + 1)), (0, .ref f0), (1, .int f1), (2, .int f2), (4, .int v4)]) hx hb dX6_fittingAhead_26 hl (k := 3) rfl rfl (by decide) rfl (fun ls hl => ?_)
        refine lv_iinc (v := (v4 + 1)) (lv' := [(4, .int (v4 + 1)), (3, .int (v3 + 1)), (0, .ref f0), (1, .int f1), (2, .int f2)]) hx hb dX6_fittingAhead_29 hl (k := 4) rfl rfl (by decide) rfl (fun ls hl => ?_)
        refine lv_goto (tgt := 5) hx hb dX6_fittingAhead_32 (by decide) ?_
        exact ih (v3 + 1) (v4 + 1) w4 _ _ _ (lv_sub hl [2, 3, 4, 1, 0] rfl) hH hv7
set_option maxHeartbeats 4000000 in
set_option maxRecDepth 100000 in
theorem wk_X6_fittingAhead (G : sj_G) (l : Launch) (hlt : l.stackTraces = false) (self : Nat) (a1 : Int32) (a2 : Int32) (w : sj_W) (Q : Int32 → sj_W → Prop) (QX : String → sj_W → Prop) (hv : vc_X6_fittingAhead self a1 a2 w Q) : sj_MI G l yX6_fittingAhead (sj_ws yX6_fittingAhead cX6_fittingAhead 5 (some .int)) rm_X6_fittingAhead [.ref self, .int a1, .int a2] w Q QX := by
  refine sj_of (by decide +kernel) (Nat.le_of_ble_eq_true rfl) hlt ?_
  intro p e s m args below meth c ls hC hD hr hin hH hl
  have hx := hC.1
  have hb := hC.2.1
  have hl : lv_has ls 5 [(0, .ref self), (1, .int a1), (2, .int a2)] := hl
  refine lv_iconst (v := 0) hx hb dX6_fittingAhead_0 (by decide) ?_
  refine lv_istore_n (lv' := [(3, .int 0), (0, .ref self), (1, .int a1), (2, .int a2)]) hx hb dX6_fittingAhead_1 rfl hl (by decide) rfl (fun ls hl => ?_)
  refine lv_iconst (v := 0) hx hb dX6_fittingAhead_2 (by decide) ?_
  refine lv_istore (lv' := [(4, .int 0), (3, .int 0), (0, .ref self), (1, .int a1), (2, .int a2)]) hx hb dX6_fittingAhead_3 hl (by decide) rfl (fun ls hl => ?_)
  refine wl_X6_fittingAhead_5 hC hD hr hin (fun z3_5 w_5 H locs ls hl hH hv8 => ?_) 64 0 0 w _ _ _ (lv_sub hl [2, 3, 4, 1, 0] rfl) hH hv
  refine lv_iload_n hx hb dX6_fittingAhead_35 rfl (lv_at hl 0 rfl) ?_
  exact sj_retI hC hD.2 hH hr rfl hv8 ⟨(Nat.le_of_ble_eq_true rfl), (Nat.le_of_ble_eq_true rfl)⟩ dX6_fittingAhead_36
section SJL_X6_fittingAhead
variable {p : Program} {l : Launch} {e : Env} {R : Room} {s : State} {m : MethodId} {args : Array Value} {below : List Frame} {meth : Method} {c : Code} {H : Heap} {locs : List Loc} {cells slots : Nat} {Q : State → Prop} {cc : ByteArray} {pc : Nat} {ls : Array Slot} {rest : List Value} {G : sj_G} {nL : Nat} {w : sj_W}
theorem cl_X6_189 {rmM : Room} {QcM : Array Value → State → Outcome → State → Prop} {QX : String → sj_W → Prop} {b : Nat} {b0 : Int32} {b1 : Int32} {Qi : Int32 → sj_W → Prop} (hC : sj_C G p l s m args c cc RX6 nL) (hD : sj_D meth c) (hH : sj_H G s w H locs) (hv : vc_X6_fittingAhead b b0 b1 w Qi) (hT : sj_T w b = 5) (hR : rm_X6_fittingAhead.frames + 1 ≤ R.frames ∧ 8 + (5 + 11) + rm_X6_fittingAhead.locals ≤ R.locals) (hf : cells + 0 ≤ R.cells ∧ slots + 0 ≤ R.slots) (hfM : cells + 0 ≤ rmM.cells ∧ slots + 0 ≤ rmM.slots) (hls : ls.size = nL) (hW : (rest.map fun v => v.category).sum ≤ 8) (hdg : decode cc pc = .ok (.invokevirtual 189, 3)) (kk : ∀ (r : Int32) (w1 : sj_W) (H : Heap) (locs : List Loc), sj_H G s w1 H locs → Qi r w1 → W p l e R s m args below meth c H locs (cells + 0) (slots + 0) (sj_MQ G below QcM QX args s rmM) (F0 m (pc + 3) ls (.int r :: rest))) : W p l e R s m args below meth c H locs cells slots (sj_MQ G below QcM QX args s rmM) (F0 m pc ls (.int b1 :: .int b0 :: .ref b :: rest)) :=
  sj_cI hD hH (sj_runV (n := 2) hC hH (As := [.int b0, .int b1]) (wk_X6_fittingAhead G l hC.2.2.2.2.2.2 b b0 b1 w Qi QX hv) (ci := 4) rfl (by decide) hT mb_597 mb_599 mb_s19 mb_1 mb_600 (by decide +kernel) hR hf rfl hls hW hdg) hfM kk
end SJL_X6_fittingAhead
abbrev rm_X6_sameAhead : Room := { frames := 3, cells := 16, slots := 48, locals := 65 }
def vb_X6_sameAhead_18 (f0 : Nat) (f1 : Int32) (f2 : Int32) (f3 : Nat) (Q : Int32 → sj_W → Prop) (E : Int32 → sj_W → Prop) (K : Int32 → Int32 → sj_W → Prop) (v4 : Int32) (v5 : Int32) (w : sj_W) : Prop := ((f2 ≤ v5 → E v4 w) ∧ (¬ f2 ≤ v5 → sj_T w f0 = 5 ∧ sj_A w 33 f0 ≠ 0 ∧ (sj_T w (sj_A w 33 f0) = 10 ∨ sj_T w (sj_A w 33 f0) = 11 ∨ sj_T w (sj_A w 33 f0) = 12) ∧ vp_in v5 (sj_N w (sj_A w 33 f0)) ∧ (sj_r w (sj_A w 33 f0) v5.toNatClampNeg) ≠ 0 ∧ sj_T w f0 = 5 ∧ vc_X6_isFitting f0 f1 (sj_r w (sj_A w 33 f0) v5.toNatClampNeg) w (fun r6 w7 => ((r6 = 0 → K v4 (v5 + 1) w7) ∧ (¬ r6 = 0 → sj_T w7 f0 = 5 ∧ sj_A w7 33 f0 ≠ 0 ∧ (sj_T w7 (sj_A w7 33 f0) = 10 ∨ sj_T w7 (sj_A w7 33 f0) = 11 ∨ sj_T w7 (sj_A w7 33 f0) = 12) ∧ vp_in v5 (sj_N w7 (sj_A w7 33 f0)) ∧ (sj_r w7 (sj_A w7 33 f0) v5.toNatClampNeg) ≠ 0 ∧ sj_T w7 f0 = 5 ∧ vc_X6_wordOf f0 f1 (sj_r w7 (sj_A w7 33 f0) v5.toNatClampNeg) w7 (fun r11 w12 => vc_X6_isSame r11 f3 w12 (fun r14 w15 => ((r14 = 0 → K v4 (v5 + 1) w15) ∧ (¬ r14 = 0 → K (v4 + 1) (v5 + 1) w15)))))))))
def vc_X6_sameAhead (self : Nat) (a1 : Int32) (a2 : Int32) (w : sj_W) (Q : Int32 → sj_W → Prop) : Prop := sj_T w self = 5 ∧ sj_A w 33 self ≠ 0 ∧ (sj_T w (sj_A w 33 self) = 10 ∨ sj_T w (sj_A w 33 self) = 11 ∨ sj_T w (sj_A w 33 self) = 12) ∧ vp_in a2 (sj_N w (sj_A w 33 self)) ∧ (sj_r w (sj_A w 33 self) a2.toNatClampNeg) ≠ 0 ∧ sj_T w self = 5 ∧ vc_X6_wordOf self a1 (sj_r w (sj_A w 33 self) a2.toNatClampNeg) w (fun r1 w2 => sj_lp2 (vb_X6_sameAhead_18 self a1 a2 r1 Q (fun z4_18 w_18 => Q z4_18 w_18)) 14 0 0 w2)
set_option maxHeartbeats 4000000 in
set_option maxRecDepth 100000 in
theorem wl_X6_sameAhead_18 {p : Program} {l : Launch} {e : Env} {s : State} {m : MethodId} {args : Array Value} {below : List Frame} {meth : Method} {c : Code} {G : sj_G} {f0 : Nat} {f1 : Int32} {f2 : Int32} {f3 : Nat} {Q : Int32 → sj_W → Prop} {QX : String → sj_W → Prop} {E : Int32 → sj_W → Prop} (hC : sj_C G p l s m args c cX6_sameAhead RX6 6) (hD : sj_D meth c) (hr : meth.sig.returnType = (some .int)) (hin : meth.name = "sameAhead") (hE : ∀ (v4 : Int32) (w : sj_W) (H : Heap) (locs : List Loc) (ls : Array Slot), lv_has ls 6 [(4, .int v4)] → sj_H G s w H locs → E v4 w → W p l e rm_X6_sameAhead s m args below meth c H locs 15 45 (sj_MQ G below (va_Qi Q (sj_B G) (sj_F G)) QX args s rm_X6_sameAhead) (F0 m 67 ls [])) : ∀ (n : Nat) (v4 : Int32) (v5 : Int32) (w : sj_W) (H : Heap) (locs : List Loc) (ls : Array Slot) (cells slots : Nat), cells + n * 1 ≤ 15 → slots + n * 3 ≤ 45 → lv_has ls 6 [(0, .ref f0), (1, .int f1), (2, .int f2), (3, .ref f3), (4, .int v4), (5, .int v5)] → sj_H G s w H locs → sj_lp2 (vb_X6_sameAhead_18 f0 f1 f2 f3 Q E) n v4 v5 w → W p l e rm_X6_sameAhead s m args below meth c H locs cells slots (sj_MQ G below (va_Qi Q (sj_B G) (sj_F G)) QX args s rm_X6_sameAhead) (F0 m 18 ls []) := by
  have hx := hC.1
  have hb := hC.2.1
  intro n
  induction n with
  | zero =>
    intro v4 v5 w H locs ls cells slots _ _ _ _ hv
    exact hv.elim
  | succ n ih =>
    intro v4 v5 w H locs ls cells slots hcc hcs hl hH hv
    have hv : vb_X6_sameAhead_18 f0 f1 f2 f3 Q E (sj_lp2 (vb_X6_sameAhead_18 f0 f1 f2 f3 Q E) n) v4 v5 w := hv
    have hc1 : rm_X6_sameAhead.cells = 16 := rfl
    have hc2 : rm_X6_sameAhead.slots = 48 := rfl
    refine lv_iload hx hb dX6_sameAhead_18 (lv_at hl 5 rfl) ?_
    refine lv_iload_n hx hb dX6_sameAhead_20 rfl (lv_at hl 2 rfl) ?_
    refine lv_icmp_ge (tgt := 67) hx hb dX6_sameAhead_21 (by decide) (fun hc => ?_) (fun hc => ?_)
    · have hv4 := hv.1 hc
      refine W.widen (k := 15) (n := 45) (by omega) (by omega) ?_
      exact hE v4 w _ _ _ (lv_sub hl [4] rfl) hH hv4
    · have hv5 := hv.2 hc
      refine lv_aload_n hx hb dX6_sameAhead_24 rfl (lv_at hl 0 rfl) ?_
      refine lv_iload_n hx hb dX6_sameAhead_25 rfl (lv_at hl 1 rfl) ?_
      refine lv_aload_n hx hb dX6_sameAhead_26 rfl (lv_at hl 0 rfl) ?_
      refine gf_X6_17 hC hH hv5.1 hv5.2.1 dX6_sameAhead_27 ?_
      refine lv_iload hx hb dX6_sameAhead_30 (lv_at hl 5 rfl) ?_
      refine sj_aald hC hH hv5.2.2.1 hv5.2.2.2.1 hv5.2.2.2.2.1 dX6_sameAhead_32 ?_
      refine cl_X6_108 hC hD hH hv5.2.2.2.2.2.2 hv5.2.2.2.2.2.1 ⟨Nat.le_of_ble_eq_true rfl, Nat.le_of_ble_eq_true rfl⟩ ⟨(by have hc1 : rm_X6_sameAhead.cells = 16 := rfl; omega), (by have hc1 : rm_X6_sameAhead.slots = 48 := rfl; omega)⟩ ⟨(by have hc1 : rm_X6_sameAhead.cells = 16 := rfl; omega), (by have hc1 : rm_X6_sameAhead.slots = 48 := rfl; omega)⟩ hl.1 (Nat.le_of_ble_eq_true rfl) dX6_sameAhead_33 (fun r6 w7 H locs hH hv8 => ?_)
      refine lv_if_eq (tgt := 61) hx hb dX6_sameAhead_36 (by decide) (fun hc => ?_) (fun hc => ?_)
      · have hv9 := hv8.1 hc
        refine lv_iinc (v := (v5 + 1)) (lv' := [(5, .int (v5 + 1)), (0, .ref f0), (1, .int f1), (2, .int f2), (3, .ref f3), (4, .int v4)]) hx hb dX6_sameAhead_61 hl (k := 5) rfl rfl (by decide) rfl (fun ls hl => ?_)
        refine lv_goto (tgt := 18) hx hb dX6_sameAhead_64 (by decide) ?_
        refine W.widen (k := cells + 1) (n := slots + 3) (by omega) (by omega) ?_
        exact ih v4 (v5 + 1) w7 _ _ _ _ _ (by omega) (by omega) (lv_sub hl [1, 2, 3, 4, 5, 0] rfl) hH hv9
      · have hv10 := hv8.2 hc
        refine lv_aload_n hx hb dX6_sameAhead_39 rfl (lv_at hl 0 rfl) ?_
        refine lv_iload_n hx hb dX6_sameAhead_40 rfl (lv_at hl 1 rfl) ?_
        refine lv_aload_n hx hb dX6_sameAhead_41 rfl (lv_at hl 0 rfl) ?_
        refine gf_X6_17 hC hH hv10.1 hv10.2.1 dX6_sameAhead_42 ?_
        refine lv_iload hx hb dX6_sameAhead_45 (lv_at hl 5 rfl) ?_
        refine sj_aald hC hH hv10.2.2.1 hv10.2.2.2.1 hv10.2.2.2.2.1 dX6_sameAhead_47 ?_
        refine cl_X6_137 hC hD hH hv10.2.2.2.2.2.2 hv10.2.2.2.2.2.1 ⟨Nat.le_of_ble_eq_true rfl, Nat.le_of_ble_eq_true rfl⟩ ⟨(by have hc1 : rm_X6_sameAhead.cells = 16 := rfl; omega), (by have hc1 : rm_X6_sameAhead.slots = 48 := rfl; omega)⟩ ⟨(by have hc1 : rm_X6_sameAhead.cells = 16 := rfl; omega), (by have hc1 : rm_X6_sameAhead.slots = 48 := rfl; omega)⟩ hl.1 (Nat.le_of_ble_eq_true rfl) dX6_sameAhead_48 (fun r11 w12 H locs hH hv13 => ?_)
        refine lv_aload_n hx hb dX6_sameAhead_51 rfl (lv_at hl 3 rfl) ?_
        refine cl_X6_243 hC hD hH hv13 ⟨Nat.le_of_ble_eq_true rfl, Nat.le_of_ble_eq_true rfl⟩ ⟨(by have hc1 : rm_X6_sameAhead.cells = 16 := rfl; omega), (by have hc1 : rm_X6_sameAhead.slots = 48 := rfl; omega)⟩ ⟨(by have hc1 : rm_X6_sameAhead.cells = 16 := rfl; omega), (by have hc1 : rm_X6_sameAhead.slots = 48 := rfl; omega)⟩ hl.1 (Nat.le_of_ble_eq_true rfl) dX6_sameAhead_52 (fun r14 w15 H locs hH hv16 => ?_)
        refine lv_if_eq (tgt := 61) hx hb dX6_sameAhead_55 (by decide) (fun hc => ?_) (fun hc => ?_)
        · have hv17 := hv16.1 hc
          refine lv_iinc (v := (v5 + 1)) (lv' := [(5, .int (v5 + 1)), (0, .ref f0), (1, .int f1), (2, .int f2), (3, .ref f3), (4, .int v4)]) hx hb dX6_sameAhead_61 hl (k := 5) rfl rfl (by decide) rfl (fun ls hl => ?_)
          refine lv_goto (tgt := 18) hx hb dX6_sameAhead_64 (by decide) ?_
          refine W.widen (k := cells + 1) (n := slots + 3) (by omega) (by omega) ?_
          exact ih v4 (v5 + 1) w15 _ _ _ _ _ (by omega) (by omega) (lv_sub hl [1, 2, 3, 4, 5, 0] rfl) hH hv17
        · have hv18 := hv16.2 hc
          refine lv_iinc (v := (v4 + 1)) (lv' := [(4, .int (v4 + 1)), (0, .ref f0), (1, .int f1), (2, .int f2), (3, .ref f3), (5, .int v5)]) hx hb dX6_sameAhead_58 hl (k := 4) rfl rfl (by decide) rfl (fun ls hl => ?_)
          refine lv_iinc (v := (v5 + 1)) (lv' := [(5, .int (v5 + 1)), (4, .int (v4 + 1)), (0, .ref f0), (1, .int f1), (2, .int f2), (3, .ref f3)]) hx hb dX6_sameAhead_61 hl (k := 5) rfl rfl (by decide) rfl (fun ls hl => ?_)
          refine lv_goto (tgt := 18) hx hb dX6_sameAhead_64 (by decide) ?_
          refine W.widen (k := cells + 1) (n := slots + 3) (by omega) (by omega) ?_
          exact ih (v4 + 1) (v5 + 1) w15 _ _ _ _ _ (by omega) (by omega) (lv_sub hl [2, 3, 4, 5, 1, 0] rfl) hH hv18
set_option maxHeartbeats 4000000 in
set_option maxRecDepth 100000 in
theorem wk_X6_sameAhead (G : sj_G) (l : Launch) (hlt : l.stackTraces = false) (self : Nat) (a1 : Int32) (a2 : Int32) (w : sj_W) (Q : Int32 → sj_W → Prop) (QX : String → sj_W → Prop) (hv : vc_X6_sameAhead self a1 a2 w Q) : sj_MI G l yX6_sameAhead (sj_ws yX6_sameAhead cX6_sameAhead 6 (some .int)) rm_X6_sameAhead [.ref self, .int a1, .int a2] w Q QX := by
  refine sj_of (by decide +kernel) (Nat.le_of_ble_eq_true rfl) hlt ?_
  intro p e s m args below meth c ls hC hD hr hin hH hl
  have hx := hC.1
  have hb := hC.2.1
  have hl : lv_has ls 6 [(0, .ref self), (1, .int a1), (2, .int a2)] := hl
  refine lv_aload_n hx hb dX6_sameAhead_0 rfl (lv_at hl 0 rfl) ?_
  refine lv_iload_n hx hb dX6_sameAhead_1 rfl (lv_at hl 1 rfl) ?_
  refine lv_aload_n hx hb dX6_sameAhead_2 rfl (lv_at hl 0 rfl) ?_
  refine gf_X6_17 hC hH hv.1 hv.2.1 dX6_sameAhead_3 ?_
  refine lv_iload_n hx hb dX6_sameAhead_6 rfl (lv_at hl 2 rfl) ?_
  refine sj_aald hC hH hv.2.2.1 hv.2.2.2.1 hv.2.2.2.2.1 dX6_sameAhead_7 ?_
  refine cl_X6_137 hC hD hH hv.2.2.2.2.2.2 hv.2.2.2.2.2.1 ⟨Nat.le_of_ble_eq_true rfl, Nat.le_of_ble_eq_true rfl⟩ ⟨(Nat.le_of_ble_eq_true rfl), (Nat.le_of_ble_eq_true rfl)⟩ ⟨(Nat.le_of_ble_eq_true rfl), (Nat.le_of_ble_eq_true rfl)⟩ hl.1 (Nat.le_of_ble_eq_true rfl) dX6_sameAhead_8 (fun r1 w2 H locs hH hv3 => ?_)
  refine lv_astore_n (lv' := [(3, .ref r1), (0, .ref self), (1, .int a1), (2, .int a2)]) hx hb dX6_sameAhead_11 rfl hl (by decide) rfl (fun ls hl => ?_)
  refine lv_iconst (v := 0) hx hb dX6_sameAhead_12 (by decide) ?_
  refine lv_istore (lv' := [(4, .int 0), (3, .ref r1), (0, .ref self), (1, .int a1), (2, .int a2)]) hx hb dX6_sameAhead_13 hl (by decide) rfl (fun ls hl => ?_)
  refine lv_iconst (v := 0) hx hb dX6_sameAhead_15 (by decide) ?_
  refine lv_istore (lv' := [(5, .int 0), (4, .int 0), (3, .ref r1), (0, .ref self), (1, .int a1), (2, .int a2)]) hx hb dX6_sameAhead_16 hl (by decide) rfl (fun ls hl => ?_)
  refine wl_X6_sameAhead_18 hC hD hr hin (fun z4_18 w_18 H locs ls hl hH hv19 => ?_) 14 0 0 w2 _ _ _ 1 3 (Nat.le_of_ble_eq_true rfl) (Nat.le_of_ble_eq_true rfl) (lv_sub hl [3, 4, 5, 2, 1, 0] rfl) hH hv3
  refine lv_iload hx hb dX6_sameAhead_67 (lv_at hl 0 rfl) ?_
  exact sj_retI hC hD.2 hH hr rfl hv19 ⟨(Nat.le_of_ble_eq_true rfl), (Nat.le_of_ble_eq_true rfl)⟩ dX6_sameAhead_69
section SJL_X6_sameAhead
variable {p : Program} {l : Launch} {e : Env} {R : Room} {s : State} {m : MethodId} {args : Array Value} {below : List Frame} {meth : Method} {c : Code} {H : Heap} {locs : List Loc} {cells slots : Nat} {Q : State → Prop} {cc : ByteArray} {pc : Nat} {ls : Array Slot} {rest : List Value} {G : sj_G} {nL : Nat} {w : sj_W}
theorem cl_X6_193 {rmM : Room} {QcM : Array Value → State → Outcome → State → Prop} {QX : String → sj_W → Prop} {b : Nat} {b0 : Int32} {b1 : Int32} {Qi : Int32 → sj_W → Prop} (hC : sj_C G p l s m args c cc RX6 nL) (hD : sj_D meth c) (hH : sj_H G s w H locs) (hv : vc_X6_sameAhead b b0 b1 w Qi) (hT : sj_T w b = 5) (hR : rm_X6_sameAhead.frames + 1 ≤ R.frames ∧ 8 + (6 + 11) + rm_X6_sameAhead.locals ≤ R.locals) (hf : cells + 16 ≤ R.cells ∧ slots + 48 ≤ R.slots) (hfM : cells + 16 ≤ rmM.cells ∧ slots + 48 ≤ rmM.slots) (hls : ls.size = nL) (hW : (rest.map fun v => v.category).sum ≤ 8) (hdg : decode cc pc = .ok (.invokevirtual 193, 3)) (kk : ∀ (r : Int32) (w1 : sj_W) (H : Heap) (locs : List Loc), sj_H G s w1 H locs → Qi r w1 → W p l e R s m args below meth c H locs (cells + 16) (slots + 48) (sj_MQ G below QcM QX args s rmM) (F0 m (pc + 3) ls (.int r :: rest))) : W p l e R s m args below meth c H locs cells slots (sj_MQ G below QcM QX args s rmM) (F0 m pc ls (.int b1 :: .int b0 :: .ref b :: rest)) :=
  sj_cI hD hH (sj_runV (n := 2) hC hH (As := [.int b0, .int b1]) (wk_X6_sameAhead G l hC.2.2.2.2.2.2 b b0 b1 w Qi QX hv) (ci := 4) rfl (by decide) hT mb_601 mb_603 mb_s20 mb_1 mb_604 (by decide +kernel) hR hf rfl hls hW hdg) hfM kk
end SJL_X6_sameAhead
abbrev rm_X6_share : Room := { frames := 7, cells := 241, slots := 726, locals := 102 }
def vb_X6_share_13 (f0 : Nat) (f2 : Int32) (Q : UInt32 → sj_W → Prop) (QX : String → sj_W → Prop) (E : Int32 → Int32 → sj_W → Prop) (K : Int32 → Int32 → Int32 → sj_W → Prop) (v3 : Int32) (v4 : Int32) (v5 : Int32) (w : sj_W) : Prop := ((12 ≤ v5 → E v3 v4 w) ∧ (¬ 12 ≤ v5 → sj_T w f0 = 5 ∧ sj_A w 33 f0 ≠ 0 ∧ (sj_T w (sj_A w 33 f0) = 10 ∨ sj_T w (sj_A w 33 f0) = 11 ∨ sj_T w (sj_A w 33 f0) = 12) ∧ vp_in v5 (sj_N w (sj_A w 33 f0)) ∧ (sj_r w (sj_A w 33 f0) v5.toNatClampNeg) ≠ 0 ∧ sj_T w f0 = 5 ∧ vc_X6_isFitting f0 f2 (sj_r w (sj_A w 33 f0) v5.toNatClampNeg) w (fun r6 w7 => ((r6 = 0 → K v3 v4 (v5 + 1) w7) ∧ (¬ r6 = 0 → sj_T w7 f0 = 5 ∧ vc_X6_fittingAhead f0 f2 v5 w7 (fun r11 w12 => sj_T w12 f0 = 5 ∧ vc_X6_sameAhead f0 f2 v5 w12 (fun r14 w15 => K (v3 + r11) (v4 + r14) (v5 + 1) w15)))))))
def vc_X6_share (self : Nat) (a1 : Int32) (w : sj_W) (Q : UInt32 → sj_W → Prop) (QX : String → sj_W → Prop) : Prop := vc_X6_kindOf a1 w (fun r1 w2 => sj_lp3 (vb_X6_share_13 self r1 Q QX (fun z3_13 z4_13 w_13 => ((¬ z3_13 = 0 → vf_n32 (FP.fdiv (FP.i2f z4_13) (FP.i2f z3_13)) ∧ Q (FP.fdiv (FP.i2f z4_13) (FP.i2f z3_13)) w_13) ∧ (z3_13 = 0 → QX "java/lang/IllegalStateException" w_13)))) 14 0 0 0 w2) QX
set_option maxHeartbeats 4000000 in
set_option maxRecDepth 100000 in
theorem wl_X6_share_13 {p : Program} {l : Launch} {e : Env} {s : State} {m : MethodId} {args : Array Value} {below : List Frame} {meth : Method} {c : Code} {G : sj_G} {f0 : Nat} {f2 : Int32} {Q : UInt32 → sj_W → Prop} {QX : String → sj_W → Prop} {E : Int32 → Int32 → sj_W → Prop} (hC : sj_C G p l s m args c cX6_share RX6 6) (hD : sj_D meth c) (hr : meth.sig.returnType = (some .float)) (hin : meth.name = "share") (hE : ∀ (v3 : Int32) (v4 : Int32) (w : sj_W) (H : Heap) (locs : List Loc) (ls : Array Slot), lv_has ls 6 [(3, .int v3), (4, .int v4)] → sj_H G s w H locs → E v3 v4 w → W p l e rm_X6_share s m args below meth c H locs 225 678 (sj_MQ G below (va_Qf Q (sj_B G) (sj_F G)) QX args s rm_X6_share) (F0 m 63 ls [])) : ∀ (n : Nat) (v3 : Int32) (v4 : Int32) (v5 : Int32) (w : sj_W) (H : Heap) (locs : List Loc) (ls : Array Slot) (cells slots : Nat), cells + n * 16 ≤ 225 → slots + n * 48 ≤ 678 → lv_has ls 6 [(0, .ref f0), (2, .int f2), (3, .int v3), (4, .int v4), (5, .int v5)] → sj_H G s w H locs → sj_lp3 (vb_X6_share_13 f0 f2 Q QX E) n v3 v4 v5 w → W p l e rm_X6_share s m args below meth c H locs cells slots (sj_MQ G below (va_Qf Q (sj_B G) (sj_F G)) QX args s rm_X6_share) (F0 m 13 ls []) := by
  have hx := hC.1
  have hb := hC.2.1
  intro n
  induction n with
  | zero =>
    intro v3 v4 v5 w H locs ls cells slots _ _ _ _ hv
    exact hv.elim
  | succ n ih =>
    intro v3 v4 v5 w H locs ls cells slots hcc hcs hl hH hv
    have hv : vb_X6_share_13 f0 f2 Q QX E (sj_lp3 (vb_X6_share_13 f0 f2 Q QX E) n) v3 v4 v5 w := hv
    have hc1 : rm_X6_share.cells = 241 := rfl
    have hc2 : rm_X6_share.slots = 726 := rfl
    refine lv_iload hx hb dX6_share_13 (lv_at hl 4 rfl) ?_
    refine lv_bipush (v := 12) hx hb dX6_share_15 (by decide) ?_
    refine lv_icmp_ge (tgt := 63) hx hb dX6_share_17 (by decide) (fun hc => ?_) (fun hc => ?_)
    · have hv4 := hv.1 hc
      refine W.widen (k := 225) (n := 678) (by omega) (by omega) ?_
      exact hE v3 v4 w _ _ _ (lv_sub hl [2, 3] rfl) hH hv4
    · have hv5 := hv.2 hc
      refine lv_aload_n hx hb dX6_share_20 rfl (lv_at hl 0 rfl) ?_
      refine lv_iload_n hx hb dX6_share_21 rfl (lv_at hl 1 rfl) ?_
      refine lv_aload_n hx hb dX6_share_22 rfl (lv_at hl 0 rfl) ?_
      refine gf_X6_17 hC hH hv5.1 hv5.2.1 dX6_share_23 ?_
      refine lv_iload hx hb dX6_share_26 (lv_at hl 4 rfl) ?_
      refine sj_aald hC hH hv5.2.2.1 hv5.2.2.2.1 hv5.2.2.2.2.1 dX6_share_28 ?_
      refine cl_X6_108 hC hD hH hv5.2.2.2.2.2.2 hv5.2.2.2.2.2.1 ⟨Nat.le_of_ble_eq_true rfl, Nat.le_of_ble_eq_true rfl⟩ ⟨(by have hc1 : rm_X6_share.cells = 241 := rfl; omega), (by have hc1 : rm_X6_share.slots = 726 := rfl; omega)⟩ ⟨(by have hc1 : rm_X6_share.cells = 241 := rfl; omega), (by have hc1 : rm_X6_share.slots = 726 := rfl; omega)⟩ hl.1 (Nat.le_of_ble_eq_true rfl) dX6_share_29 (fun r6 w7 H locs hH hv8 => ?_)
      refine lv_if_eq (tgt := 57) hx hb dX6_share_32 (by decide) (fun hc => ?_) (fun hc => ?_)
      · have hv9 := hv8.1 hc
        refine lv_iinc (v := (v5 + 1)) (lv' := [(5, .int (v5 + 1)), (0, .ref f0), (2, .int f2), (3, .int v3), (4, .int v4)]) hx hb dX6_share_57 hl (k := 4) rfl rfl (by decide) rfl (fun ls hl => ?_)
        refine lv_goto (tgt := 13) hx hb dX6_share_60 (by decide) ?_
        refine W.widen (k := cells + 16) (n := slots + 48) (by omega) (by omega) ?_
        exact ih v3 v4 (v5 + 1) w7 _ _ _ _ _ (by omega) (by omega) (lv_sub hl [1, 2, 3, 4, 0] rfl) hH hv9
      · have hv10 := hv8.2 hc
        refine lv_iload_n hx hb dX6_share_35 rfl (lv_at hl 2 rfl) ?_
        refine lv_aload_n hx hb dX6_share_36 rfl (lv_at hl 0 rfl) ?_
        refine lv_iload_n hx hb dX6_share_37 rfl (lv_at hl 1 rfl) ?_
        refine lv_iload hx hb dX6_share_38 (lv_at hl 4 rfl) ?_
        refine cl_X6_189 hC hD hH hv10.2 hv10.1 ⟨Nat.le_of_ble_eq_true rfl, Nat.le_of_ble_eq_true rfl⟩ ⟨(by have hc1 : rm_X6_share.cells = 241 := rfl; omega), (by have hc1 : rm_X6_share.slots = 726 := rfl; omega)⟩ ⟨(by have hc1 : rm_X6_share.cells = 241 := rfl; omega), (by have hc1 : rm_X6_share.slots = 726 := rfl; omega)⟩ hl.1 (Nat.le_of_ble_eq_true rfl) dX6_share_40 (fun r11 w12 H locs hH hv13 => ?_)
        refine lv_iadd hx hb dX6_share_43 ?_
        refine lv_istore_n (lv' := [(3, .int (v3 + r11)), (0, .ref f0), (2, .int f2), (4, .int v4), (5, .int v5)]) hx hb dX6_share_44 rfl hl (by decide) rfl (fun ls hl => ?_)
        refine lv_iload hx hb dX6_share_45 (lv_at hl 3 rfl) ?_
        refine lv_aload_n hx hb dX6_share_47 rfl (lv_at hl 1 rfl) ?_
        refine lv_iload_n hx hb dX6_share_48 rfl (lv_at hl 2 rfl) ?_
        refine lv_iload hx hb dX6_share_49 (lv_at hl 4 rfl) ?_
        refine cl_X6_193 hC hD hH hv13.2 hv13.1 ⟨Nat.le_of_ble_eq_true rfl, Nat.le_of_ble_eq_true rfl⟩ ⟨(by have hc1 : rm_X6_share.cells = 241 := rfl; omega), (by have hc1 : rm_X6_share.slots = 726 := rfl; omega)⟩ ⟨(by have hc1 : rm_X6_share.cells = 241 := rfl; omega), (by have hc1 : rm_X6_share.slots = 726 := rfl; omega)⟩ hl.1 (Nat.le_of_ble_eq_true rfl) dX6_share_51 (fun r14 w15 H locs hH hv16 => ?_)
        refine lv_iadd hx hb dX6_share_54 ?_
        refine lv_istore (lv' := [(4, .int (v4 + r14)), (3, .int (v3 + r11)), (0, .ref f0), (2, .int f2), (5, .int v5)]) hx hb dX6_share_55 hl (by decide) rfl (fun ls hl => ?_)
        refine lv_iinc (v := (v5 + 1)) (lv' := [(5, .int (v5 + 1)), (4, .int (v4 + r14)), (3, .int (v3 + r11)), (0, .ref f0), (2, .int f2)]) hx hb dX6_share_57 hl (k := 4) rfl rfl (by decide) rfl (fun ls hl => ?_)
        refine lv_goto (tgt := 13) hx hb dX6_share_60 (by decide) ?_
        refine W.widen (k := cells + 16) (n := slots + 48) (by omega) (by omega) ?_
        exact ih (v3 + r11) (v4 + r14) (v5 + 1) w15 _ _ _ _ _ (by omega) (by omega) (lv_sub hl [3, 4, 2, 1, 0] rfl) hH hv16
set_option maxHeartbeats 4000000 in
set_option maxRecDepth 100000 in
theorem wk_X6_share (G : sj_G) (l : Launch) (hlt : l.stackTraces = false) (self : Nat) (a1 : Int32) (w : sj_W) (Q : UInt32 → sj_W → Prop) (QX : String → sj_W → Prop) (hv : vc_X6_share self a1 w Q QX) : sj_MF G l yX6_share (sj_ws yX6_share cX6_share 6 (some .float)) rm_X6_share [.ref self, .int a1] w Q QX := by
  refine sj_of (by decide +kernel) (Nat.le_of_ble_eq_true rfl) hlt ?_
  intro p e s m args below meth c ls hC hD hr hin hH hl
  have hx := hC.1
  have hb := hC.2.1
  have hl : lv_has ls 6 [(0, .ref self), (1, .int a1)] := hl
  refine lv_iload_n hx hb dX6_share_0 rfl (lv_at hl 1 rfl) ?_
  refine cl_X6_34 hC hD hH hv ⟨Nat.le_of_ble_eq_true rfl, Nat.le_of_ble_eq_true rfl⟩ ⟨(Nat.le_of_ble_eq_true rfl), (Nat.le_of_ble_eq_true rfl)⟩ ⟨(Nat.le_of_ble_eq_true rfl), (Nat.le_of_ble_eq_true rfl)⟩ hl.1 (Nat.le_of_ble_eq_true rfl) dX6_share_1 (fun r1 w2 H locs hH hv3 => ?_)
  refine lv_istore_n (lv' := [(2, .int r1), (0, .ref self), (1, .int a1)]) hx hb dX6_share_4 rfl hl (by decide) rfl (fun ls hl => ?_)
  refine lv_iconst (v := 0) hx hb dX6_share_5 (by decide) ?_
  refine lv_istore_n (lv' := [(3, .int 0), (2, .int r1), (0, .ref self), (1, .int a1)]) hx hb dX6_share_6 rfl hl (by decide) rfl (fun ls hl => ?_)
  refine lv_iconst (v := 0) hx hb dX6_share_7 (by decide) ?_
  refine lv_istore (lv' := [(4, .int 0), (3, .int 0), (2, .int r1), (0, .ref self), (1, .int a1)]) hx hb dX6_share_8 hl (by decide) rfl (fun ls hl => ?_)
  refine lv_iconst (v := 0) hx hb dX6_share_10 (by decide) ?_
  refine lv_istore (lv' := [(5, .int 0), (4, .int 0), (3, .int 0), (2, .int r1), (0, .ref self), (1, .int a1)]) hx hb dX6_share_11 hl (by decide) rfl (fun ls hl => ?_)
  refine wl_X6_share_13 hC hD hr hin (fun z3_13 z4_13 w_13 H locs ls hl hH hv17 => ?_) 14 0 0 0 w2 _ _ _ 1 6 (Nat.le_of_ble_eq_true rfl) (Nat.le_of_ble_eq_true rfl) (lv_sub hl [4, 3, 2, 1, 0] rfl) hH hv3
  refine lv_iload_n hx hb dX6_share_63 rfl (lv_at hl 0 rfl) ?_
  refine lv_if_ne (tgt := 77) hx hb dX6_share_64 (by decide) (fun hc => ?_) (fun hc => ?_)
  · have hv18 := hv17.1 hc
    refine lv_iload hx hb dX6_share_77 (lv_at hl 1 rfl) ?_
    refine lv_i2f hx hb dX6_share_79 ?_
    refine lv_iload_n hx hb dX6_share_80 rfl (lv_at hl 0 rfl) ?_
    refine lv_i2f hx hb dX6_share_81 ?_
    refine lv_fdiv hx hb dX6_share_82 hv18.1 ?_
    exact sj_retF hC hD.2 hH hr hv18.2 ⟨(Nat.le_of_ble_eq_true rfl), (Nat.le_of_ble_eq_true rfl)⟩ dX6_share_83
  · have hv19 := hv17.2 hc
    exact th_X6_196_54 hC hD hH hl.1 dX6_share_67 dX6_share_70 dX6_share_71 dX6_share_73 dX6_share_76 ⟨Nat.le_of_ble_eq_true rfl, Nat.le_of_ble_eq_true rfl⟩ ⟨(Nat.le_of_ble_eq_true rfl), (Nat.le_of_ble_eq_true rfl)⟩ ⟨(Nat.le_of_ble_eq_true rfl), (Nat.le_of_ble_eq_true rfl)⟩ hv19
section SJL_X6_share
variable {p : Program} {l : Launch} {e : Env} {R : Room} {s : State} {m : MethodId} {args : Array Value} {below : List Frame} {meth : Method} {c : Code} {H : Heap} {locs : List Loc} {cells slots : Nat} {Q : State → Prop} {cc : ByteArray} {pc : Nat} {ls : Array Slot} {rest : List Value} {G : sj_G} {nL : Nat} {w : sj_W}
theorem cx_L_118 {QX : String → sj_W → Prop} {b : Nat} {b0 : Int32} {Qi : UInt32 → sj_W → Prop} (hC : sj_C G p l s m args c cc RL nL) (hH : sj_H G s w H locs) (hv : vc_X6_share b b0 w Qi QX) (hT : sj_T w b = 5) (hR : rm_X6_share.frames + 1 ≤ R.frames ∧ 8 + (6 + 11) + rm_X6_share.locals ≤ R.locals) (hf : cells + 241 ≤ R.cells ∧ slots + 726 ≤ R.slots) (hls : ls.size = nL) (hW : (rest.map fun v => v.category).sum ≤ 8) (hdg : decode cc pc = .ok (.invokevirtual 118, 3)) (kx : ∀ (E : String) (ce : Cell) (q9 : Addr) (w1 : sj_W) (H1 : Heap) (locs1 : List Loc), sj_H G s w1 H1 locs1 → QX E w1 → H1[q9]? = some ce → ce.vm = .none → s.vm.findClass E = some ce.cls → vx_W p l e R s m args below meth c H1 locs1 (cells + 241) (slots + 726) Q (F0 m pc ls rest) q9) (kk : ∀ (r : UInt32) (w1 : sj_W) (H : Heap) (locs : List Loc), sj_H G s w1 H locs → Qi r w1 → W p l e R s m args below meth c H locs (cells + 241) (slots + 726) Q (F0 m (pc + 3) ls (.float r :: rest))) : W p l e R s m args below meth c H locs cells slots Q (F0 m pc ls (.int b0 :: .ref b :: rest)) :=
  sj_xF hH (sj_runV (n := 1) hC hH (As := [.int b0]) (wk_X6_share G l hC.2.2.2.2.2.2 b b0 w Qi QX hv) (ci := 4) rfl (by decide) hT mb_593 mb_594 mb_595 mb_1 mb_596 (by decide +kernel) hR hf rfl hls hW hdg) kx kk
end SJL_X6_share
abbrev rm_X6_putIntoList : Room := { frames := 3, cells := 16, slots := 48, locals := 67 }
def vb_X6_putIntoList_19 (f0 : Nat) (f1 : Int32) (f2 : Int32) (f3 : Int32) (f4 : Nat) (Q : sj_W → Prop) (E : Int32 → sj_W → Prop) (K : Int32 → sj_W → Prop) (v5 : Int32) (w : sj_W) : Prop := ((v5 ≤ 0 → E v5 w) ∧ (¬ v5 ≤ 0 → sj_T w f0 = 5 ∧ sj_A w 33 f0 ≠ 0 ∧ sj_T w f0 = 5 ∧ sj_A w 34 f0 ≠ 0 ∧ sj_T w (sj_A w 34 f0) = 7 ∧ vp_in (v5 - 1) (sj_N w (sj_A w 34 f0)) ∧ (sj_T w (sj_A w 33 f0) = 10 ∨ sj_T w (sj_A w 33 f0) = 11 ∨ sj_T w (sj_A w 33 f0) = 12) ∧ vp_in (sj_i w (sj_A w 34 f0) (v5 - 1).toNatClampNeg) (sj_N w (sj_A w 33 f0)) ∧ (sj_r w (sj_A w 33 f0) (sj_i w (sj_A w 34 f0) (v5 - 1).toNatClampNeg).toNatClampNeg) ≠ 0 ∧ sj_T w f0 = 5 ∧ vc_X6_wordOf f0 f1 (sj_r w (sj_A w 33 f0) (sj_i w (sj_A w 34 f0) (v5 - 1).toNatClampNeg).toNatClampNeg) w (fun r6 w7 => vc_X6_compareWords r6 f4 f2 w7 (fun r9 w10 => ((r9 ≤ 0 → E v5 w10) ∧ (¬ r9 ≤ 0 → sj_T w10 f0 = 5 ∧ sj_A w10 34 f0 ≠ 0 ∧ sj_T w10 f0 = 5 ∧ sj_A w10 34 f0 ≠ 0 ∧ sj_T w10 (sj_A w10 34 f0) = 7 ∧ vp_in (v5 - 1) (sj_N w10 (sj_A w10 34 f0)) ∧ sj_T w10 (sj_A w10 34 f0) = 7 ∧ vp_in v5 (sj_N w10 (sj_A w10 34 f0)) ∧ ∀ w14 : sj_W, w14 = sj_si w10 (sj_A w10 34 f0) v5.toNatClampNeg (sj_i w10 (sj_A w10 34 f0) (v5 - 1).toNatClampNeg) → K (v5 + (-1)) w14))))))
def vc_X6_putIntoList (self : Nat) (a1 : Int32) (a2 : Int32) (a3 : Int32) (w : sj_W) (Q : sj_W → Prop) : Prop := sj_T w self = 5 ∧ sj_A w 33 self ≠ 0 ∧ (sj_T w (sj_A w 33 self) = 10 ∨ sj_T w (sj_A w 33 self) = 11 ∨ sj_T w (sj_A w 33 self) = 12) ∧ vp_in a3 (sj_N w (sj_A w 33 self)) ∧ (sj_r w (sj_A w 33 self) a3.toNatClampNeg) ≠ 0 ∧ sj_T w self = 5 ∧ vc_X6_wordOf self a1 (sj_r w (sj_A w 33 self) a3.toNatClampNeg) w (fun r1 w2 => sj_T w2 self = 5 ∧ sj_lp1 (vb_X6_putIntoList_19 self a1 a2 a3 r1 Q (fun z5_19 w_19 => sj_T w_19 self = 5 ∧ sj_A w_19 34 self ≠ 0 ∧ sj_T w_19 (sj_A w_19 34 self) = 7 ∧ vp_in z5_19 (sj_N w_19 (sj_A w_19 34 self)) ∧ ∀ w17 : sj_W, w17 = sj_si w_19 (sj_A w_19 34 self) z5_19.toNatClampNeg a3 → sj_T w17 self = 5 ∧ sj_T w17 self = 5 ∧ ∀ w19 : sj_W, w19 = sj_sI w17 36 self ((sj_I w17 36 self) + 1) → Q w19)) 14 (sj_I w2 36 self) w2)
set_option maxHeartbeats 4000000 in
set_option maxRecDepth 100000 in
theorem wl_X6_putIntoList_19 {p : Program} {l : Launch} {e : Env} {s : State} {m : MethodId} {args : Array Value} {below : List Frame} {meth : Method} {c : Code} {G : sj_G} {f0 : Nat} {f1 : Int32} {f2 : Int32} {f3 : Int32} {f4 : Nat} {Q : sj_W → Prop} {QX : String → sj_W → Prop} {E : Int32 → sj_W → Prop} (hC : sj_C G p l s m args c cX6_putIntoList RX6 6) (hD : sj_D meth c) (hr : meth.sig.returnType = none) (hin : meth.name = "putIntoList") (hE : ∀ (v5 : Int32) (w : sj_W) (H : Heap) (locs : List Loc) (ls : Array Slot), lv_has ls 6 [(0, .ref f0), (3, .int f3), (5, .int v5)] → sj_H G s w H locs → E v5 w → W p l e rm_X6_putIntoList s m args below meth c H locs 15 45 (sj_MQ G below (va_Qv Q (sj_B G) (sj_F G)) QX args s rm_X6_putIntoList) (F0 m 74 ls [])) : ∀ (n : Nat) (v5 : Int32) (w : sj_W) (H : Heap) (locs : List Loc) (ls : Array Slot) (cells slots : Nat), cells + n * 1 ≤ 15 → slots + n * 3 ≤ 45 → lv_has ls 6 [(0, .ref f0), (1, .int f1), (2, .int f2), (3, .int f3), (4, .ref f4), (5, .int v5)] → sj_H G s w H locs → sj_lp1 (vb_X6_putIntoList_19 f0 f1 f2 f3 f4 Q E) n v5 w → W p l e rm_X6_putIntoList s m args below meth c H locs cells slots (sj_MQ G below (va_Qv Q (sj_B G) (sj_F G)) QX args s rm_X6_putIntoList) (F0 m 19 ls []) := by
  have hx := hC.1
  have hb := hC.2.1
  intro n
  induction n with
  | zero =>
    intro v5 w H locs ls cells slots _ _ _ _ hv
    exact hv.elim
  | succ n ih =>
    intro v5 w H locs ls cells slots hcc hcs hl hH hv
    have hv : vb_X6_putIntoList_19 f0 f1 f2 f3 f4 Q E (sj_lp1 (vb_X6_putIntoList_19 f0 f1 f2 f3 f4 Q E) n) v5 w := hv
    have hc1 : rm_X6_putIntoList.cells = 16 := rfl
    have hc2 : rm_X6_putIntoList.slots = 48 := rfl
    refine lv_iload hx hb dX6_putIntoList_19 (lv_at hl 5 rfl) ?_
    refine lv_if_le (tgt := 74) hx hb dX6_putIntoList_21 (by decide) (fun hc => ?_) (fun hc => ?_)
    · have hv4 := hv.1 hc
      refine W.widen (k := 15) (n := 45) (by omega) (by omega) ?_
      exact hE v5 w _ _ _ (lv_sub hl [0, 3, 5] rfl) hH hv4
    · have hv5 := hv.2 hc
      refine lv_aload_n hx hb dX6_putIntoList_24 rfl (lv_at hl 0 rfl) ?_
      refine lv_iload_n hx hb dX6_putIntoList_25 rfl (lv_at hl 1 rfl) ?_
      refine lv_aload_n hx hb dX6_putIntoList_26 rfl (lv_at hl 0 rfl) ?_
      refine gf_X6_17 hC hH hv5.1 hv5.2.1 dX6_putIntoList_27 ?_
      refine lv_aload_n hx hb dX6_putIntoList_30 rfl (lv_at hl 0 rfl) ?_
      refine gf_X6_21 hC hH hv5.2.2.1 hv5.2.2.2.1 dX6_putIntoList_31 ?_
      refine lv_iload hx hb dX6_putIntoList_34 (lv_at hl 5 rfl) ?_
      refine lv_iconst (v := 1) hx hb dX6_putIntoList_36 (by decide) ?_
      refine lv_isub hx hb dX6_putIntoList_37 ?_
      refine sj_iald hC hH hv5.2.2.2.2.1 hv5.2.2.2.2.2.1 dX6_putIntoList_38 ?_
      refine sj_aald hC hH hv5.2.2.2.2.2.2.1 hv5.2.2.2.2.2.2.2.1 hv5.2.2.2.2.2.2.2.2.1 dX6_putIntoList_39 ?_
      refine cl_X6_137 hC hD hH hv5.2.2.2.2.2.2.2.2.2.2 hv5.2.2.2.2.2.2.2.2.2.1 ⟨Nat.le_of_ble_eq_true rfl, Nat.le_of_ble_eq_true rfl⟩ ⟨(by have hc1 : rm_X6_putIntoList.cells = 16 := rfl; omega), (by have hc1 : rm_X6_putIntoList.slots = 48 := rfl; omega)⟩ ⟨(by have hc1 : rm_X6_putIntoList.cells = 16 := rfl; omega), (by have hc1 : rm_X6_putIntoList.slots = 48 := rfl; omega)⟩ hl.1 (Nat.le_of_ble_eq_true rfl) dX6_putIntoList_40 (fun r6 w7 H locs hH hv8 => ?_)
      refine lv_aload hx hb dX6_putIntoList_43 (lv_at hl 4 rfl) ?_
      refine lv_iload_n hx hb dX6_putIntoList_45 rfl (lv_at hl 2 rfl) ?_
      refine cl_X6_140 hC hD hH hv8 ⟨Nat.le_of_ble_eq_true rfl, Nat.le_of_ble_eq_true rfl⟩ ⟨(by have hc1 : rm_X6_putIntoList.cells = 16 := rfl; omega), (by have hc1 : rm_X6_putIntoList.slots = 48 := rfl; omega)⟩ ⟨(by have hc1 : rm_X6_putIntoList.cells = 16 := rfl; omega), (by have hc1 : rm_X6_putIntoList.slots = 48 := rfl; omega)⟩ hl.1 (Nat.le_of_ble_eq_true rfl) dX6_putIntoList_46 (fun r9 w10 H locs hH hv11 => ?_)
      refine lv_if_le (tgt := 74) hx hb dX6_putIntoList_49 (by decide) (fun hc => ?_) (fun hc => ?_)
      · have hv12 := hv11.1 hc
        refine W.widen (k := 15) (n := 45) (by omega) (by omega) ?_
        exact hE v5 w10 _ _ _ (lv_sub hl [0, 3, 5] rfl) hH hv12
      · have hv13 := hv11.2 hc
        refine lv_aload_n hx hb dX6_putIntoList_52 rfl (lv_at hl 0 rfl) ?_
        refine gf_X6_21 hC hH hv13.1 hv13.2.1 dX6_putIntoList_53 ?_
        refine lv_iload hx hb dX6_putIntoList_56 (lv_at hl 5 rfl) ?_
        refine lv_aload_n hx hb dX6_putIntoList_58 rfl (lv_at hl 0 rfl) ?_
        refine gf_X6_21 hC hH hv13.2.2.1 hv13.2.2.2.1 dX6_putIntoList_59 ?_
        refine lv_iload hx hb dX6_putIntoList_62 (lv_at hl 5 rfl) ?_
        refine lv_iconst (v := 1) hx hb dX6_putIntoList_64 (by decide) ?_
        refine lv_isub hx hb dX6_putIntoList_65 ?_
        refine sj_iald hC hH hv13.2.2.2.2.1 hv13.2.2.2.2.2.1 dX6_putIntoList_66 ?_
        refine sj_iast hC hH hv13.2.2.2.2.2.2.1 hv13.2.2.2.2.2.2.2.1 dX6_putIntoList_67 (fun w14 H locs e15 hH => ?_)
        refine lv_iinc (v := (v5 + (-1))) (lv' := [(5, .int (v5 + (-1))), (0, .ref f0), (1, .int f1), (2, .int f2), (3, .int f3), (4, .ref f4)]) hx hb dX6_putIntoList_68 hl (k := 5) rfl rfl (by decide) rfl (fun ls hl => ?_)
        refine lv_goto (tgt := 19) hx hb dX6_putIntoList_71 (by decide) ?_
        refine W.widen (k := cells + 1) (n := slots + 3) (by omega) (by omega) ?_
        exact ih (v5 + (-1)) w14 _ _ _ _ _ (by omega) (by omega) (lv_sub hl [1, 2, 3, 4, 5, 0] rfl) hH (hv13.2.2.2.2.2.2.2.2 w14 e15)
set_option maxHeartbeats 4000000 in
set_option maxRecDepth 100000 in
theorem wk_X6_putIntoList (G : sj_G) (l : Launch) (hlt : l.stackTraces = false) (self : Nat) (a1 : Int32) (a2 : Int32) (a3 : Int32) (w : sj_W) (Q : sj_W → Prop) (QX : String → sj_W → Prop) (hv : vc_X6_putIntoList self a1 a2 a3 w Q) : sj_MV G l yX6_putIntoList (sj_ws yX6_putIntoList cX6_putIntoList 6 none) rm_X6_putIntoList [.ref self, .int a1, .int a2, .int a3] w Q QX := by
  refine sj_of (by decide +kernel) (Nat.le_of_ble_eq_true rfl) hlt ?_
  intro p e s m args below meth c ls hC hD hr hin hH hl
  have hx := hC.1
  have hb := hC.2.1
  have hl : lv_has ls 6 [(0, .ref self), (1, .int a1), (2, .int a2), (3, .int a3)] := hl
  refine lv_aload_n hx hb dX6_putIntoList_0 rfl (lv_at hl 0 rfl) ?_
  refine lv_iload_n hx hb dX6_putIntoList_1 rfl (lv_at hl 1 rfl) ?_
  refine lv_aload_n hx hb dX6_putIntoList_2 rfl (lv_at hl 0 rfl) ?_
  refine gf_X6_17 hC hH hv.1 hv.2.1 dX6_putIntoList_3 ?_
  refine lv_iload_n hx hb dX6_putIntoList_6 rfl (lv_at hl 3 rfl) ?_
  refine sj_aald hC hH hv.2.2.1 hv.2.2.2.1 hv.2.2.2.2.1 dX6_putIntoList_7 ?_
  refine cl_X6_137 hC hD hH hv.2.2.2.2.2.2 hv.2.2.2.2.2.1 ⟨Nat.le_of_ble_eq_true rfl, Nat.le_of_ble_eq_true rfl⟩ ⟨(Nat.le_of_ble_eq_true rfl), (Nat.le_of_ble_eq_true rfl)⟩ ⟨(Nat.le_of_ble_eq_true rfl), (Nat.le_of_ble_eq_true rfl)⟩ hl.1 (Nat.le_of_ble_eq_true rfl) dX6_putIntoList_8 (fun r1 w2 H locs hH hv3 => ?_)
  refine lv_astore (lv' := [(4, .ref r1), (0, .ref self), (1, .int a1), (2, .int a2), (3, .int a3)]) hx hb dX6_putIntoList_11 hl (by decide) rfl (fun ls hl => ?_)
  refine lv_aload_n hx hb dX6_putIntoList_13 rfl (lv_at hl 1 rfl) ?_
  refine gf_X6_144 hC hH hv3.1 dX6_putIntoList_14 ?_
  refine lv_istore (lv' := [(5, .int (sj_I w2 36 self)), (4, .ref r1), (0, .ref self), (1, .int a1), (2, .int a2), (3, .int a3)]) hx hb dX6_putIntoList_17 hl (by decide) rfl (fun ls hl => ?_)
  refine wl_X6_putIntoList_19 hC hD hr hin (fun z5_19 w_19 H locs ls hl hH hv16 => ?_) 14 (sj_I w2 36 self) w2 _ _ _ 1 3 (Nat.le_of_ble_eq_true rfl) (Nat.le_of_ble_eq_true rfl) (lv_sub hl [2, 3, 4, 5, 1, 0] rfl) hH hv3.2
  refine lv_aload_n hx hb dX6_putIntoList_74 rfl (lv_at hl 0 rfl) ?_
  refine gf_X6_21 hC hH hv16.1 hv16.2.1 dX6_putIntoList_75 ?_
  refine lv_iload hx hb dX6_putIntoList_78 (lv_at hl 2 rfl) ?_
  refine lv_iload_n hx hb dX6_putIntoList_80 rfl (lv_at hl 1 rfl) ?_
  refine sj_iast hC hH hv16.2.2.1 hv16.2.2.2.1 dX6_putIntoList_81 (fun w17 H locs e18 hH => ?_)
  refine lv_aload_n hx hb dX6_putIntoList_82 rfl (lv_at hl 0 rfl) ?_
  refine lv_dup hx hb dX6_putIntoList_83 rfl ?_
  refine gf_X6_144 hC hH (hv16.2.2.2.2 w17 e18).1 dX6_putIntoList_84 ?_
  refine lv_iconst (v := 1) hx hb dX6_putIntoList_87 (by decide) ?_
  refine lv_iadd hx hb dX6_putIntoList_88 ?_
  refine pf_X6_144 hC hH (hv16.2.2.2.2 w17 e18).2.1 dX6_putIntoList_89 (fun w19 H locs e20 hH => ?_)
  exact sj_retV hC hD.2 hH hr ((hv16.2.2.2.2 w17 e18).2.2 w19 e20) ⟨(Nat.le_of_ble_eq_true rfl), (Nat.le_of_ble_eq_true rfl)⟩ dX6_putIntoList_92
section SJL_X6_putIntoList
variable {p : Program} {l : Launch} {e : Env} {R : Room} {s : State} {m : MethodId} {args : Array Value} {below : List Frame} {meth : Method} {c : Code} {H : Heap} {locs : List Loc} {cells slots : Nat} {Q : State → Prop} {cc : ByteArray} {pc : Nat} {ls : Array Slot} {rest : List Value} {G : sj_G} {nL : Nat} {w : sj_W}
theorem cl_X6_147 {rmM : Room} {QcM : Array Value → State → Outcome → State → Prop} {QX : String → sj_W → Prop} {b : Nat} {b0 : Int32} {b1 : Int32} {b2 : Int32} {Qi : sj_W → Prop} (hC : sj_C G p l s m args c cc RX6 nL) (hD : sj_D meth c) (hH : sj_H G s w H locs) (hv : vc_X6_putIntoList b b0 b1 b2 w Qi) (hT : sj_T w b = 5) (hR : rm_X6_putIntoList.frames + 1 ≤ R.frames ∧ 8 + (6 + 11) + rm_X6_putIntoList.locals ≤ R.locals) (hf : cells + 16 ≤ R.cells ∧ slots + 48 ≤ R.slots) (hfM : cells + 16 ≤ rmM.cells ∧ slots + 48 ≤ rmM.slots) (hls : ls.size = nL) (hW : (rest.map fun v => v.category).sum ≤ 8) (hdg : decode cc pc = .ok (.invokevirtual 147, 3)) (kk : ∀ (w1 : sj_W) (H : Heap) (locs : List Loc), sj_H G s w1 H locs → Qi w1 → W p l e R s m args below meth c H locs (cells + 16) (slots + 48) (sj_MQ G below QcM QX args s rmM) (F0 m (pc + 3) ls rest)) : W p l e R s m args below meth c H locs cells slots (sj_MQ G below QcM QX args s rmM) (F0 m pc ls (.int b2 :: .int b1 :: .int b0 :: .ref b :: rest)) :=
  sj_cV hD hH (sj_runV (n := 3) hC hH (As := [.int b0, .int b1, .int b2]) (wk_X6_putIntoList G l hC.2.2.2.2.2.2 b b0 b1 b2 w Qi QX hv) (ci := 4) rfl (by decide) hT mb_463 mb_465 mb_s8 mb_1 mb_466 (by decide +kernel) hR hf rfl hls hW hdg) hfM kk
end SJL_X6_putIntoList
abbrev rm_X6_sort : Room := { frames := 7, cells := 242, slots := 732, locals := 102 }
def vb_X6_sort_19 (f0 : Nat) (f3 : Int32) (f4 : Int32) (Q : Int32 → sj_W → Prop) (QX : String → sj_W → Prop) (E : sj_W → Prop) (K : Int32 → sj_W → Prop) (v5 : Int32) (w : sj_W) : Prop := ((12 ≤ v5 → E w) ∧ (¬ 12 ≤ v5 → sj_T w f0 = 5 ∧ sj_A w 33 f0 ≠ 0 ∧ (sj_T w (sj_A w 33 f0) = 10 ∨ sj_T w (sj_A w 33 f0) = 11 ∨ sj_T w (sj_A w 33 f0) = 12) ∧ vp_in v5 (sj_N w (sj_A w 33 f0)) ∧ (sj_r w (sj_A w 33 f0) v5.toNatClampNeg) ≠ 0 ∧ sj_T w f0 = 5 ∧ vc_X6_isFitting f0 f3 (sj_r w (sj_A w 33 f0) v5.toNatClampNeg) w (fun r11 w12 => ((r11 = 0 → K (v5 + 1) w12) ∧ (¬ r11 = 0 → sj_T w12 f0 = 5 ∧ vc_X6_putIntoList f0 f3 f4 v5 w12 (fun w17 => K (v5 + 1) w17))))))
def vc_X6_sort (self : Nat) (a1 : Int32) (a2 : Int32) (w : sj_W) (Q : Int32 → sj_W → Prop) (QX : String → sj_W → Prop) : Prop := vc_X6_kindOf a1 w (fun r1 w2 => vc_X6_isUnsigned a2 w2 (fun r4 w5 => sj_T w5 self = 5 ∧ ∀ w7 : sj_W, w7 = sj_sI w5 36 self 0 → sj_lp1 (vb_X6_sort_19 self r1 r4 Q QX (fun w_19 => sj_T w_19 self = 5 ∧ Q (sj_I w_19 36 self) w_19)) 14 0 w7) QX) QX
set_option maxHeartbeats 4000000 in
set_option maxRecDepth 100000 in
theorem wl_X6_sort_19 {p : Program} {l : Launch} {e : Env} {s : State} {m : MethodId} {args : Array Value} {below : List Frame} {meth : Method} {c : Code} {G : sj_G} {f0 : Nat} {f3 : Int32} {f4 : Int32} {Q : Int32 → sj_W → Prop} {QX : String → sj_W → Prop} {E : sj_W → Prop} (hC : sj_C G p l s m args c cX6_sort RX6 6) (hD : sj_D meth c) (hr : meth.sig.returnType = (some .int)) (hin : meth.name = "sort") (hE : ∀ (w : sj_W) (H : Heap) (locs : List Loc) (ls : Array Slot), lv_has ls 6 [(0, .ref f0)] → sj_H G s w H locs → E w → W p l e rm_X6_sort s m args below meth c H locs 226 684 (sj_MQ G below (va_Qi Q (sj_B G) (sj_F G)) QX args s rm_X6_sort) (F0 m 56 ls [])) : ∀ (n : Nat) (v5 : Int32) (w : sj_W) (H : Heap) (locs : List Loc) (ls : Array Slot) (cells slots : Nat), cells + n * 16 ≤ 226 → slots + n * 48 ≤ 684 → lv_has ls 6 [(0, .ref f0), (3, .int f3), (4, .int f4), (5, .int v5)] → sj_H G s w H locs → sj_lp1 (vb_X6_sort_19 f0 f3 f4 Q QX E) n v5 w → W p l e rm_X6_sort s m args below meth c H locs cells slots (sj_MQ G below (va_Qi Q (sj_B G) (sj_F G)) QX args s rm_X6_sort) (F0 m 19 ls []) := by
  have hx := hC.1
  have hb := hC.2.1
  intro n
  induction n with
  | zero =>
    intro v5 w H locs ls cells slots _ _ _ _ hv
    exact hv.elim
  | succ n ih =>
    intro v5 w H locs ls cells slots hcc hcs hl hH hv
    have hv : vb_X6_sort_19 f0 f3 f4 Q QX E (sj_lp1 (vb_X6_sort_19 f0 f3 f4 Q QX E) n) v5 w := hv
    have hc1 : rm_X6_sort.cells = 242 := rfl
    have hc2 : rm_X6_sort.slots = 732 := rfl
    refine lv_iload hx hb dX6_sort_19 (lv_at hl 3 rfl) ?_
    refine lv_bipush (v := 12) hx hb dX6_sort_21 (by decide) ?_
    refine lv_icmp_ge (tgt := 56) hx hb dX6_sort_23 (by decide) (fun hc => ?_) (fun hc => ?_)
    · have hv9 := hv.1 hc
      refine W.widen (k := 226) (n := 684) (by omega) (by omega) ?_
      exact hE  w _ _ _ (lv_sub hl [0] rfl) hH hv9
    · have hv10 := hv.2 hc
      refine lv_aload_n hx hb dX6_sort_26 rfl (lv_at hl 0 rfl) ?_
      refine lv_iload_n hx hb dX6_sort_27 rfl (lv_at hl 1 rfl) ?_
      refine lv_aload_n hx hb dX6_sort_28 rfl (lv_at hl 0 rfl) ?_
      refine gf_X6_17 hC hH hv10.1 hv10.2.1 dX6_sort_29 ?_
      refine lv_iload hx hb dX6_sort_32 (lv_at hl 3 rfl) ?_
      refine sj_aald hC hH hv10.2.2.1 hv10.2.2.2.1 hv10.2.2.2.2.1 dX6_sort_34 ?_
      refine cl_X6_108 hC hD hH hv10.2.2.2.2.2.2 hv10.2.2.2.2.2.1 ⟨Nat.le_of_ble_eq_true rfl, Nat.le_of_ble_eq_true rfl⟩ ⟨(by have hc1 : rm_X6_sort.cells = 242 := rfl; omega), (by have hc1 : rm_X6_sort.slots = 732 := rfl; omega)⟩ ⟨(by have hc1 : rm_X6_sort.cells = 242 := rfl; omega), (by have hc1 : rm_X6_sort.slots = 732 := rfl; omega)⟩ hl.1 (Nat.le_of_ble_eq_true rfl) dX6_sort_35 (fun r11 w12 H locs hH hv13 => ?_)
      refine lv_if_eq (tgt := 50) hx hb dX6_sort_38 (by decide) (fun hc => ?_) (fun hc => ?_)
      · have hv14 := hv13.1 hc
        refine lv_iinc (v := (v5 + 1)) (lv' := [(5, .int (v5 + 1)), (0, .ref f0), (3, .int f3), (4, .int f4)]) hx hb dX6_sort_50 hl (k := 3) rfl rfl (by decide) rfl (fun ls hl => ?_)
        refine lv_goto (tgt := 19) hx hb dX6_sort_53 (by decide) ?_
        refine W.widen (k := cells + 16) (n := slots + 48) (by omega) (by omega) ?_
        exact ih (v5 + 1) w12 _ _ _ _ _ (by omega) (by omega) (lv_sub hl [1, 2, 3, 0] rfl) hH hv14
      · have hv15 := hv13.2 hc
        refine lv_aload_n hx hb dX6_sort_41 rfl (lv_at hl 0 rfl) ?_
        refine lv_iload_n hx hb dX6_sort_42 rfl (lv_at hl 1 rfl) ?_
        refine lv_iload hx hb dX6_sort_43 (lv_at hl 2 rfl) ?_
        refine lv_iload hx hb dX6_sort_45 (lv_at hl 3 rfl) ?_
        refine cl_X6_147 hC hD hH hv15.2 hv15.1 ⟨Nat.le_of_ble_eq_true rfl, Nat.le_of_ble_eq_true rfl⟩ ⟨(by have hc1 : rm_X6_sort.cells = 242 := rfl; omega), (by have hc1 : rm_X6_sort.slots = 732 := rfl; omega)⟩ ⟨(by have hc1 : rm_X6_sort.cells = 242 := rfl; omega), (by have hc1 : rm_X6_sort.slots = 732 := rfl; omega)⟩ hl.1 (Nat.le_of_ble_eq_true rfl) dX6_sort_47 (fun w17 H locs hH hv18 => ?_)
        refine lv_iinc (v := (v5 + 1)) (lv' := [(5, .int (v5 + 1)), (0, .ref f0), (3, .int f3), (4, .int f4)]) hx hb dX6_sort_50 hl (k := 3) rfl rfl (by decide) rfl (fun ls hl => ?_)
        refine lv_goto (tgt := 19) hx hb dX6_sort_53 (by decide) ?_
        refine W.widen (k := cells + 16) (n := slots + 48) (by omega) (by omega) ?_
        exact ih (v5 + 1) w17 _ _ _ _ _ (by omega) (by omega) (lv_sub hl [1, 2, 3, 0] rfl) hH hv18
set_option maxHeartbeats 4000000 in
set_option maxRecDepth 100000 in
theorem wk_X6_sort (G : sj_G) (l : Launch) (hlt : l.stackTraces = false) (self : Nat) (a1 : Int32) (a2 : Int32) (w : sj_W) (Q : Int32 → sj_W → Prop) (QX : String → sj_W → Prop) (hv : vc_X6_sort self a1 a2 w Q QX) : sj_MI G l yX6_sort (sj_ws yX6_sort cX6_sort 6 (some .int)) rm_X6_sort [.ref self, .int a1, .int a2] w Q QX := by
  refine sj_of (by decide +kernel) (Nat.le_of_ble_eq_true rfl) hlt ?_
  intro p e s m args below meth c ls hC hD hr hin hH hl
  have hx := hC.1
  have hb := hC.2.1
  have hl : lv_has ls 6 [(0, .ref self), (1, .int a1), (2, .int a2)] := hl
  refine lv_iload_n hx hb dX6_sort_0 rfl (lv_at hl 1 rfl) ?_
  refine cl_X6_34 hC hD hH hv ⟨Nat.le_of_ble_eq_true rfl, Nat.le_of_ble_eq_true rfl⟩ ⟨(Nat.le_of_ble_eq_true rfl), (Nat.le_of_ble_eq_true rfl)⟩ ⟨(Nat.le_of_ble_eq_true rfl), (Nat.le_of_ble_eq_true rfl)⟩ hl.1 (Nat.le_of_ble_eq_true rfl) dX6_sort_1 (fun r1 w2 H locs hH hv3 => ?_)
  refine lv_istore_n (lv' := [(3, .int r1), (0, .ref self), (1, .int a1), (2, .int a2)]) hx hb dX6_sort_4 rfl hl (by decide) rfl (fun ls hl => ?_)
  refine lv_iload_n hx hb dX6_sort_5 rfl (lv_at hl 3 rfl) ?_
  refine cl_X6_133 hC hD hH hv3 ⟨Nat.le_of_ble_eq_true rfl, Nat.le_of_ble_eq_true rfl⟩ ⟨(Nat.le_of_ble_eq_true rfl), (Nat.le_of_ble_eq_true rfl)⟩ ⟨(Nat.le_of_ble_eq_true rfl), (Nat.le_of_ble_eq_true rfl)⟩ hl.1 (Nat.le_of_ble_eq_true rfl) dX6_sort_6 (fun r4 w5 H locs hH hv6 => ?_)
  refine lv_istore (lv' := [(4, .int r4), (3, .int r1), (0, .ref self), (1, .int a1), (2, .int a2)]) hx hb dX6_sort_9 hl (by decide) rfl (fun ls hl => ?_)
  refine lv_aload_n hx hb dX6_sort_11 rfl (lv_at hl 2 rfl) ?_
  refine lv_iconst (v := 0) hx hb dX6_sort_12 (by decide) ?_
  refine pf_X6_144 hC hH hv6.1 dX6_sort_13 (fun w7 H locs e8 hH => ?_)
  refine lv_iconst (v := 0) hx hb dX6_sort_16 (by decide) ?_
  refine lv_istore (lv' := [(5, .int 0), (4, .int r4), (3, .int r1), (0, .ref self), (1, .int a1), (2, .int a2)]) hx hb dX6_sort_17 hl (by decide) rfl (fun ls hl => ?_)
  refine wl_X6_sort_19 hC hD hr hin (fun w_19 H locs ls hl hH hv19 => ?_) 14 0 w7 _ _ _ 2 12 (Nat.le_of_ble_eq_true rfl) (Nat.le_of_ble_eq_true rfl) (lv_sub hl [3, 2, 1, 0] rfl) hH (hv6.2 w7 e8)
  refine lv_aload_n hx hb dX6_sort_56 rfl (lv_at hl 0 rfl) ?_
  refine gf_X6_144 hC hH hv19.1 dX6_sort_57 ?_
  exact sj_retI hC hD.2 hH hr rfl hv19.2 ⟨(Nat.le_of_ble_eq_true rfl), (Nat.le_of_ble_eq_true rfl)⟩ dX6_sort_60
section SJL_X6_sort
variable {p : Program} {l : Launch} {e : Env} {R : Room} {s : State} {m : MethodId} {args : Array Value} {below : List Frame} {meth : Method} {c : Code} {H : Heap} {locs : List Loc} {cells slots : Nat} {Q : State → Prop} {cc : ByteArray} {pc : Nat} {ls : Array Slot} {rest : List Value} {G : sj_G} {nL : Nat} {w : sj_W}
theorem cx_L_79 {QX : String → sj_W → Prop} {b : Nat} {b0 : Int32} {b1 : Int32} {Qi : Int32 → sj_W → Prop} (hC : sj_C G p l s m args c cc RL nL) (hH : sj_H G s w H locs) (hv : vc_X6_sort b b0 b1 w Qi QX) (hT : sj_T w b = 5) (hR : rm_X6_sort.frames + 1 ≤ R.frames ∧ 8 + (6 + 11) + rm_X6_sort.locals ≤ R.locals) (hf : cells + 242 ≤ R.cells ∧ slots + 732 ≤ R.slots) (hls : ls.size = nL) (hW : (rest.map fun v => v.category).sum ≤ 8) (hdg : decode cc pc = .ok (.invokevirtual 79, 3)) (kx : ∀ (E : String) (ce : Cell) (q9 : Addr) (w1 : sj_W) (H1 : Heap) (locs1 : List Loc), sj_H G s w1 H1 locs1 → QX E w1 → H1[q9]? = some ce → ce.vm = .none → s.vm.findClass E = some ce.cls → vx_W p l e R s m args below meth c H1 locs1 (cells + 242) (slots + 732) Q (F0 m pc ls rest) q9) (kk : ∀ (r : Int32) (w1 : sj_W) (H : Heap) (locs : List Loc), sj_H G s w1 H locs → Qi r w1 → W p l e R s m args below meth c H locs (cells + 242) (slots + 732) Q (F0 m (pc + 3) ls (.int r :: rest))) : W p l e R s m args below meth c H locs cells slots Q (F0 m pc ls (.int b1 :: .int b0 :: .ref b :: rest)) :=
  sj_xI hH (sj_runV (n := 2) hC hH (As := [.int b0, .int b1]) (wk_X6_sort G l hC.2.2.2.2.2.2 b b0 b1 w Qi QX hv) (ci := 4) rfl (by decide) hT mb_459 mb_460 mb_461 mb_1 mb_462 (by decide +kernel) hR hf rfl hls hW hdg) kx kk
end SJL_X6_sort
abbrev rm_X6_sorted : Room := { frames := 7, cells := 1, slots := 6, locals := 103 }
def vc_X6_sorted (self : Nat) (a1 : Int32) (w : sj_W) (Q : Int32 → sj_W → Prop) (QX : String → sj_W → Prop) : Prop := sj_T w self = 5 ∧ vc_X6_wantPlace a1 (sj_I w 36 self) w (fun w2 => sj_T w2 self = 5 ∧ sj_A w2 34 self ≠ 0 ∧ sj_T w2 (sj_A w2 34 self) = 7 ∧ vp_in a1 (sj_N w2 (sj_A w2 34 self)) ∧ Q (sj_i w2 (sj_A w2 34 self) a1.toNatClampNeg) w2) QX
set_option maxHeartbeats 4000000 in
set_option maxRecDepth 100000 in
theorem wk_X6_sorted (G : sj_G) (l : Launch) (hlt : l.stackTraces = false) (self : Nat) (a1 : Int32) (w : sj_W) (Q : Int32 → sj_W → Prop) (QX : String → sj_W → Prop) (hv : vc_X6_sorted self a1 w Q QX) : sj_MI G l yX6_sorted (sj_ws yX6_sorted cX6_sorted 2 (some .int)) rm_X6_sorted [.ref self, .int a1] w Q QX := by
  refine sj_of (by decide +kernel) (Nat.le_of_ble_eq_true rfl) hlt ?_
  intro p e s m args below meth c ls hC hD hr hin hH hl
  have hx := hC.1
  have hb := hC.2.1
  have hl : lv_has ls 2 [(0, .ref self), (1, .int a1)] := hl
  refine lv_iload_n hx hb dX6_sorted_0 rfl (lv_at hl 1 rfl) ?_
  refine lv_aload_n hx hb dX6_sorted_1 rfl (lv_at hl 0 rfl) ?_
  refine gf_X6_144 hC hH hv.1 dX6_sorted_2 ?_
  refine cl_X6_61 hC hD hH hv.2 ⟨Nat.le_of_ble_eq_true rfl, Nat.le_of_ble_eq_true rfl⟩ ⟨(Nat.le_of_ble_eq_true rfl), (Nat.le_of_ble_eq_true rfl)⟩ ⟨(Nat.le_of_ble_eq_true rfl), (Nat.le_of_ble_eq_true rfl)⟩ hl.1 (Nat.le_of_ble_eq_true rfl) dX6_sorted_5 (fun w2 H locs hH hv3 => ?_)
  refine lv_aload_n hx hb dX6_sorted_8 rfl (lv_at hl 0 rfl) ?_
  refine gf_X6_21 hC hH hv3.1 hv3.2.1 dX6_sorted_9 ?_
  refine lv_iload_n hx hb dX6_sorted_12 rfl (lv_at hl 1 rfl) ?_
  refine sj_iald hC hH hv3.2.2.1 hv3.2.2.2.1 dX6_sorted_13 ?_
  exact sj_retI hC hD.2 hH hr rfl hv3.2.2.2.2 ⟨(Nat.le_of_ble_eq_true rfl), (Nat.le_of_ble_eq_true rfl)⟩ dX6_sorted_14
section SJL_X6_sorted
variable {p : Program} {l : Launch} {e : Env} {R : Room} {s : State} {m : MethodId} {args : Array Value} {below : List Frame} {meth : Method} {c : Code} {H : Heap} {locs : List Loc} {cells slots : Nat} {Q : State → Prop} {cc : ByteArray} {pc : Nat} {ls : Array Slot} {rest : List Value} {G : sj_G} {nL : Nat} {w : sj_W}
theorem cx_L_83 {QX : String → sj_W → Prop} {b : Nat} {b0 : Int32} {Qi : Int32 → sj_W → Prop} (hC : sj_C G p l s m args c cc RL nL) (hH : sj_H G s w H locs) (hv : vc_X6_sorted b b0 w Qi QX) (hT : sj_T w b = 5) (hR : rm_X6_sorted.frames + 1 ≤ R.frames ∧ 8 + (2 + 11) + rm_X6_sorted.locals ≤ R.locals) (hf : cells + 1 ≤ R.cells ∧ slots + 6 ≤ R.slots) (hls : ls.size = nL) (hW : (rest.map fun v => v.category).sum ≤ 8) (hdg : decode cc pc = .ok (.invokevirtual 83, 3)) (kx : ∀ (E : String) (ce : Cell) (q9 : Addr) (w1 : sj_W) (H1 : Heap) (locs1 : List Loc), sj_H G s w1 H1 locs1 → QX E w1 → H1[q9]? = some ce → ce.vm = .none → s.vm.findClass E = some ce.cls → vx_W p l e R s m args below meth c H1 locs1 (cells + 1) (slots + 6) Q (F0 m pc ls rest) q9) (kk : ∀ (r : Int32) (w1 : sj_W) (H : Heap) (locs : List Loc), sj_H G s w1 H locs → Qi r w1 → W p l e R s m args below meth c H locs (cells + 1) (slots + 6) Q (F0 m (pc + 3) ls (.int r :: rest))) : W p l e R s m args below meth c H locs cells slots Q (F0 m pc ls (.int b0 :: .ref b :: rest)) :=
  sj_xI hH (sj_runV (n := 1) hC hH (As := [.int b0]) (wk_X6_sorted G l hC.2.2.2.2.2.2 b b0 w Qi QX hv) (ci := 4) rfl (by decide) hT mb_470 mb_471 mb_472 mb_1 mb_473 (by decide +kernel) hR hf rfl hls hW hdg) kx kk
end SJL_X6_sorted
abbrev rm_X6_span : Room := { frames := 7, cells := 3, slots := 18, locals := 103 }
def vc_X6_span (self : Nat) (a1 : Int32) (a2 : Int32) (a3 : Int32) (a4 : Int32) (w : sj_W) (Q : Int32 → sj_W → Prop) (QX : String → sj_W → Prop) : Prop := sj_T w self = 5 ∧ vc_X6_spanOf self a1 w (fun r1 w2 => vc_X6_wantRow a2 w2 (fun w5 => ((a3 < 0 → QX "java/lang/IllegalArgumentException" w5) ∧ (¬ a3 < 0 → ((a4 < a3 → QX "java/lang/IllegalArgumentException" w5) ∧ (¬ a4 < a3 → ((a4 ≤ 32 → sj_T w5 r1 = 3 ∧ ∀ w12 : sj_W, w12 = sj_sI w5 16 r1 a2 → sj_T w12 r1 = 3 ∧ ∀ w14 : sj_W, w14 = sj_sI w12 17 r1 a3 → sj_T w14 r1 = 3 ∧ ∀ w16 : sj_W, w16 = sj_sI w14 18 r1 a4 → Q (a4 - a3) w16) ∧ (¬ a4 ≤ 32 → QX "java/lang/IllegalArgumentException" w5))))))) QX) QX
set_option maxHeartbeats 4000000 in
set_option maxRecDepth 100000 in
theorem wk_X6_span (G : sj_G) (l : Launch) (hlt : l.stackTraces = false) (self : Nat) (a1 : Int32) (a2 : Int32) (a3 : Int32) (a4 : Int32) (w : sj_W) (Q : Int32 → sj_W → Prop) (QX : String → sj_W → Prop) (hv : vc_X6_span self a1 a2 a3 a4 w Q QX) : sj_MI G l yX6_span (sj_ws yX6_span cX6_span 6 (some .int)) rm_X6_span [.ref self, .int a1, .int a2, .int a3, .int a4] w Q QX := by
  refine sj_of (by decide +kernel) (Nat.le_of_ble_eq_true rfl) hlt ?_
  intro p e s m args below meth c ls hC hD hr hin hH hl
  have hx := hC.1
  have hb := hC.2.1
  have hl : lv_has ls 6 [(0, .ref self), (1, .int a1), (2, .int a2), (3, .int a3), (4, .int a4)] := hl
  refine lv_aload_n hx hb dX6_span_0 rfl (lv_at hl 0 rfl) ?_
  refine lv_iload_n hx hb dX6_span_1 rfl (lv_at hl 1 rfl) ?_
  refine cl_X6_89 hC hD hH hv.2 hv.1 ⟨Nat.le_of_ble_eq_true rfl, Nat.le_of_ble_eq_true rfl⟩ ⟨(Nat.le_of_ble_eq_true rfl), (Nat.le_of_ble_eq_true rfl)⟩ ⟨(Nat.le_of_ble_eq_true rfl), (Nat.le_of_ble_eq_true rfl)⟩ hl.1 (Nat.le_of_ble_eq_true rfl) dX6_span_2 (fun r1 w2 H locs hH hv3 => ?_)
  refine lv_astore (lv' := [(5, .ref r1), (0, .ref self), (1, .int a1), (2, .int a2), (3, .int a3), (4, .int a4)]) hx hb dX6_span_5 hl (by decide) rfl (fun ls hl => ?_)
  refine lv_iload_n hx hb dX6_span_7 rfl (lv_at hl 3 rfl) ?_
  refine cl_X6_93 hC hD hH hv3 ⟨Nat.le_of_ble_eq_true rfl, Nat.le_of_ble_eq_true rfl⟩ ⟨(Nat.le_of_ble_eq_true rfl), (Nat.le_of_ble_eq_true rfl)⟩ ⟨(Nat.le_of_ble_eq_true rfl), (Nat.le_of_ble_eq_true rfl)⟩ hl.1 (Nat.le_of_ble_eq_true rfl) dX6_span_8 (fun w5 H locs hH hv6 => ?_)
  refine lv_iload_n hx hb dX6_span_11 rfl (lv_at hl 4 rfl) ?_
  refine lv_if_lt (tgt := 28) hx hb dX6_span_12 (by decide) (fun hc => ?_) (fun hc => ?_)
  · have hv7 := hv6.1 hc
    exact th_X6_74_69 hC hD hH hl.1 dX6_span_28 dX6_span_31 dX6_span_32 dX6_span_34 dX6_span_37 ⟨Nat.le_of_ble_eq_true rfl, Nat.le_of_ble_eq_true rfl⟩ ⟨(Nat.le_of_ble_eq_true rfl), (Nat.le_of_ble_eq_true rfl)⟩ ⟨(Nat.le_of_ble_eq_true rfl), (Nat.le_of_ble_eq_true rfl)⟩ hv7
  · have hv8 := hv6.2 hc
    refine lv_iload hx hb dX6_span_15 (lv_at hl 5 rfl) ?_
    refine lv_iload_n hx hb dX6_span_17 rfl (lv_at hl 4 rfl) ?_
    refine lv_icmp_lt (tgt := 28) hx hb dX6_span_18 (by decide) (fun hc => ?_) (fun hc => ?_)
    · have hv9 := hv8.1 hc
      exact th_X6_74_69 hC hD hH hl.1 dX6_span_28 dX6_span_31 dX6_span_32 dX6_span_34 dX6_span_37 ⟨Nat.le_of_ble_eq_true rfl, Nat.le_of_ble_eq_true rfl⟩ ⟨(Nat.le_of_ble_eq_true rfl), (Nat.le_of_ble_eq_true rfl)⟩ ⟨(Nat.le_of_ble_eq_true rfl), (Nat.le_of_ble_eq_true rfl)⟩ hv9
    · have hv10 := hv8.2 hc
      refine lv_iload hx hb dX6_span_21 (lv_at hl 5 rfl) ?_
      refine lv_bipush (v := 32) hx hb dX6_span_23 (by decide) ?_
      refine lv_icmp_le (tgt := 38) hx hb dX6_span_25 (by decide) (fun hc => ?_) (fun hc => ?_)
      · have hv11 := hv10.1 hc
        refine lv_aload hx hb dX6_span_38 (lv_at hl 0 rfl) ?_
        refine lv_iload_n hx hb dX6_span_40 rfl (lv_at hl 3 rfl) ?_
        refine pf_X6_97 hC hH hv11.1 dX6_span_41 (fun w12 H locs e13 hH => ?_)
        refine lv_aload hx hb dX6_span_44 (lv_at hl 0 rfl) ?_
        refine lv_iload_n hx hb dX6_span_46 rfl (lv_at hl 4 rfl) ?_
        refine pf_X6_100 hC hH (hv11.2 w12 e13).1 dX6_span_47 (fun w14 H locs e15 hH => ?_)
        refine lv_aload hx hb dX6_span_50 (lv_at hl 0 rfl) ?_
        refine lv_iload hx hb dX6_span_52 (lv_at hl 5 rfl) ?_
        refine pf_X6_103 hC hH ((hv11.2 w12 e13).2 w14 e15).1 dX6_span_54 (fun w16 H locs e17 hH => ?_)
        refine lv_iload hx hb dX6_span_57 (lv_at hl 5 rfl) ?_
        refine lv_iload_n hx hb dX6_span_59 rfl (lv_at hl 4 rfl) ?_
        refine lv_isub hx hb dX6_span_60 ?_
        exact sj_retI hC hD.2 hH hr rfl (((hv11.2 w12 e13).2 w14 e15).2 w16 e17) ⟨(Nat.le_of_ble_eq_true rfl), (Nat.le_of_ble_eq_true rfl)⟩ dX6_span_61
      · have hv18 := hv10.2 hc
        exact th_X6_74_69 hC hD hH hl.1 dX6_span_28 dX6_span_31 dX6_span_32 dX6_span_34 dX6_span_37 ⟨Nat.le_of_ble_eq_true rfl, Nat.le_of_ble_eq_true rfl⟩ ⟨(Nat.le_of_ble_eq_true rfl), (Nat.le_of_ble_eq_true rfl)⟩ ⟨(Nat.le_of_ble_eq_true rfl), (Nat.le_of_ble_eq_true rfl)⟩ hv18
section SJL_X6_span
variable {p : Program} {l : Launch} {e : Env} {R : Room} {s : State} {m : MethodId} {args : Array Value} {below : List Frame} {meth : Method} {c : Code} {H : Heap} {locs : List Loc} {cells slots : Nat} {Q : State → Prop} {cc : ByteArray} {pc : Nat} {ls : Array Slot} {rest : List Value} {G : sj_G} {nL : Nat} {w : sj_W}
theorem cx_L_49 {QX : String → sj_W → Prop} {b : Nat} {b0 : Int32} {b1 : Int32} {b2 : Int32} {b3 : Int32} {Qi : Int32 → sj_W → Prop} (hC : sj_C G p l s m args c cc RL nL) (hH : sj_H G s w H locs) (hv : vc_X6_span b b0 b1 b2 b3 w Qi QX) (hT : sj_T w b = 5) (hR : rm_X6_span.frames + 1 ≤ R.frames ∧ 8 + (6 + 11) + rm_X6_span.locals ≤ R.locals) (hf : cells + 3 ≤ R.cells ∧ slots + 18 ≤ R.slots) (hls : ls.size = nL) (hW : (rest.map fun v => v.category).sum ≤ 8) (hdg : decode cc pc = .ok (.invokevirtual 49, 3)) (kx : ∀ (E : String) (ce : Cell) (q9 : Addr) (w1 : sj_W) (H1 : Heap) (locs1 : List Loc), sj_H G s w1 H1 locs1 → QX E w1 → H1[q9]? = some ce → ce.vm = .none → s.vm.findClass E = some ce.cls → vx_W p l e R s m args below meth c H1 locs1 (cells + 3) (slots + 18) Q (F0 m pc ls rest) q9) (kk : ∀ (r : Int32) (w1 : sj_W) (H : Heap) (locs : List Loc), sj_H G s w1 H locs → Qi r w1 → W p l e R s m args below meth c H locs (cells + 3) (slots + 18) Q (F0 m (pc + 3) ls (.int r :: rest))) : W p l e R s m args below meth c H locs cells slots Q (F0 m pc ls (.int b3 :: .int b2 :: .int b1 :: .int b0 :: .ref b :: rest)) :=
  sj_xI hH (sj_runV (n := 4) hC hH (As := [.int b0, .int b1, .int b2, .int b3]) (wk_X6_span G l hC.2.2.2.2.2.2 b b0 b1 b2 b3 w Qi QX hv) (ci := 4) rfl (by decide) hT mb_330 mb_331 mb_332 mb_1 mb_333 (by decide +kernel) hR hf rfl hls hW hdg) kx kk
end SJL_X6_span
abbrev rm_X6_tells : Room := { frames := 7, cells := 2, slots := 12, locals := 103 }
def vc_X6_tells (self : Nat) (a1 : Int32) (a2 : Int32) (w : sj_W) (Q : Int32 → sj_W → Prop) (QX : String → sj_W → Prop) : Prop := sj_T w self = 5 ∧ vc_X6_spanOf self a1 w (fun r1 w2 => ((a2 = 102 → sj_T w2 r1 = 3 ∧ Q (sj_I w2 17 r1) w2) ∧ (a2 = 114 → sj_T w2 r1 = 3 ∧ Q (sj_I w2 16 r1) w2) ∧ (a2 = 116 → sj_T w2 r1 = 3 ∧ Q (sj_I w2 18 r1) w2) ∧ (¬ a2 = 102 ∧ ¬ a2 = 114 ∧ ¬ a2 = 116 → QX "java/lang/IllegalArgumentException" w2))) QX
set_option maxHeartbeats 4000000 in
set_option maxRecDepth 100000 in
theorem wk_X6_tells (G : sj_G) (l : Launch) (hlt : l.stackTraces = false) (self : Nat) (a1 : Int32) (a2 : Int32) (w : sj_W) (Q : Int32 → sj_W → Prop) (QX : String → sj_W → Prop) (hv : vc_X6_tells self a1 a2 w Q QX) : sj_MI G l yX6_tells (sj_ws yX6_tells cX6_tells 4 (some .int)) rm_X6_tells [.ref self, .int a1, .int a2] w Q QX := by
  refine sj_of (by decide +kernel) (Nat.le_of_ble_eq_true rfl) hlt ?_
  intro p e s m args below meth c ls hC hD hr hin hH hl
  have hx := hC.1
  have hb := hC.2.1
  have hl : lv_has ls 4 [(0, .ref self), (1, .int a1), (2, .int a2)] := hl
  refine lv_aload_n hx hb dX6_tells_0 rfl (lv_at hl 0 rfl) ?_
  refine lv_iload_n hx hb dX6_tells_1 rfl (lv_at hl 1 rfl) ?_
  refine cl_X6_89 hC hD hH hv.2 hv.1 ⟨Nat.le_of_ble_eq_true rfl, Nat.le_of_ble_eq_true rfl⟩ ⟨(Nat.le_of_ble_eq_true rfl), (Nat.le_of_ble_eq_true rfl)⟩ ⟨(Nat.le_of_ble_eq_true rfl), (Nat.le_of_ble_eq_true rfl)⟩ hl.1 (Nat.le_of_ble_eq_true rfl) dX6_tells_2 (fun r1 w2 H locs hH hv3 => ?_)
  refine lv_astore_n (lv' := [(3, .ref r1), (0, .ref self), (1, .int a1), (2, .int a2)]) hx hb dX6_tells_5 rfl hl (by decide) rfl (fun ls hl => ?_)
  refine lv_iload_n hx hb dX6_tells_6 rfl (lv_at hl 3 rfl) ?_
  by_cases hc0 : a2 = 102
  · have hv4 := hv3.1 hc0
    refine lv_lookup (off := 38) (tgt := 45) hx hb dX6_tells_7 (by decide) (by rw [hc0]; decide) (by decide) ?_
    refine lv_aload_n hx hb dX6_tells_45 rfl (lv_at hl 0 rfl) ?_
    refine gf_X6_100 hC hH hv4.1 dX6_tells_46 ?_
    exact sj_retI hC hD.2 hH hr rfl hv4.2 ⟨(Nat.le_of_ble_eq_true rfl), (Nat.le_of_ble_eq_true rfl)⟩ dX6_tells_49
  · skip
    by_cases hc1 : a2 = 114
    · have hv5 := hv3.2.1 hc1
      refine lv_lookup (off := 33) (tgt := 40) hx hb dX6_tells_7 (by decide) (by rw [hc1]; decide) (by decide) ?_
      refine lv_aload_n hx hb dX6_tells_40 rfl (lv_at hl 0 rfl) ?_
      refine gf_X6_97 hC hH hv5.1 dX6_tells_41 ?_
      exact sj_retI hC hD.2 hH hr rfl hv5.2 ⟨(Nat.le_of_ble_eq_true rfl), (Nat.le_of_ble_eq_true rfl)⟩ dX6_tells_44
    · skip
      by_cases hc2 : a2 = 116
      · have hv6 := hv3.2.2.1 hc2
        refine lv_lookup (off := 43) (tgt := 50) hx hb dX6_tells_7 (by decide) (by rw [hc2]; decide) (by decide) ?_
        refine lv_aload_n hx hb dX6_tells_50 rfl (lv_at hl 0 rfl) ?_
        refine gf_X6_103 hC hH hv6.1 dX6_tells_51 ?_
        exact sj_retI hC hD.2 hH hr rfl hv6.2 ⟨(Nat.le_of_ble_eq_true rfl), (Nat.le_of_ble_eq_true rfl)⟩ dX6_tells_54
      · skip
        have hv7 := hv3.2.2.2 ⟨hc0, hc1, hc2⟩
        refine lv_lookup (off := 48) (tgt := 55) hx hb dX6_tells_7 (by decide) (sj_off3 (sj_ne hc0 (by decide)) (sj_ne hc1 (by decide)) (sj_ne hc2 (by decide))) (by decide) ?_
        exact th_X6_106_69 hC hD hH hl.1 dX6_tells_55 dX6_tells_58 dX6_tells_59 dX6_tells_61 dX6_tells_64 ⟨Nat.le_of_ble_eq_true rfl, Nat.le_of_ble_eq_true rfl⟩ ⟨(Nat.le_of_ble_eq_true rfl), (Nat.le_of_ble_eq_true rfl)⟩ ⟨(Nat.le_of_ble_eq_true rfl), (Nat.le_of_ble_eq_true rfl)⟩ hv7
section SJL_X6_tells
variable {p : Program} {l : Launch} {e : Env} {R : Room} {s : State} {m : MethodId} {args : Array Value} {below : List Frame} {meth : Method} {c : Code} {H : Heap} {locs : List Loc} {cells slots : Nat} {Q : State → Prop} {cc : ByteArray} {pc : Nat} {ls : Array Slot} {rest : List Value} {G : sj_G} {nL : Nat} {w : sj_W}
theorem cx_L_53 {QX : String → sj_W → Prop} {b : Nat} {b0 : Int32} {b1 : Int32} {Qi : Int32 → sj_W → Prop} (hC : sj_C G p l s m args c cc RL nL) (hH : sj_H G s w H locs) (hv : vc_X6_tells b b0 b1 w Qi QX) (hT : sj_T w b = 5) (hR : rm_X6_tells.frames + 1 ≤ R.frames ∧ 8 + (4 + 11) + rm_X6_tells.locals ≤ R.locals) (hf : cells + 2 ≤ R.cells ∧ slots + 12 ≤ R.slots) (hls : ls.size = nL) (hW : (rest.map fun v => v.category).sum ≤ 8) (hdg : decode cc pc = .ok (.invokevirtual 53, 3)) (kx : ∀ (E : String) (ce : Cell) (q9 : Addr) (w1 : sj_W) (H1 : Heap) (locs1 : List Loc), sj_H G s w1 H1 locs1 → QX E w1 → H1[q9]? = some ce → ce.vm = .none → s.vm.findClass E = some ce.cls → vx_W p l e R s m args below meth c H1 locs1 (cells + 2) (slots + 12) Q (F0 m pc ls rest) q9) (kk : ∀ (r : Int32) (w1 : sj_W) (H : Heap) (locs : List Loc), sj_H G s w1 H locs → Qi r w1 → W p l e R s m args below meth c H locs (cells + 2) (slots + 12) Q (F0 m (pc + 3) ls (.int r :: rest))) : W p l e R s m args below meth c H locs cells slots Q (F0 m pc ls (.int b1 :: .int b0 :: .ref b :: rest)) :=
  sj_xI hH (sj_runV (n := 2) hC hH (As := [.int b0, .int b1]) (wk_X6_tells G l hC.2.2.2.2.2.2 b b0 b1 w Qi QX hv) (ci := 4) rfl (by decide) hT mb_342 mb_343 mb_344 mb_1 mb_345 (by decide +kernel) hR hf rfl hls hW hdg) kx kk
end SJL_X6_tells
abbrev rm_X0_init : Room := { frames := 1, cells := 71, slots := 2340, locals := 12 }
def vc_X0_init (self : Nat) (w : sj_W) (Q : sj_W → Prop) : Prop := ∀ (q1 : Nat) (r2 : Nat → Nat), q1 ≠ 0 → sj_T w q1 = 0 → (∀ i, i < 33 → r2 i ≠ 0 ∧ sj_T w (r2 i) = 0 ∧ r2 i ≠ q1) → (∀ i j : Nat, i < 33 → j < 33 → r2 i = r2 j → i = j) → ∀ w3 : sj_W, w3 = sj_nm w q1 r2 33 33 → sj_T w3 self = 1 ∧ q1 ≠ 0 ∧ ∀ w9 : sj_W, w9 = sj_sA w3 0 self q1 → ∀ (q11 : Nat) (r12 : Nat → Nat), q11 ≠ 0 → sj_T w9 q11 = 0 → (∀ i, i < 33 → r12 i ≠ 0 ∧ sj_T w9 (r12 i) = 0 ∧ r12 i ≠ q11) → (∀ i j : Nat, i < 33 → j < 33 → r12 i = r12 j → i = j) → ∀ w13 : sj_W, w13 = sj_nm w9 q11 r12 33 33 → sj_T w13 self = 1 ∧ q11 ≠ 0 ∧ ∀ w19 : sj_W, w19 = sj_sA w13 1 self q11 → ∀ q21 : Nat, q21 ≠ 0 → sj_T w19 q21 = 0 → ∀ w22 : sj_W, w22 = sj_nw w19 q21 7 32 → sj_T w22 self = 1 ∧ q21 ≠ 0 ∧ ∀ w26 : sj_W, w26 = sj_sA w22 2 self q21 → ∀ q28 : Nat, q28 ≠ 0 → sj_T w26 q28 = 0 → ∀ w29 : sj_W, w29 = sj_nw w26 q28 7 32 → sj_T w29 self = 1 ∧ q28 ≠ 0 ∧ ∀ w33 : sj_W, w33 = sj_sA w29 3 self q28 → ∀ q35 : Nat, q35 ≠ 0 → sj_T w33 q35 = 0 → ∀ w36 : sj_W, w36 = sj_nw w33 q35 8 32 → sj_T w36 self = 1 ∧ q35 ≠ 0 ∧ ∀ w40 : sj_W, w40 = sj_sA w36 5 self q35 → Q w40
set_option maxHeartbeats 4000000 in
set_option maxRecDepth 100000 in
theorem wk_X0_init (G : sj_G) (l : Launch) (hlt : l.stackTraces = false) (self : Nat) (w : sj_W) (Q : sj_W → Prop) (QX : String → sj_W → Prop) (hv : vc_X0_init self w Q) : sj_MV G l yX0_init (sj_ws yX0_init cX0_init 1 none) rm_X0_init [.ref self] w Q QX := by
  refine sj_of (by decide +kernel) (Nat.le_of_ble_eq_true rfl) hlt ?_
  intro p e s m args below meth c ls hC hD hr hin hH hl
  have hx := hC.1
  have hb := hC.2.1
  have hl : lv_has ls 1 [(0, .ref self)] := hl
  refine lv_aload_n hx hb dX0_init_0 rfl (lv_at hl 0 rfl) ?_
  refine W.objInit hx hb hC.2.2.2.1 (hC.2.2.2.2.1 _ mb_33) (hC.2.2.2.2.1 _ mb_22) (hC.2.2.2.2.1 _ mb_23) rfl (by rw [hC.2.2.1]; exact hl.1) rfl dX0_init_1 (Nat.le_of_ble_eq_true rfl) (Nat.le_of_ble_eq_true rfl) ?_
  refine W.eq (g2 := F0 m 4 ls []) rfl ?_
  refine lv_aload_n hx hb dX0_init_4 rfl (lv_at hl 0 rfl) ?_
  refine lv_bipush (v := 33) hx hb dX0_init_5 (by decide) ?_
  refine lv_bipush (v := 33) hx hb dX0_init_7 (by decide) ?_
  refine sj_newM (N := 33) (K := 33) hC hH mb_69 mb_multi (by decide) (by decide) rfl rfl (by decide) (by decide) (Nat.le_of_ble_eq_true rfl) (Nat.le_of_ble_eq_true rfl) dX0_init_9 (fun q1 r2 w3 H h5 h6 h7 h8 e4 hH => ?_)
  refine W.widen (k := 34) (n := 1122) (Nat.le_of_ble_eq_true rfl) (Nat.le_of_ble_eq_true rfl) ?_
  refine pf_X0_11 hC hH (hv q1 r2 h5 h6 h7 h8 w3 e4).1 hin (hv q1 r2 h5 h6 h7 h8 w3 e4).2.1 dX0_init_13 (fun w9 H locs e10 hH => ?_)
  refine lv_aload_n hx hb dX0_init_16 rfl (lv_at hl 0 rfl) ?_
  refine lv_bipush (v := 33) hx hb dX0_init_17 (by decide) ?_
  refine lv_bipush (v := 33) hx hb dX0_init_19 (by decide) ?_
  refine sj_newM (N := 33) (K := 33) hC hH mb_69 mb_multi (by decide) (by decide) rfl rfl (by decide) (by decide) (Nat.le_of_ble_eq_true rfl) (Nat.le_of_ble_eq_true rfl) dX0_init_21 (fun q11 r12 w13 H h15 h16 h17 h18 e14 hH => ?_)
  refine W.widen (k := 68) (n := 2244) (Nat.le_of_ble_eq_true rfl) (Nat.le_of_ble_eq_true rfl) ?_
  refine pf_X0_16 hC hH (((hv q1 r2 h5 h6 h7 h8 w3 e4).2.2 w9 e10) q11 r12 h15 h16 h17 h18 w13 e14).1 hin (((hv q1 r2 h5 h6 h7 h8 w3 e4).2.2 w9 e10) q11 r12 h15 h16 h17 h18 w13 e14).2.1 dX0_init_25 (fun w19 H locs e20 hH => ?_)
  refine lv_aload_n hx hb dX0_init_28 rfl (lv_at hl 0 rfl) ?_
  refine lv_bipush (v := 32) hx hb dX0_init_29 (by decide) ?_
  refine sj_newI hC hH mb_69 (by decide) rfl (by decide) (Nat.le_of_ble_eq_true rfl) (Nat.le_of_ble_eq_true rfl) dX0_init_31 (fun q21 w22 H h24 h25 e23 hH => ?_)
  refine pf_X0_19 hC hH (((((hv q1 r2 h5 h6 h7 h8 w3 e4).2.2 w9 e10) q11 r12 h15 h16 h17 h18 w13 e14).2.2 w19 e20) q21 h24 h25 w22 e23).1 hin (((((hv q1 r2 h5 h6 h7 h8 w3 e4).2.2 w9 e10) q11 r12 h15 h16 h17 h18 w13 e14).2.2 w19 e20) q21 h24 h25 w22 e23).2.1 dX0_init_33 (fun w26 H locs e27 hH => ?_)
  refine lv_aload_n hx hb dX0_init_36 rfl (lv_at hl 0 rfl) ?_
  refine lv_bipush (v := 32) hx hb dX0_init_37 (by decide) ?_
  refine sj_newI hC hH mb_69 (by decide) rfl (by decide) (Nat.le_of_ble_eq_true rfl) (Nat.le_of_ble_eq_true rfl) dX0_init_39 (fun q28 w29 H h31 h32 e30 hH => ?_)
  refine pf_X0_23 hC hH (((((((hv q1 r2 h5 h6 h7 h8 w3 e4).2.2 w9 e10) q11 r12 h15 h16 h17 h18 w13 e14).2.2 w19 e20) q21 h24 h25 w22 e23).2.2 w26 e27) q28 h31 h32 w29 e30).1 hin (((((((hv q1 r2 h5 h6 h7 h8 w3 e4).2.2 w9 e10) q11 r12 h15 h16 h17 h18 w13 e14).2.2 w19 e20) q21 h24 h25 w22 e23).2.2 w26 e27) q28 h31 h32 w29 e30).2.1 dX0_init_41 (fun w33 H locs e34 hH => ?_)
  refine lv_aload_n hx hb dX0_init_44 rfl (lv_at hl 0 rfl) ?_
  refine lv_bipush (v := 32) hx hb dX0_init_45 (by decide) ?_
  refine sj_newJ hC hH mb_70 (by decide) rfl (by decide) (Nat.le_of_ble_eq_true rfl) (Nat.le_of_ble_eq_true rfl) dX0_init_47 (fun q35 w36 H h38 h39 e37 hH => ?_)
  refine pf_X0_26 hC hH (((((((((hv q1 r2 h5 h6 h7 h8 w3 e4).2.2 w9 e10) q11 r12 h15 h16 h17 h18 w13 e14).2.2 w19 e20) q21 h24 h25 w22 e23).2.2 w26 e27) q28 h31 h32 w29 e30).2.2 w33 e34) q35 h38 h39 w36 e37).1 (((((((((hv q1 r2 h5 h6 h7 h8 w3 e4).2.2 w9 e10) q11 r12 h15 h16 h17 h18 w13 e14).2.2 w19 e20) q21 h24 h25 w22 e23).2.2 w26 e27) q28 h31 h32 w29 e30).2.2 w33 e34) q35 h38 h39 w36 e37).2.1 dX0_init_49 (fun w40 H locs e41 hH => ?_)
  exact sj_retV hC hD.2 hH hr ((((((((((hv q1 r2 h5 h6 h7 h8 w3 e4).2.2 w9 e10) q11 r12 h15 h16 h17 h18 w13 e14).2.2 w19 e20) q21 h24 h25 w22 e23).2.2 w26 e27) q28 h31 h32 w29 e30).2.2 w33 e34) q35 h38 h39 w36 e37).2.2 w40 e41) ⟨(Nat.le_of_ble_eq_true rfl), (Nat.le_of_ble_eq_true rfl)⟩ dX0_init_52
section SJL_X0_init
variable {p : Program} {l : Launch} {e : Env} {R : Room} {s : State} {m : MethodId} {args : Array Value} {below : List Frame} {meth : Method} {c : Code} {H : Heap} {locs : List Loc} {cells slots : Nat} {Q : State → Prop} {cc : ByteArray} {pc : Nat} {ls : Array Slot} {rest : List Value} {G : sj_G} {nL : Nat} {w : sj_W}
theorem cl_X6_27 {rmM : Room} {QcM : Array Value → State → Outcome → State → Prop} {QX : String → sj_W → Prop} {b : Nat} {Qi : sj_W → Prop} (hC : sj_C G p l s m args c cc RX6 nL) (hD : sj_D meth c) (hH : sj_H G s w H locs) (hv : vc_X0_init b w Qi) (hR : rm_X0_init.frames + 1 ≤ R.frames ∧ 8 + (1 + 11) + rm_X0_init.locals ≤ R.locals) (hf : cells + 71 ≤ R.cells ∧ slots + 2340 ≤ R.slots) (hfM : cells + 71 ≤ rmM.cells ∧ slots + 2340 ≤ rmM.slots) (hls : ls.size = nL) (hW : (rest.map fun v => v.category).sum ≤ 8) (hdg : decode cc pc = .ok (.invokespecial 27, 3)) (kk : ∀ (w1 : sj_W) (H : Heap) (locs : List Loc), sj_H G s w1 H locs → Qi w1 → W p l e R s m args below meth c H locs (cells + 71) (slots + 2340) (sj_MQ G below QcM QX args s rmM) (F0 m (pc + 3) ls rest)) : W p l e R s m args below meth c H locs cells slots (sj_MQ G below QcM QX args s rmM) (F0 m pc ls (.ref b :: rest)) :=
  sj_cV hD hH (sj_runIN (n := 0) hC hH (As := []) (wk_X0_init G l hC.2.2.2.2.2.2 b w Qi QX hv) mb_30 mb_31 mb_2 mb_32 rfl (by decide +kernel) hR hf rfl hls hW hdg) hfM kk
end SJL_X0_init
abbrev rm_X1_init : Room := { frames := 1, cells := 1, slots := 32, locals := 12 }
def vc_X1_init (self : Nat) (w : sj_W) (Q : sj_W → Prop) : Prop := ∀ q1 : Nat, q1 ≠ 0 → sj_T w q1 = 0 → ∀ w2 : sj_W, w2 = sj_nw w q1 8 32 → sj_T w2 self = 2 ∧ q1 ≠ 0 ∧ ∀ w6 : sj_W, w6 = sj_sA w2 8 self q1 → Q w6
set_option maxHeartbeats 4000000 in
set_option maxRecDepth 100000 in
theorem wk_X1_init (G : sj_G) (l : Launch) (hlt : l.stackTraces = false) (self : Nat) (w : sj_W) (Q : sj_W → Prop) (QX : String → sj_W → Prop) (hv : vc_X1_init self w Q) : sj_MV G l yX1_init (sj_ws yX1_init cX1_init 1 none) rm_X1_init [.ref self] w Q QX := by
  refine sj_of (by decide +kernel) (Nat.le_of_ble_eq_true rfl) hlt ?_
  intro p e s m args below meth c ls hC hD hr hin hH hl
  have hx := hC.1
  have hb := hC.2.1
  have hl : lv_has ls 1 [(0, .ref self)] := hl
  refine lv_aload_n hx hb dX1_init_0 rfl (lv_at hl 0 rfl) ?_
  refine W.objInit hx hb hC.2.2.2.1 (hC.2.2.2.2.1 _ mb_75) (hC.2.2.2.2.1 _ mb_22) (hC.2.2.2.2.1 _ mb_23) rfl (by rw [hC.2.2.1]; exact hl.1) rfl dX1_init_1 (Nat.le_of_ble_eq_true rfl) (Nat.le_of_ble_eq_true rfl) ?_
  refine W.eq (g2 := F0 m 4 ls []) rfl ?_
  refine lv_aload_n hx hb dX1_init_4 rfl (lv_at hl 0 rfl) ?_
  refine lv_bipush (v := 32) hx hb dX1_init_5 (by decide) ?_
  refine sj_newJ hC hH mb_70 (by decide) rfl (by decide) (Nat.le_of_ble_eq_true rfl) (Nat.le_of_ble_eq_true rfl) dX1_init_7 (fun q1 w2 H h4 h5 e3 hH => ?_)
  refine pf_X1_9 hC hH (hv q1 h4 h5 w2 e3).1 hin (hv q1 h4 h5 w2 e3).2.1 dX1_init_9 (fun w6 H locs e7 hH => ?_)
  exact sj_retV hC hD.2 hH hr ((hv q1 h4 h5 w2 e3).2.2 w6 e7) ⟨(Nat.le_of_ble_eq_true rfl), (Nat.le_of_ble_eq_true rfl)⟩ dX1_init_12
section SJL_X1_init
variable {p : Program} {l : Launch} {e : Env} {R : Room} {s : State} {m : MethodId} {args : Array Value} {below : List Frame} {meth : Method} {c : Code} {H : Heap} {locs : List Loc} {cells slots : Nat} {Q : State → Prop} {cc : ByteArray} {pc : Nat} {ls : Array Slot} {rest : List Value} {G : sj_G} {nL : Nat} {w : sj_W}
theorem cl_X6_32 {rmM : Room} {QcM : Array Value → State → Outcome → State → Prop} {QX : String → sj_W → Prop} {b : Nat} {Qi : sj_W → Prop} (hC : sj_C G p l s m args c cc RX6 nL) (hD : sj_D meth c) (hH : sj_H G s w H locs) (hv : vc_X1_init b w Qi) (hR : rm_X1_init.frames + 1 ≤ R.frames ∧ 8 + (1 + 11) + rm_X1_init.locals ≤ R.locals) (hf : cells + 1 ≤ R.cells ∧ slots + 32 ≤ R.slots) (hfM : cells + 1 ≤ rmM.cells ∧ slots + 32 ≤ rmM.slots) (hls : ls.size = nL) (hW : (rest.map fun v => v.category).sum ≤ 8) (hdg : decode cc pc = .ok (.invokespecial 32, 3)) (kk : ∀ (w1 : sj_W) (H : Heap) (locs : List Loc), sj_H G s w1 H locs → Qi w1 → W p l e R s m args below meth c H locs (cells + 1) (slots + 32) (sj_MQ G below QcM QX args s rmM) (F0 m (pc + 3) ls rest)) : W p l e R s m args below meth c H locs cells slots (sj_MQ G below QcM QX args s rmM) (F0 m pc ls (.ref b :: rest)) :=
  sj_cV hD hH (sj_runIN (n := 0) hC hH (As := []) (wk_X1_init G l hC.2.2.2.2.2.2 b w Qi QX hv) mb_72 mb_73 mb_3 mb_74 rfl (by decide +kernel) hR hf rfl hls hW hdg) hfM kk
end SJL_X1_init
abbrev rm_X3_init : Room := { frames := 1, cells := 0, slots := 0, locals := 12 }
def vc_X3_init (self : Nat) (w : sj_W) (Q : sj_W → Prop) : Prop := Q w
set_option maxHeartbeats 4000000 in
set_option maxRecDepth 100000 in
theorem wk_X3_init (G : sj_G) (l : Launch) (hlt : l.stackTraces = false) (self : Nat) (w : sj_W) (Q : sj_W → Prop) (QX : String → sj_W → Prop) (hv : vc_X3_init self w Q) : sj_MV G l yX3_init (sj_ws yX3_init cX3_init 1 none) rm_X3_init [.ref self] w Q QX := by
  refine sj_of (by decide +kernel) (Nat.le_of_ble_eq_true rfl) hlt ?_
  intro p e s m args below meth c ls hC hD hr hin hH hl
  have hx := hC.1
  have hb := hC.2.1
  have hl : lv_has ls 1 [(0, .ref self)] := hl
  refine lv_aload_n hx hb dX3_init_0 rfl (lv_at hl 0 rfl) ?_
  refine W.objInit hx hb hC.2.2.2.1 (hC.2.2.2.2.1 _ mb_92) (hC.2.2.2.2.1 _ mb_22) (hC.2.2.2.2.1 _ mb_23) rfl (by rw [hC.2.2.1]; exact hl.1) rfl dX3_init_1 (Nat.le_of_ble_eq_true rfl) (Nat.le_of_ble_eq_true rfl) ?_
  refine W.eq (g2 := F0 m 4 ls []) rfl ?_
  exact sj_retV hC hD.2 hH hr hv ⟨(Nat.le_of_ble_eq_true rfl), (Nat.le_of_ble_eq_true rfl)⟩ dX3_init_4
section SJL_X3_init
variable {p : Program} {l : Launch} {e : Env} {R : Room} {s : State} {m : MethodId} {args : Array Value} {below : List Frame} {meth : Method} {c : Code} {H : Heap} {locs : List Loc} {cells slots : Nat} {Q : State → Prop} {cc : ByteArray} {pc : Nat} {ls : Array Slot} {rest : List Value} {G : sj_G} {nL : Nat} {w : sj_W}
theorem cl_X6_33 {rmM : Room} {QcM : Array Value → State → Outcome → State → Prop} {QX : String → sj_W → Prop} {b : Nat} {Qi : sj_W → Prop} (hC : sj_C G p l s m args c cc RX6 nL) (hD : sj_D meth c) (hH : sj_H G s w H locs) (hv : vc_X3_init b w Qi) (hR : rm_X3_init.frames + 1 ≤ R.frames ∧ 8 + (1 + 11) + rm_X3_init.locals ≤ R.locals) (hf : cells + 0 ≤ R.cells ∧ slots + 0 ≤ R.slots) (hfM : cells + 0 ≤ rmM.cells ∧ slots + 0 ≤ rmM.slots) (hls : ls.size = nL) (hW : (rest.map fun v => v.category).sum ≤ 8) (hdg : decode cc pc = .ok (.invokespecial 33, 3)) (kk : ∀ (w1 : sj_W) (H : Heap) (locs : List Loc), sj_H G s w1 H locs → Qi w1 → W p l e R s m args below meth c H locs (cells + 0) (slots + 0) (sj_MQ G below QcM QX args s rmM) (F0 m (pc + 3) ls rest)) : W p l e R s m args below meth c H locs cells slots (sj_MQ G below QcM QX args s rmM) (F0 m pc ls (.ref b :: rest)) :=
  sj_cV hD hH (sj_runIN (n := 0) hC hH (As := []) (wk_X3_init G l hC.2.2.2.2.2.2 b w Qi QX hv) mb_89 mb_90 mb_4 mb_91 rfl (by decide +kernel) hR hf rfl hls hW hdg) hfM kk
end SJL_X3_init
abbrev rm_X6_checksum : Room := { frames := 0, cells := 0, slots := 0, locals := 0 }
def vb_X6_checksum_45 (f0 : Nat) (f3 : Nat) (f4 : Int32) (f5 : Int32) (f6 : Nat) (Q : Int64 → sj_W → Prop) (E : Int64 → sj_W → Prop) (K : Int64 → Int32 → sj_W → Prop) (v1 : Int64) (v7 : Int32) (w : sj_W) : Prop := sj_T w f6 = 2 ∧ (((sj_I w 9 f6) ≤ v7 → E v1 w) ∧ (¬ (sj_I w 9 f6) ≤ v7 → sj_T w f6 = 2 ∧ sj_A w 8 f6 ≠ 0 ∧ sj_T w (sj_A w 8 f6) = 8 ∧ vp_in v7 (sj_N w (sj_A w 8 f6)) ∧ K ((31 * v1) + (sj_l w (sj_A w 8 f6) v7.toNatClampNeg)) (v7 + 1) w))
def vb_X6_checksum_16 (f0 : Nat) (f3 : Nat) (f4 : Int32) (Q : Int64 → sj_W → Prop) (E : Int64 → sj_W → Prop) (K : Int64 → Int32 → sj_W → Prop) (v1 : Int64) (v5 : Int32) (w : sj_W) : Prop := ((f4 ≤ v5 → E v1 w) ∧ (¬ f4 ≤ v5 → (sj_T w f3 = 10 ∨ sj_T w f3 = 11 ∨ sj_T w f3 = 12) ∧ vp_in v5 (sj_N w f3) ∧ (sj_r w f3 v5.toNatClampNeg) ≠ 0 ∧ sj_T w (sj_r w f3 v5.toNatClampNeg) = 2 ∧ sj_lp2 (vb_X6_checksum_45 f0 f3 f4 v5 (sj_r w f3 v5.toNatClampNeg) Q (fun z1_45 w_45 => K z1_45 (v5 + 1) w_45)) 64 ((31 * v1) + (sj_I w 9 (sj_r w f3 v5.toNatClampNeg)).toInt64) 0 w))
def vb_X6_checksum_94 (f0 : Nat) (f3 : Nat) (f4 : Int32) (Q : Int64 → sj_W → Prop) (E : Int64 → sj_W → Prop) (K : Int64 → Int32 → sj_W → Prop) (v1 : Int64) (v5 : Int32) (w : sj_W) : Prop := ((f4 ≤ v5 → E v1 w) ∧ (¬ f4 ≤ v5 → (sj_T w f3 = 10 ∨ sj_T w f3 = 11 ∨ sj_T w f3 = 12) ∧ vp_in v5 (sj_N w f3) ∧ (sj_r w f3 v5.toNatClampNeg) ≠ 0 ∧ sj_T w (sj_r w f3 v5.toNatClampNeg) = 3 ∧ sj_T w (sj_r w f3 v5.toNatClampNeg) = 3 ∧ sj_T w (sj_r w f3 v5.toNatClampNeg) = 3 ∧ K ((31 * ((31 * ((31 * v1) + (sj_I w 16 (sj_r w f3 v5.toNatClampNeg)).toInt64)) + (sj_I w 17 (sj_r w f3 v5.toNatClampNeg)).toInt64)) + (sj_I w 18 (sj_r w f3 v5.toNatClampNeg)).toInt64) (v5 + 1) w))
def vb_X6_checksum_166 (f0 : Nat) (Q : Int64 → sj_W → Prop) (E : Int64 → sj_W → Prop) (K : Int64 → Int32 → sj_W → Prop) (v1 : Int64) (v3 : Int32) (w : sj_W) : Prop := sj_T w f0 = 5 ∧ (((sj_I w 36 f0) ≤ v3 → E v1 w) ∧ (¬ (sj_I w 36 f0) ≤ v3 → sj_T w f0 = 5 ∧ sj_A w 34 f0 ≠ 0 ∧ sj_T w (sj_A w 34 f0) = 7 ∧ vp_in v3 (sj_N w (sj_A w 34 f0)) ∧ K ((31 * v1) + (sj_i w (sj_A w 34 f0) v3.toNatClampNeg).toInt64) (v3 + 1) w))
def vc_X6_checksum (self : Nat) (w : sj_W) (Q : Int64 → sj_W → Prop) : Prop := sj_T w self = 5 ∧ sj_A w 32 self ≠ 0 ∧ (7 ≤ sj_T w (sj_A w 32 self) ∧ sj_T w (sj_A w 32 self) ≤ 13) ∧ sj_lp2 (vb_X6_checksum_16 self (sj_A w 32 self) (nI (sj_N w (sj_A w 32 self))) Q (fun z1_16 w_16 => sj_T w_16 self = 5 ∧ sj_A w_16 33 self ≠ 0 ∧ (7 ≤ sj_T w_16 (sj_A w_16 33 self) ∧ sj_T w_16 (sj_A w_16 33 self) ≤ 13) ∧ sj_lp2 (vb_X6_checksum_94 self (sj_A w_16 33 self) (nI (sj_N w_16 (sj_A w_16 33 self))) Q (fun z1_94 w_94 => sj_T w_94 self = 5 ∧ sj_lp2 (vb_X6_checksum_166 self Q (fun z1_166 w_166 => Q z1_166 w_166)) 64 ((31 * z1_94) + (sj_I w_94 36 self).toInt64) 0 w_94)) 64 z1_16 0 w_16)) 64 7 0 w
set_option maxHeartbeats 4000000 in
set_option maxRecDepth 100000 in
theorem wl_X6_checksum_45 {p : Program} {l : Launch} {e : Env} {s : State} {m : MethodId} {args : Array Value} {below : List Frame} {meth : Method} {c : Code} {G : sj_G} {f0 : Nat} {f3 : Nat} {f4 : Int32} {f5 : Int32} {f6 : Nat} {Q : Int64 → sj_W → Prop} {QX : String → sj_W → Prop} {E : Int64 → sj_W → Prop} (hC : sj_C G p l s m args c cX6_checksum RX6 8) (hD : sj_D meth c) (hr : meth.sig.returnType = (some .long)) (hin : meth.name = "checksum") (hE : ∀ (v1 : Int64) (w : sj_W) (H : Heap) (locs : List Loc) (ls : Array Slot), lv_has ls 8 [(0, .ref f0), (1, .long v1), (3, .ref f3), (4, .int f4), (5, .int f5)] → sj_H G s w H locs → E v1 w → W p l e rm_X6_checksum s m args below meth c H locs 0 0 (sj_MQ G below (va_Ql Q (sj_B G) (sj_F G)) QX args s rm_X6_checksum) (F0 m 76 ls [])) : ∀ (n : Nat) (v1 : Int64) (v7 : Int32) (w : sj_W) (H : Heap) (locs : List Loc) (ls : Array Slot), lv_has ls 8 [(0, .ref f0), (1, .long v1), (3, .ref f3), (4, .int f4), (5, .int f5), (6, .ref f6), (7, .int v7)] → sj_H G s w H locs → sj_lp2 (vb_X6_checksum_45 f0 f3 f4 f5 f6 Q E) n v1 v7 w → W p l e rm_X6_checksum s m args below meth c H locs 0 0 (sj_MQ G below (va_Ql Q (sj_B G) (sj_F G)) QX args s rm_X6_checksum) (F0 m 45 ls []) := by
  have hx := hC.1
  have hb := hC.2.1
  intro n
  induction n with
  | zero =>
    intro v1 v7 w H locs ls _ _ hv
    exact hv.elim
  | succ n ih =>
    intro v1 v7 w H locs ls hl hH hv
    have hv : vb_X6_checksum_45 f0 f3 f4 f5 f6 Q E (sj_lp2 (vb_X6_checksum_45 f0 f3 f4 f5 f6 Q E) n) v1 v7 w := hv
    have hc1 : rm_X6_checksum.cells = 0 := rfl
    have hc2 : rm_X6_checksum.slots = 0 := rfl
    refine lv_iload hx hb dX6_checksum_45 (lv_at hl 6 rfl) ?_
    refine lv_aload hx hb dX6_checksum_47 (lv_at hl 5 rfl) ?_
    refine gf_X6_46 hC hH hv.1 dX6_checksum_49 ?_
    refine lv_icmp_ge (tgt := 76) hx hb dX6_checksum_52 (by decide) (fun hc => ?_) (fun hc => ?_)
    · have hv3 := hv.2.1 hc
      exact hE v1 w _ _ _ (lv_sub hl [0, 1, 2, 3, 4] rfl) hH hv3
    · have hv4 := hv.2.2 hc
      refine lv_ldc2 (v := 31) hx hb hC.2.2.2.1 (hC.2.2.2.2.1 _ mb_124) dX6_checksum_55 ?_
      refine lv_lload_n hx hb dX6_checksum_58 rfl (lv_at hl 1 rfl) ?_
      refine lv_lmul hx hb dX6_checksum_59 ?_
      refine lv_aload hx hb dX6_checksum_60 (lv_at hl 5 rfl) ?_
      refine gf_X6_57 hC hH hv4.1 hv4.2.1 dX6_checksum_62 ?_
      refine lv_iload hx hb dX6_checksum_65 (lv_at hl 6 rfl) ?_
      refine sj_lald hC hH hv4.2.2.1 hv4.2.2.2.1 dX6_checksum_67 ?_
      refine lv_ladd hx hb dX6_checksum_68 ?_
      refine lv_lstore_n (lv' := [(1, .long ((31 * v1) + (sj_l w (sj_A w 8 f6) v7.toNatClampNeg))), (0, .ref f0), (3, .ref f3), (4, .int f4), (5, .int f5), (6, .ref f6), (7, .int v7)]) hx hb dX6_checksum_69 rfl hl (by decide) rfl (fun ls hl => ?_)
      refine lv_iinc (v := (v7 + 1)) (lv' := [(7, .int (v7 + 1)), (1, .long ((31 * v1) + (sj_l w (sj_A w 8 f6) v7.toNatClampNeg))), (0, .ref f0), (3, .ref f3), (4, .int f4), (5, .int f5), (6, .ref f6)]) hx hb dX6_checksum_70 hl (k := 6) rfl rfl (by decide) rfl (fun ls hl => ?_)
      refine lv_goto (tgt := 45) hx hb dX6_checksum_73 (by decide) ?_
      exact ih ((31 * v1) + (sj_l w (sj_A w 8 f6) v7.toNatClampNeg)) (v7 + 1) w _ _ _ (lv_sub hl [2, 1, 3, 4, 5, 6, 0] rfl) hH hv4.2.2.2.2
set_option maxHeartbeats 4000000 in
set_option maxRecDepth 100000 in
theorem wl_X6_checksum_16 {p : Program} {l : Launch} {e : Env} {s : State} {m : MethodId} {args : Array Value} {below : List Frame} {meth : Method} {c : Code} {G : sj_G} {f0 : Nat} {f3 : Nat} {f4 : Int32} {Q : Int64 → sj_W → Prop} {QX : String → sj_W → Prop} {E : Int64 → sj_W → Prop} (hC : sj_C G p l s m args c cX6_checksum RX6 8) (hD : sj_D meth c) (hr : meth.sig.returnType = (some .long)) (hin : meth.name = "checksum") (hE : ∀ (v1 : Int64) (w : sj_W) (H : Heap) (locs : List Loc) (ls : Array Slot), lv_has ls 8 [(0, .ref f0), (1, .long v1)] → sj_H G s w H locs → E v1 w → W p l e rm_X6_checksum s m args below meth c H locs 0 0 (sj_MQ G below (va_Ql Q (sj_B G) (sj_F G)) QX args s rm_X6_checksum) (F0 m 82 ls [])) : ∀ (n : Nat) (v1 : Int64) (v5 : Int32) (w : sj_W) (H : Heap) (locs : List Loc) (ls : Array Slot), lv_has ls 8 [(0, .ref f0), (1, .long v1), (3, .ref f3), (4, .int f4), (5, .int v5)] → sj_H G s w H locs → sj_lp2 (vb_X6_checksum_16 f0 f3 f4 Q E) n v1 v5 w → W p l e rm_X6_checksum s m args below meth c H locs 0 0 (sj_MQ G below (va_Ql Q (sj_B G) (sj_F G)) QX args s rm_X6_checksum) (F0 m 16 ls []) := by
  have hx := hC.1
  have hb := hC.2.1
  intro n
  induction n with
  | zero =>
    intro v1 v5 w H locs ls _ _ hv
    exact hv.elim
  | succ n ih =>
    intro v1 v5 w H locs ls hl hH hv
    have hv : vb_X6_checksum_16 f0 f3 f4 Q E (sj_lp2 (vb_X6_checksum_16 f0 f3 f4 Q E) n) v1 v5 w := hv
    have hc1 : rm_X6_checksum.cells = 0 := rfl
    have hc2 : rm_X6_checksum.slots = 0 := rfl
    refine lv_iload hx hb dX6_checksum_16 (lv_at hl 4 rfl) ?_
    refine lv_iload hx hb dX6_checksum_18 (lv_at hl 3 rfl) ?_
    refine lv_icmp_ge (tgt := 82) hx hb dX6_checksum_20 (by decide) (fun hc => ?_) (fun hc => ?_)
    · have hv1 := hv.1 hc
      exact hE v1 w _ _ _ (lv_sub hl [0, 1] rfl) hH hv1
    · have hv2 := hv.2 hc
      refine lv_aload_n hx hb dX6_checksum_23 rfl (lv_at hl 2 rfl) ?_
      refine lv_iload hx hb dX6_checksum_24 (lv_at hl 4 rfl) ?_
      refine sj_aald hC hH hv2.1 hv2.2.1 hv2.2.2.1 dX6_checksum_26 ?_
      refine lv_astore (lv' := [(6, .ref (sj_r w f3 v5.toNatClampNeg)), (0, .ref f0), (1, .long v1), (3, .ref f3), (4, .int f4), (5, .int v5)]) hx hb dX6_checksum_27 hl (by decide) rfl (fun ls hl => ?_)
      refine lv_ldc2 (v := 31) hx hb hC.2.2.2.1 (hC.2.2.2.2.1 _ mb_124) dX6_checksum_29 ?_
      refine lv_lload_n hx hb dX6_checksum_32 rfl (lv_at hl 2 rfl) ?_
      refine lv_lmul hx hb dX6_checksum_33 ?_
      refine lv_aload hx hb dX6_checksum_34 (lv_at hl 0 rfl) ?_
      refine gf_X6_46 hC hH hv2.2.2.2.1 dX6_checksum_36 ?_
      refine lv_i2l hx hb dX6_checksum_39 rfl ?_
      refine lv_ladd hx hb dX6_checksum_40 ?_
      refine lv_lstore_n (lv' := [(1, .long ((31 * v1) + (sj_I w 9 (sj_r w f3 v5.toNatClampNeg)).toInt64)), (6, .ref (sj_r w f3 v5.toNatClampNeg)), (0, .ref f0), (3, .ref f3), (4, .int f4), (5, .int v5)]) hx hb dX6_checksum_41 rfl hl (by decide) rfl (fun ls hl => ?_)
      refine lv_iconst (v := 0) hx hb dX6_checksum_42 (by decide) ?_
      refine lv_istore (lv' := [(7, .int 0), (1, .long ((31 * v1) + (sj_I w 9 (sj_r w f3 v5.toNatClampNeg)).toInt64)), (6, .ref (sj_r w f3 v5.toNatClampNeg)), (0, .ref f0), (3, .ref f3), (4, .int f4), (5, .int v5)]) hx hb dX6_checksum_43 hl (by decide) rfl (fun ls hl => ?_)
      refine wl_X6_checksum_45 hC hD hr hin (fun z1_45 w_45 H locs ls hl hH hv5 => ?_) 64 ((31 * v1) + (sj_I w 9 (sj_r w f3 v5.toNatClampNeg)).toInt64) 0 w _ _ _ (lv_sub hl [3, 1, 4, 5, 6, 2, 0] rfl) hH hv2.2.2.2.2
      refine lv_iinc (v := (v5 + 1)) (lv' := [(5, .int (v5 + 1)), (0, .ref f0), (1, .long z1_45), (3, .ref f3), (4, .int f4)]) hx hb dX6_checksum_76 hl (k := 4) rfl rfl (by decide) rfl (fun ls hl => ?_)
      refine lv_goto (tgt := 16) hx hb dX6_checksum_79 (by decide) ?_
      exact ih z1_45 (v5 + 1) w_45 _ _ _ (lv_sub hl [1, 2, 3, 4, 0] rfl) hH hv5
set_option maxHeartbeats 4000000 in
set_option maxRecDepth 100000 in
theorem wl_X6_checksum_94 {p : Program} {l : Launch} {e : Env} {s : State} {m : MethodId} {args : Array Value} {below : List Frame} {meth : Method} {c : Code} {G : sj_G} {f0 : Nat} {f3 : Nat} {f4 : Int32} {Q : Int64 → sj_W → Prop} {QX : String → sj_W → Prop} {E : Int64 → sj_W → Prop} (hC : sj_C G p l s m args c cX6_checksum RX6 8) (hD : sj_D meth c) (hr : meth.sig.returnType = (some .long)) (hin : meth.name = "checksum") (hE : ∀ (v1 : Int64) (w : sj_W) (H : Heap) (locs : List Loc) (ls : Array Slot), lv_has ls 8 [(0, .ref f0), (1, .long v1)] → sj_H G s w H locs → E v1 w → W p l e rm_X6_checksum s m args below meth c H locs 0 0 (sj_MQ G below (va_Ql Q (sj_B G) (sj_F G)) QX args s rm_X6_checksum) (F0 m 152 ls [])) : ∀ (n : Nat) (v1 : Int64) (v5 : Int32) (w : sj_W) (H : Heap) (locs : List Loc) (ls : Array Slot), lv_has ls 8 [(0, .ref f0), (1, .long v1), (3, .ref f3), (4, .int f4), (5, .int v5)] → sj_H G s w H locs → sj_lp2 (vb_X6_checksum_94 f0 f3 f4 Q E) n v1 v5 w → W p l e rm_X6_checksum s m args below meth c H locs 0 0 (sj_MQ G below (va_Ql Q (sj_B G) (sj_F G)) QX args s rm_X6_checksum) (F0 m 94 ls []) := by
  have hx := hC.1
  have hb := hC.2.1
  intro n
  induction n with
  | zero =>
    intro v1 v5 w H locs ls _ _ hv
    exact hv.elim
  | succ n ih =>
    intro v1 v5 w H locs ls hl hH hv
    have hv : vb_X6_checksum_94 f0 f3 f4 Q E (sj_lp2 (vb_X6_checksum_94 f0 f3 f4 Q E) n) v1 v5 w := hv
    have hc1 : rm_X6_checksum.cells = 0 := rfl
    have hc2 : rm_X6_checksum.slots = 0 := rfl
    refine lv_iload hx hb dX6_checksum_94 (lv_at hl 4 rfl) ?_
    refine lv_iload hx hb dX6_checksum_96 (lv_at hl 3 rfl) ?_
    refine lv_icmp_ge (tgt := 152) hx hb dX6_checksum_98 (by decide) (fun hc => ?_) (fun hc => ?_)
    · have hv7 := hv.1 hc
      exact hE v1 w _ _ _ (lv_sub hl [0, 1] rfl) hH hv7
    · have hv8 := hv.2 hc
      refine lv_aload_n hx hb dX6_checksum_101 rfl (lv_at hl 2 rfl) ?_
      refine lv_iload hx hb dX6_checksum_102 (lv_at hl 4 rfl) ?_
      refine sj_aald hC hH hv8.1 hv8.2.1 hv8.2.2.1 dX6_checksum_104 ?_
      refine lv_astore (lv' := [(6, .ref (sj_r w f3 v5.toNatClampNeg)), (0, .ref f0), (1, .long v1), (3, .ref f3), (4, .int f4), (5, .int v5)]) hx hb dX6_checksum_105 hl (by decide) rfl (fun ls hl => ?_)
      refine lv_ldc2 (v := 31) hx hb hC.2.2.2.1 (hC.2.2.2.2.1 _ mb_124) dX6_checksum_107 ?_
      refine lv_lload_n hx hb dX6_checksum_110 rfl (lv_at hl 2 rfl) ?_
      refine lv_lmul hx hb dX6_checksum_111 ?_
      refine lv_aload hx hb dX6_checksum_112 (lv_at hl 0 rfl) ?_
      refine gf_X6_97 hC hH hv8.2.2.2.1 dX6_checksum_114 ?_
      refine lv_i2l hx hb dX6_checksum_117 rfl ?_
      refine lv_ladd hx hb dX6_checksum_118 ?_
      refine lv_lstore_n (lv' := [(1, .long ((31 * v1) + (sj_I w 16 (sj_r w f3 v5.toNatClampNeg)).toInt64)), (6, .ref (sj_r w f3 v5.toNatClampNeg)), (0, .ref f0), (3, .ref f3), (4, .int f4), (5, .int v5)]) hx hb dX6_checksum_119 rfl hl (by decide) rfl (fun ls hl => ?_)
      refine lv_ldc2 (v := 31) hx hb hC.2.2.2.1 (hC.2.2.2.2.1 _ mb_124) dX6_checksum_120 ?_
      refine lv_lload_n hx hb dX6_checksum_123 rfl (lv_at hl 0 rfl) ?_
      refine lv_lmul hx hb dX6_checksum_124 ?_
      refine lv_aload hx hb dX6_checksum_125 (lv_at hl 1 rfl) ?_
      refine gf_X6_100 hC hH hv8.2.2.2.2.1 dX6_checksum_127 ?_
      refine lv_i2l hx hb dX6_checksum_130 rfl ?_
      refine lv_ladd hx hb dX6_checksum_131 ?_
      refine lv_lstore_n (lv' := [(1, .long ((31 * ((31 * v1) + (sj_I w 16 (sj_r w f3 v5.toNatClampNeg)).toInt64)) + (sj_I w 17 (sj_r w f3 v5.toNatClampNeg)).toInt64)), (6, .ref (sj_r w f3 v5.toNatClampNeg)), (0, .ref f0), (3, .ref f3), (4, .int f4), (5, .int v5)]) hx hb dX6_checksum_132 rfl hl (by decide) rfl (fun ls hl => ?_)
      refine lv_ldc2 (v := 31) hx hb hC.2.2.2.1 (hC.2.2.2.2.1 _ mb_124) dX6_checksum_133 ?_
      refine lv_lload_n hx hb dX6_checksum_136 rfl (lv_at hl 0 rfl) ?_
      refine lv_lmul hx hb dX6_checksum_137 ?_
      refine lv_aload hx hb dX6_checksum_138 (lv_at hl 1 rfl) ?_
      refine gf_X6_103 hC hH hv8.2.2.2.2.2.1 dX6_checksum_140 ?_
      refine lv_i2l hx hb dX6_checksum_143 rfl ?_
      refine lv_ladd hx hb dX6_checksum_144 ?_
      refine lv_lstore_n (lv' := [(1, .long ((31 * ((31 * ((31 * v1) + (sj_I w 16 (sj_r w f3 v5.toNatClampNeg)).toInt64)) + (sj_I w 17 (sj_r w f3 v5.toNatClampNeg)).toInt64)) + (sj_I w 18 (sj_r w f3 v5.toNatClampNeg)).toInt64)), (6, .ref (sj_r w f3 v5.toNatClampNeg)), (0, .ref f0), (3, .ref f3), (4, .int f4), (5, .int v5)]) hx hb dX6_checksum_145 rfl hl (by decide) rfl (fun ls hl => ?_)
      refine lv_iinc (v := (v5 + 1)) (lv' := [(5, .int (v5 + 1)), (1, .long ((31 * ((31 * ((31 * v1) + (sj_I w 16 (sj_r w f3 v5.toNatClampNeg)).toInt64)) + (sj_I w 17 (sj_r w f3 v5.toNatClampNeg)).toInt64)) + (sj_I w 18 (sj_r w f3 v5.toNatClampNeg)).toInt64)), (6, .ref (sj_r w f3 v5.toNatClampNeg)), (0, .ref f0), (3, .ref f3), (4, .int f4)]) hx hb dX6_checksum_146 hl (k := 5) rfl rfl (by decide) rfl (fun ls hl => ?_)
      refine lv_goto (tgt := 94) hx hb dX6_checksum_149 (by decide) ?_
      exact ih ((31 * ((31 * ((31 * v1) + (sj_I w 16 (sj_r w f3 v5.toNatClampNeg)).toInt64)) + (sj_I w 17 (sj_r w f3 v5.toNatClampNeg)).toInt64)) + (sj_I w 18 (sj_r w f3 v5.toNatClampNeg)).toInt64) (v5 + 1) w _ _ _ (lv_sub hl [3, 1, 4, 5, 0] rfl) hH hv8.2.2.2.2.2.2
set_option maxHeartbeats 4000000 in
set_option maxRecDepth 100000 in
theorem wl_X6_checksum_166 {p : Program} {l : Launch} {e : Env} {s : State} {m : MethodId} {args : Array Value} {below : List Frame} {meth : Method} {c : Code} {G : sj_G} {f0 : Nat} {Q : Int64 → sj_W → Prop} {QX : String → sj_W → Prop} {E : Int64 → sj_W → Prop} (hC : sj_C G p l s m args c cX6_checksum RX6 8) (hD : sj_D meth c) (hr : meth.sig.returnType = (some .long)) (hin : meth.name = "checksum") (hE : ∀ (v1 : Int64) (w : sj_W) (H : Heap) (locs : List Loc) (ls : Array Slot), lv_has ls 8 [(1, .long v1)] → sj_H G s w H locs → E v1 w → W p l e rm_X6_checksum s m args below meth c H locs 0 0 (sj_MQ G below (va_Ql Q (sj_B G) (sj_F G)) QX args s rm_X6_checksum) (F0 m 194 ls [])) : ∀ (n : Nat) (v1 : Int64) (v3 : Int32) (w : sj_W) (H : Heap) (locs : List Loc) (ls : Array Slot), lv_has ls 8 [(0, .ref f0), (1, .long v1), (3, .int v3)] → sj_H G s w H locs → sj_lp2 (vb_X6_checksum_166 f0 Q E) n v1 v3 w → W p l e rm_X6_checksum s m args below meth c H locs 0 0 (sj_MQ G below (va_Ql Q (sj_B G) (sj_F G)) QX args s rm_X6_checksum) (F0 m 166 ls []) := by
  have hx := hC.1
  have hb := hC.2.1
  intro n
  induction n with
  | zero =>
    intro v1 v3 w H locs ls _ _ hv
    exact hv.elim
  | succ n ih =>
    intro v1 v3 w H locs ls hl hH hv
    have hv : vb_X6_checksum_166 f0 Q E (sj_lp2 (vb_X6_checksum_166 f0 Q E) n) v1 v3 w := hv
    have hc1 : rm_X6_checksum.cells = 0 := rfl
    have hc2 : rm_X6_checksum.slots = 0 := rfl
    refine lv_iload_n hx hb dX6_checksum_166 rfl (lv_at hl 2 rfl) ?_
    refine lv_aload_n hx hb dX6_checksum_167 rfl (lv_at hl 0 rfl) ?_
    refine gf_X6_144 hC hH hv.1 dX6_checksum_168 ?_
    refine lv_icmp_ge (tgt := 194) hx hb dX6_checksum_171 (by decide) (fun hc => ?_) (fun hc => ?_)
    · have hv10 := hv.2.1 hc
      exact hE v1 w _ _ _ (lv_sub hl [1] rfl) hH hv10
    · have hv11 := hv.2.2 hc
      refine lv_ldc2 (v := 31) hx hb hC.2.2.2.1 (hC.2.2.2.2.1 _ mb_124) dX6_checksum_174 ?_
      refine lv_lload_n hx hb dX6_checksum_177 rfl (lv_at hl 1 rfl) ?_
      refine lv_lmul hx hb dX6_checksum_178 ?_
      refine lv_aload_n hx hb dX6_checksum_179 rfl (lv_at hl 0 rfl) ?_
      refine gf_X6_21 hC hH hv11.1 hv11.2.1 dX6_checksum_180 ?_
      refine lv_iload_n hx hb dX6_checksum_183 rfl (lv_at hl 2 rfl) ?_
      refine sj_iald hC hH hv11.2.2.1 hv11.2.2.2.1 dX6_checksum_184 ?_
      refine lv_i2l hx hb dX6_checksum_185 rfl ?_
      refine lv_ladd hx hb dX6_checksum_186 ?_
      refine lv_lstore_n (lv' := [(1, .long ((31 * v1) + (sj_i w (sj_A w 34 f0) v3.toNatClampNeg).toInt64)), (0, .ref f0), (3, .int v3)]) hx hb dX6_checksum_187 rfl hl (by decide) rfl (fun ls hl => ?_)
      refine lv_iinc (v := (v3 + 1)) (lv' := [(3, .int (v3 + 1)), (1, .long ((31 * v1) + (sj_i w (sj_A w 34 f0) v3.toNatClampNeg).toInt64)), (0, .ref f0)]) hx hb dX6_checksum_188 hl (k := 2) rfl rfl (by decide) rfl (fun ls hl => ?_)
      refine lv_goto (tgt := 166) hx hb dX6_checksum_191 (by decide) ?_
      exact ih ((31 * v1) + (sj_i w (sj_A w 34 f0) v3.toNatClampNeg).toInt64) (v3 + 1) w _ _ _ (lv_sub hl [2, 1, 0] rfl) hH hv11.2.2.2.2
set_option maxHeartbeats 4000000 in
set_option maxRecDepth 100000 in
theorem wk_X6_checksum (G : sj_G) (l : Launch) (hlt : l.stackTraces = false) (self : Nat) (w : sj_W) (Q : Int64 → sj_W → Prop) (QX : String → sj_W → Prop) (hv : vc_X6_checksum self w Q) : sj_ML G l yX6_checksum (sj_ws yX6_checksum cX6_checksum 8 (some .long)) rm_X6_checksum [.ref self] w Q QX := by
  refine sj_of (by decide +kernel) (Nat.le_of_ble_eq_true rfl) hlt ?_
  intro p e s m args below meth c ls hC hD hr hin hH hl
  have hx := hC.1
  have hb := hC.2.1
  have hl : lv_has ls 8 [(0, .ref self)] := hl
  refine lv_ldc2 (v := 7) hx hb hC.2.2.2.1 (hC.2.2.2.2.1 _ mb_123) dX6_checksum_0 ?_
  refine lv_lstore_n (lv' := [(1, .long 7), (0, .ref self)]) hx hb dX6_checksum_3 rfl hl (by decide) rfl (fun ls hl => ?_)
  refine lv_aload_n hx hb dX6_checksum_4 rfl (lv_at hl 1 rfl) ?_
  refine gf_X6_11 hC hH hv.1 hv.2.1 dX6_checksum_5 ?_
  refine lv_astore_n (lv' := [(3, .ref (sj_A w 32 self)), (1, .long 7), (0, .ref self)]) hx hb dX6_checksum_8 rfl hl (by decide) rfl (fun ls hl => ?_)
  refine lv_aload_n hx hb dX6_checksum_9 rfl (lv_at hl 0 rfl) ?_
  refine sj_alen hC hH hv.2.2.1 dX6_checksum_10 ?_
  refine lv_istore (lv' := [(4, .int (nI (sj_N w (sj_A w 32 self)))), (3, .ref (sj_A w 32 self)), (1, .long 7), (0, .ref self)]) hx hb dX6_checksum_11 hl (by decide) rfl (fun ls hl => ?_)
  refine lv_iconst (v := 0) hx hb dX6_checksum_13 (by decide) ?_
  refine lv_istore (lv' := [(5, .int 0), (4, .int (nI (sj_N w (sj_A w 32 self)))), (3, .ref (sj_A w 32 self)), (1, .long 7), (0, .ref self)]) hx hb dX6_checksum_14 hl (by decide) rfl (fun ls hl => ?_)
  refine wl_X6_checksum_16 hC hD hr hin (fun z1_16 w_16 H locs ls hl hH hv6 => ?_) 64 7 0 w _ _ _ (lv_sub hl [4, 3, 2, 1, 0] rfl) hH hv.2.2.2
  refine lv_aload_n hx hb dX6_checksum_82 rfl (lv_at hl 0 rfl) ?_
  refine gf_X6_17 hC hH hv6.1 hv6.2.1 dX6_checksum_83 ?_
  refine lv_astore_n (lv' := [(3, .ref (sj_A w_16 33 self)), (0, .ref self), (1, .long z1_16)]) hx hb dX6_checksum_86 rfl hl (by decide) rfl (fun ls hl => ?_)
  refine lv_aload_n hx hb dX6_checksum_87 rfl (lv_at hl 0 rfl) ?_
  refine sj_alen hC hH hv6.2.2.1 dX6_checksum_88 ?_
  refine lv_istore (lv' := [(4, .int (nI (sj_N w_16 (sj_A w_16 33 self)))), (3, .ref (sj_A w_16 33 self)), (0, .ref self), (1, .long z1_16)]) hx hb dX6_checksum_89 hl (by decide) rfl (fun ls hl => ?_)
  refine lv_iconst (v := 0) hx hb dX6_checksum_91 (by decide) ?_
  refine lv_istore (lv' := [(5, .int 0), (4, .int (nI (sj_N w_16 (sj_A w_16 33 self)))), (3, .ref (sj_A w_16 33 self)), (0, .ref self), (1, .long z1_16)]) hx hb dX6_checksum_92 hl (by decide) rfl (fun ls hl => ?_)
  refine wl_X6_checksum_94 hC hD hr hin (fun z1_94 w_94 H locs ls hl hH hv9 => ?_) 64 z1_16 0 w_16 _ _ _ (lv_sub hl [3, 4, 2, 1, 0] rfl) hH hv6.2.2.2
  refine lv_ldc2 (v := 31) hx hb hC.2.2.2.1 (hC.2.2.2.2.1 _ mb_124) dX6_checksum_152 ?_
  refine lv_lload_n hx hb dX6_checksum_155 rfl (lv_at hl 1 rfl) ?_
  refine lv_lmul hx hb dX6_checksum_156 ?_
  refine lv_aload_n hx hb dX6_checksum_157 rfl (lv_at hl 0 rfl) ?_
  refine gf_X6_144 hC hH hv9.1 dX6_checksum_158 ?_
  refine lv_i2l hx hb dX6_checksum_161 rfl ?_
  refine lv_ladd hx hb dX6_checksum_162 ?_
  refine lv_lstore_n (lv' := [(1, .long ((31 * z1_94) + (sj_I w_94 36 self).toInt64)), (0, .ref self)]) hx hb dX6_checksum_163 rfl hl (by decide) rfl (fun ls hl => ?_)
  refine lv_iconst (v := 0) hx hb dX6_checksum_164 (by decide) ?_
  refine lv_istore_n (lv' := [(3, .int 0), (1, .long ((31 * z1_94) + (sj_I w_94 36 self).toInt64)), (0, .ref self)]) hx hb dX6_checksum_165 rfl hl (by decide) rfl (fun ls hl => ?_)
  refine wl_X6_checksum_166 hC hD hr hin (fun z1_166 w_166 H locs ls hl hH hv12 => ?_) 64 ((31 * z1_94) + (sj_I w_94 36 self).toInt64) 0 w_94 _ _ _ (lv_sub hl [2, 1, 0] rfl) hH hv9.2
  refine lv_lload_n hx hb dX6_checksum_194 rfl (lv_at hl 0 rfl) ?_
  exact sj_retL hC hD.2 hH hr hv12 ⟨(Nat.le_of_ble_eq_true rfl), (Nat.le_of_ble_eq_true rfl)⟩ dX6_checksum_195
section SJL_X6_checksum
variable {p : Program} {l : Launch} {e : Env} {R : Room} {s : State} {m : MethodId} {args : Array Value} {below : List Frame} {meth : Method} {c : Code} {H : Heap} {locs : List Loc} {cells slots : Nat} {Q : State → Prop} {cc : ByteArray} {pc : Nat} {ls : Array Slot} {rest : List Value} {G : sj_G} {nL : Nat} {w : sj_W}
theorem cg_L_253 {b : Nat} {Qi : Int64 → sj_W → Prop} (hC : sj_C G p l s m args c cc RL nL) (hH : sj_H G s w H locs) (hv : vc_X6_checksum b w Qi) (hT : sj_T w b = 5) (hR : rm_X6_checksum.frames + 1 ≤ R.frames ∧ 8 + (8 + 11) + rm_X6_checksum.locals ≤ R.locals) (hf : cells + 0 ≤ R.cells ∧ slots + 0 ≤ R.slots) (hls : ls.size = nL) (hW : (rest.map fun v => v.category).sum ≤ 8) (hdg : decode cc pc = .ok (.invokevirtual 253, 3)) (kk : ∀ (r : Int64) (w1 : sj_W) (H : Heap) (locs : List Loc), sj_H G s w1 H locs → Qi r w1 → W p l e R s m args below meth c H locs (cells + 0) (slots + 0) Q (F0 m (pc + 3) ls (.long r :: rest))) : W p l e R s m args below meth c H locs cells slots Q (F0 m pc ls (.ref b :: rest)) :=
  sj_xL hH (sj_runV (n := 0) hC hH (As := []) (wk_X6_checksum G l hC.2.2.2.2.2.2 b w Qi (fun _ _ => False) hv) (ci := 4) rfl (by decide) hT mb_119 mb_120 mb_121 mb_1 mb_122 (by decide +kernel) hR hf rfl hls hW hdg) (fun _ _ _ _ _ _ _ h _ _ _ => h.elim) kk
end SJL_X6_checksum

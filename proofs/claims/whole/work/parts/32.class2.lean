abbrev rm_X6_convert : Room := { frames := 8, cells := 5, slots := 30, locals := 124 }
def vb_X6_convert_65 (f5 : Int32) (f6 : Int32) (f7 : Int32) (f8 : Nat) (f9 : Nat) (Q : Int32 → sj_W → Prop) (QX : String → sj_W → Prop) (E : sj_W → Prop) (K : Int32 → sj_W → Prop) (v10 : Int32) (w : sj_W) : Prop := sj_T w f8 = 2 ∧ (((sj_I w 9 f8) ≤ v10 → E w) ∧ (¬ (sj_I w 9 f8) ≤ v10 → sj_T w f8 = 2 ∧ sj_A w 8 f8 ≠ 0 ∧ sj_T w (sj_A w 8 f8) = 8 ∧ vp_in v10 (sj_N w (sj_A w 8 f8)) ∧ vc_X6_canChange f6 f5 (sj_l w (sj_A w 8 f8) v10.toNatClampNeg) f7 w (fun r16 w17 => ((¬ r16 = 0 → K (v10 + 1) w17) ∧ (r16 = 0 → QX "java/lang/IllegalStateException" w17)))))
def vb_X6_convert_124 (f5 : Int32) (f6 : Int32) (f8 : Nat) (f9 : Nat) (Q : Int32 → sj_W → Prop) (QX : String → sj_W → Prop) (E : sj_W → Prop) (K : Int32 → sj_W → Prop) (v10 : Int32) (w : sj_W) : Prop := sj_T w f8 = 2 ∧ (((sj_I w 9 f8) ≤ v10 → E w) ∧ (¬ (sj_I w 9 f8) ≤ v10 → sj_T w f9 = 2 ∧ sj_A w 8 f9 ≠ 0 ∧ sj_T w f8 = 2 ∧ sj_A w 8 f8 ≠ 0 ∧ sj_T w (sj_A w 8 f8) = 8 ∧ vp_in v10 (sj_N w (sj_A w 8 f8)) ∧ vc_X6_changed f6 f5 (sj_l w (sj_A w 8 f8) v10.toNatClampNeg) w (fun r26 w27 => sj_T w27 (sj_A w 8 f9) = 8 ∧ vp_in v10 (sj_N w27 (sj_A w 8 f9)) ∧ ∀ w29 : sj_W, w29 = sj_sl w27 (sj_A w 8 f9) v10.toNatClampNeg r26 → K (v10 + 1) w29)))
def vc_X6_convert (self : Nat) (a1 : Int32) (a2 : Int32) (a3 : Int32) (a4 : Int32) (a5 : Int32) (w : sj_W) (Q : Int32 → sj_W → Prop) (QX : String → sj_W → Prop) : Prop := vc_X6_kindOf a1 w (fun r1 w2 => vc_X6_kindOf a3 w2 (fun r4 w5 => ((a5 = 110 → sj_T w5 self = 5 ∧ vc_X6_rowOf self r1 a2 w5 (fun r8 w9 => sj_T w9 self = 5 ∧ vc_X6_rowOf self r4 a4 w9 (fun r11 w12 => sj_lp1 (vb_X6_convert_65 a5 r1 r4 r8 r11 Q QX (fun w_65 => sj_T w_65 r8 = 2 ∧ sj_T w_65 r11 = 2 ∧ ∀ w22 : sj_W, w22 = sj_sI w_65 9 r11 (sj_I w_65 9 r8) → sj_lp1 (vb_X6_convert_124 a5 r1 r8 r11 Q QX (fun w_124 => sj_T w_124 r11 = 2 ∧ Q (sj_I w_124 9 r11) w_124)) 64 0 w22)) 64 0 w12) QX) QX) ∧ (¬ a5 = 110 → ((a5 = 117 → sj_T w5 self = 5 ∧ vc_X6_rowOf self r1 a2 w5 (fun r34 w35 => sj_T w35 self = 5 ∧ vc_X6_rowOf self r4 a4 w35 (fun r37 w38 => sj_lp1 (vb_X6_convert_65 a5 r1 r4 r34 r37 Q QX (fun w_65 => sj_T w_65 r34 = 2 ∧ sj_T w_65 r37 = 2 ∧ ∀ w41 : sj_W, w41 = sj_sI w_65 9 r37 (sj_I w_65 9 r34) → sj_lp1 (vb_X6_convert_124 a5 r1 r34 r37 Q QX (fun w_124 => sj_T w_124 r37 = 2 ∧ Q (sj_I w_124 9 r37) w_124)) 64 0 w41)) 64 0 w38) QX) QX) ∧ (¬ a5 = 117 → ((a5 = 116 → sj_T w5 self = 5 ∧ vc_X6_rowOf self r1 a2 w5 (fun r46 w47 => sj_T w47 self = 5 ∧ vc_X6_rowOf self r4 a4 w47 (fun r49 w50 => sj_lp1 (vb_X6_convert_65 a5 r1 r4 r46 r49 Q QX (fun w_65 => sj_T w_65 r46 = 2 ∧ sj_T w_65 r49 = 2 ∧ ∀ w53 : sj_W, w53 = sj_sI w_65 9 r49 (sj_I w_65 9 r46) → sj_lp1 (vb_X6_convert_124 a5 r1 r46 r49 Q QX (fun w_124 => sj_T w_124 r49 = 2 ∧ Q (sj_I w_124 9 r49) w_124)) 64 0 w53)) 64 0 w50) QX) QX) ∧ (¬ a5 = 116 → QX "java/lang/IllegalArgumentException" w5))))))) QX) QX
set_option maxHeartbeats 4000000 in
set_option maxRecDepth 100000 in
theorem wl_X6_convert_65 {p : Program} {l : Launch} {e : Env} {s : State} {m : MethodId} {args : Array Value} {below : List Frame} {meth : Method} {c : Code} {G : sj_G} {f5 : Int32} {f6 : Int32} {f7 : Int32} {f8 : Nat} {f9 : Nat} {Q : Int32 → sj_W → Prop} {QX : String → sj_W → Prop} {E : sj_W → Prop} (hC : sj_C G p l s m args c cX6_convert RX6 11) (hD : sj_D meth c) (hr : meth.sig.returnType = (some .int)) (hin : meth.name = "convert") (hE : ∀ (w : sj_W) (H : Heap) (locs : List Loc) (ls : Array Slot), lv_has ls 11 [(5, .int f5), (6, .int f6), (8, .ref f8), (9, .ref f9)] → sj_H G s w H locs → E w → W p l e rm_X6_convert s m args below meth c H locs 4 24 (sj_MQ G below (va_Qi Q (sj_B G) (sj_F G)) QX args s rm_X6_convert) (F0 m 111 ls [])) : ∀ (n : Nat) (v10 : Int32) (w : sj_W) (H : Heap) (locs : List Loc) (ls : Array Slot), lv_has ls 11 [(5, .int f5), (6, .int f6), (7, .int f7), (8, .ref f8), (9, .ref f9), (10, .int v10)] → sj_H G s w H locs → sj_lp1 (vb_X6_convert_65 f5 f6 f7 f8 f9 Q QX E) n v10 w → W p l e rm_X6_convert s m args below meth c H locs 4 24 (sj_MQ G below (va_Qi Q (sj_B G) (sj_F G)) QX args s rm_X6_convert) (F0 m 65 ls []) := by
  have hx := hC.1
  have hb := hC.2.1
  intro n
  induction n with
  | zero =>
    intro v10 w H locs ls _ _ hv
    exact hv.elim
  | succ n ih =>
    intro v10 w H locs ls hl hH hv
    have hv : vb_X6_convert_65 f5 f6 f7 f8 f9 Q QX E (sj_lp1 (vb_X6_convert_65 f5 f6 f7 f8 f9 Q QX E) n) v10 w := hv
    have hc1 : rm_X6_convert.cells = 5 := rfl
    have hc2 : rm_X6_convert.slots = 30 := rfl
    refine lv_iload hx hb dX6_convert_65 (lv_at hl 5 rfl) ?_
    refine lv_aload hx hb dX6_convert_67 (lv_at hl 3 rfl) ?_
    refine gf_X6_46 hC hH hv.1 dX6_convert_69 ?_
    refine lv_icmp_ge (tgt := 111) hx hb dX6_convert_72 (by decide) (fun hc => ?_) (fun hc => ?_)
    · have hv14 := hv.2.1 hc
      exact hE  w _ _ _ (lv_sub hl [0, 1, 3, 4] rfl) hH hv14
    · have hv15 := hv.2.2 hc
      refine lv_iload hx hb dX6_convert_75 (lv_at hl 1 rfl) ?_
      refine lv_iload hx hb dX6_convert_77 (lv_at hl 0 rfl) ?_
      refine lv_aload hx hb dX6_convert_79 (lv_at hl 3 rfl) ?_
      refine gf_X6_57 hC hH hv15.1 hv15.2.1 dX6_convert_81 ?_
      refine lv_iload hx hb dX6_convert_84 (lv_at hl 5 rfl) ?_
      refine sj_lald hC hH hv15.2.2.1 hv15.2.2.2.1 dX6_convert_86 ?_
      refine lv_iload hx hb dX6_convert_87 (lv_at hl 2 rfl) ?_
      refine cl_X6_79 hC hD hH hv15.2.2.2.2 ⟨Nat.le_of_ble_eq_true rfl, Nat.le_of_ble_eq_true rfl⟩ ⟨(Nat.le_of_ble_eq_true rfl), (Nat.le_of_ble_eq_true rfl)⟩ ⟨(Nat.le_of_ble_eq_true rfl), (Nat.le_of_ble_eq_true rfl)⟩ hl.1 (Nat.le_of_ble_eq_true rfl) dX6_convert_89 (fun r16 w17 H locs hH hv18 => ?_)
      refine lv_if_ne (tgt := 105) hx hb dX6_convert_92 (by decide) (fun hc => ?_) (fun hc => ?_)
      · have hv19 := hv18.1 hc
        refine lv_iinc (v := (v10 + 1)) (lv' := [(10, .int (v10 + 1)), (5, .int f5), (6, .int f6), (7, .int f7), (8, .ref f8), (9, .ref f9)]) hx hb dX6_convert_105 hl (k := 5) rfl rfl (by decide) rfl (fun ls hl => ?_)
        refine lv_goto (tgt := 65) hx hb dX6_convert_108 (by decide) ?_
        exact ih (v10 + 1) w17 _ _ _ (lv_sub hl [1, 2, 3, 4, 5, 0] rfl) hH hv19
      · have hv20 := hv18.2 hc
        exact th_X6_83_54 hC hD hH hl.1 dX6_convert_95 dX6_convert_98 dX6_convert_99 dX6_convert_101 dX6_convert_104 ⟨Nat.le_of_ble_eq_true rfl, Nat.le_of_ble_eq_true rfl⟩ ⟨(Nat.le_of_ble_eq_true rfl), (Nat.le_of_ble_eq_true rfl)⟩ ⟨(Nat.le_of_ble_eq_true rfl), (Nat.le_of_ble_eq_true rfl)⟩ hv20
set_option maxHeartbeats 4000000 in
set_option maxRecDepth 100000 in
theorem wl_X6_convert_124 {p : Program} {l : Launch} {e : Env} {s : State} {m : MethodId} {args : Array Value} {below : List Frame} {meth : Method} {c : Code} {G : sj_G} {f5 : Int32} {f6 : Int32} {f8 : Nat} {f9 : Nat} {Q : Int32 → sj_W → Prop} {QX : String → sj_W → Prop} {E : sj_W → Prop} (hC : sj_C G p l s m args c cX6_convert RX6 11) (hD : sj_D meth c) (hr : meth.sig.returnType = (some .int)) (hin : meth.name = "convert") (hE : ∀ (w : sj_W) (H : Heap) (locs : List Loc) (ls : Array Slot), lv_has ls 11 [(9, .ref f9)] → sj_H G s w H locs → E w → W p l e rm_X6_convert s m args below meth c H locs 4 24 (sj_MQ G below (va_Qi Q (sj_B G) (sj_F G)) QX args s rm_X6_convert) (F0 m 163 ls [])) : ∀ (n : Nat) (v10 : Int32) (w : sj_W) (H : Heap) (locs : List Loc) (ls : Array Slot), lv_has ls 11 [(5, .int f5), (6, .int f6), (8, .ref f8), (9, .ref f9), (10, .int v10)] → sj_H G s w H locs → sj_lp1 (vb_X6_convert_124 f5 f6 f8 f9 Q QX E) n v10 w → W p l e rm_X6_convert s m args below meth c H locs 4 24 (sj_MQ G below (va_Qi Q (sj_B G) (sj_F G)) QX args s rm_X6_convert) (F0 m 124 ls []) := by
  have hx := hC.1
  have hb := hC.2.1
  intro n
  induction n with
  | zero =>
    intro v10 w H locs ls _ _ hv
    exact hv.elim
  | succ n ih =>
    intro v10 w H locs ls hl hH hv
    have hv : vb_X6_convert_124 f5 f6 f8 f9 Q QX E (sj_lp1 (vb_X6_convert_124 f5 f6 f8 f9 Q QX E) n) v10 w := hv
    have hc1 : rm_X6_convert.cells = 5 := rfl
    have hc2 : rm_X6_convert.slots = 30 := rfl
    refine lv_iload hx hb dX6_convert_124 (lv_at hl 4 rfl) ?_
    refine lv_aload hx hb dX6_convert_126 (lv_at hl 2 rfl) ?_
    refine gf_X6_46 hC hH hv.1 dX6_convert_128 ?_
    refine lv_icmp_ge (tgt := 163) hx hb dX6_convert_131 (by decide) (fun hc => ?_) (fun hc => ?_)
    · have hv24 := hv.2.1 hc
      exact hE  w _ _ _ (lv_sub hl [3] rfl) hH hv24
    · have hv25 := hv.2.2 hc
      refine lv_aload hx hb dX6_convert_134 (lv_at hl 3 rfl) ?_
      refine gf_X6_57 hC hH hv25.1 hv25.2.1 dX6_convert_136 ?_
      refine lv_iload hx hb dX6_convert_139 (lv_at hl 4 rfl) ?_
      refine lv_iload hx hb dX6_convert_141 (lv_at hl 1 rfl) ?_
      refine lv_iload hx hb dX6_convert_143 (lv_at hl 0 rfl) ?_
      refine lv_aload hx hb dX6_convert_145 (lv_at hl 2 rfl) ?_
      refine gf_X6_57 hC hH hv25.2.2.1 hv25.2.2.2.1 dX6_convert_147 ?_
      refine lv_iload hx hb dX6_convert_150 (lv_at hl 4 rfl) ?_
      refine sj_lald hC hH hv25.2.2.2.2.1 hv25.2.2.2.2.2.1 dX6_convert_152 ?_
      refine cl_X6_85 hC hD hH hv25.2.2.2.2.2.2 ⟨Nat.le_of_ble_eq_true rfl, Nat.le_of_ble_eq_true rfl⟩ ⟨(Nat.le_of_ble_eq_true rfl), (Nat.le_of_ble_eq_true rfl)⟩ ⟨(Nat.le_of_ble_eq_true rfl), (Nat.le_of_ble_eq_true rfl)⟩ hl.1 (Nat.le_of_ble_eq_true rfl) dX6_convert_153 (fun r26 w27 H locs hH hv28 => ?_)
      refine sj_last hC hH hv28.1 hv28.2.1 dX6_convert_156 (fun w29 H locs e30 hH => ?_)
      refine lv_iinc (v := (v10 + 1)) (lv' := [(10, .int (v10 + 1)), (5, .int f5), (6, .int f6), (8, .ref f8), (9, .ref f9)]) hx hb dX6_convert_157 hl (k := 4) rfl rfl (by decide) rfl (fun ls hl => ?_)
      refine lv_goto (tgt := 124) hx hb dX6_convert_160 (by decide) ?_
      exact ih (v10 + 1) w29 _ _ _ (lv_sub hl [1, 2, 3, 4, 0] rfl) hH (hv28.2.2 w29 e30)
set_option maxHeartbeats 4000000 in
set_option maxRecDepth 100000 in
theorem wk_X6_convert (G : sj_G) (l : Launch) (hlt : l.stackTraces = false) (self : Nat) (a1 : Int32) (a2 : Int32) (a3 : Int32) (a4 : Int32) (a5 : Int32) (w : sj_W) (Q : Int32 → sj_W → Prop) (QX : String → sj_W → Prop) (hv : vc_X6_convert self a1 a2 a3 a4 a5 w Q QX) : sj_MI G l yX6_convert (sj_ws yX6_convert cX6_convert 11 (some .int)) rm_X6_convert [.ref self, .int a1, .int a2, .int a3, .int a4, .int a5] w Q QX := by
  refine sj_of (by decide +kernel) (Nat.le_of_ble_eq_true rfl) hlt ?_
  intro p e s m args below meth c ls hC hD hr hin hH hl
  have hx := hC.1
  have hb := hC.2.1
  have hl : lv_has ls 11 [(0, .ref self), (1, .int a1), (2, .int a2), (3, .int a3), (4, .int a4), (5, .int a5)] := hl
  refine lv_iload_n hx hb dX6_convert_0 rfl (lv_at hl 1 rfl) ?_
  refine cl_X6_34 hC hD hH hv ⟨Nat.le_of_ble_eq_true rfl, Nat.le_of_ble_eq_true rfl⟩ ⟨(Nat.le_of_ble_eq_true rfl), (Nat.le_of_ble_eq_true rfl)⟩ ⟨(Nat.le_of_ble_eq_true rfl), (Nat.le_of_ble_eq_true rfl)⟩ hl.1 (Nat.le_of_ble_eq_true rfl) dX6_convert_1 (fun r1 w2 H locs hH hv3 => ?_)
  refine lv_istore (lv' := [(6, .int r1), (0, .ref self), (1, .int a1), (2, .int a2), (3, .int a3), (4, .int a4), (5, .int a5)]) hx hb dX6_convert_4 hl (by decide) rfl (fun ls hl => ?_)
  refine lv_iload_n hx hb dX6_convert_6 rfl (lv_at hl 4 rfl) ?_
  refine cl_X6_34 hC hD hH hv3 ⟨Nat.le_of_ble_eq_true rfl, Nat.le_of_ble_eq_true rfl⟩ ⟨(Nat.le_of_ble_eq_true rfl), (Nat.le_of_ble_eq_true rfl)⟩ ⟨(Nat.le_of_ble_eq_true rfl), (Nat.le_of_ble_eq_true rfl)⟩ hl.1 (Nat.le_of_ble_eq_true rfl) dX6_convert_7 (fun r4 w5 H locs hH hv6 => ?_)
  refine lv_istore (lv' := [(7, .int r4), (6, .int r1), (0, .ref self), (1, .int a1), (2, .int a2), (3, .int a3), (4, .int a4), (5, .int a5)]) hx hb dX6_convert_10 hl (by decide) rfl (fun ls hl => ?_)
  refine lv_iload hx hb dX6_convert_12 (lv_at hl 7 rfl) ?_
  refine lv_bipush (v := 110) hx hb dX6_convert_14 (by decide) ?_
  refine lv_icmp_eq (tgt := 43) hx hb dX6_convert_16 (by decide) (fun hc => ?_) (fun hc => ?_)
  · have hv7 := hv6.1 hc
    refine lv_aload_n hx hb dX6_convert_43 rfl (lv_at hl 2 rfl) ?_
    refine lv_iload hx hb dX6_convert_44 (lv_at hl 1 rfl) ?_
    refine lv_iload_n hx hb dX6_convert_46 rfl (lv_at hl 4 rfl) ?_
    refine cl_X6_42 hC hD hH hv7.2 hv7.1 ⟨Nat.le_of_ble_eq_true rfl, Nat.le_of_ble_eq_true rfl⟩ ⟨(Nat.le_of_ble_eq_true rfl), (Nat.le_of_ble_eq_true rfl)⟩ ⟨(Nat.le_of_ble_eq_true rfl), (Nat.le_of_ble_eq_true rfl)⟩ hl.1 (Nat.le_of_ble_eq_true rfl) dX6_convert_47 (fun r8 w9 H locs hH hv10 => ?_)
    refine lv_astore (lv' := [(8, .ref r8), (7, .int r4), (6, .int r1), (0, .ref self), (1, .int a1), (2, .int a2), (3, .int a3), (4, .int a4), (5, .int a5)]) hx hb dX6_convert_50 hl (by decide) rfl (fun ls hl => ?_)
    refine lv_aload_n hx hb dX6_convert_52 rfl (lv_at hl 3 rfl) ?_
    refine lv_iload hx hb dX6_convert_53 (lv_at hl 1 rfl) ?_
    refine lv_iload hx hb dX6_convert_55 (lv_at hl 7 rfl) ?_
    refine cl_X6_42 hC hD hH hv10.2 hv10.1 ⟨Nat.le_of_ble_eq_true rfl, Nat.le_of_ble_eq_true rfl⟩ ⟨(Nat.le_of_ble_eq_true rfl), (Nat.le_of_ble_eq_true rfl)⟩ ⟨(Nat.le_of_ble_eq_true rfl), (Nat.le_of_ble_eq_true rfl)⟩ hl.1 (Nat.le_of_ble_eq_true rfl) dX6_convert_57 (fun r11 w12 H locs hH hv13 => ?_)
    refine lv_astore (lv' := [(9, .ref r11), (8, .ref r8), (7, .int r4), (6, .int r1), (0, .ref self), (1, .int a1), (2, .int a2), (3, .int a3), (4, .int a4), (5, .int a5)]) hx hb dX6_convert_60 hl (by decide) rfl (fun ls hl => ?_)
    refine lv_iconst (v := 0) hx hb dX6_convert_62 (by decide) ?_
    refine lv_istore (lv' := [(10, .int 0), (9, .ref r11), (8, .ref r8), (7, .int r4), (6, .int r1), (0, .ref self), (1, .int a1), (2, .int a2), (3, .int a3), (4, .int a4), (5, .int a5)]) hx hb dX6_convert_63 hl (by decide) rfl (fun ls hl => ?_)
    refine wl_X6_convert_65 hC hD hr hin (fun w_65 H locs ls hl hH hv21 => ?_) 64 0 w12 _ _ _ (lv_sub hl [10, 4, 3, 2, 1, 0] rfl) hH hv13
    refine lv_aload hx hb dX6_convert_111 (lv_at hl 3 rfl) ?_
    refine lv_aload hx hb dX6_convert_113 (lv_at hl 2 rfl) ?_
    refine gf_X6_46 hC hH hv21.1 dX6_convert_115 ?_
    refine pf_X6_46 hC hH hv21.2.1 dX6_convert_118 (fun w22 H locs e23 hH => ?_)
    refine lv_iconst (v := 0) hx hb dX6_convert_121 (by decide) ?_
    refine lv_istore (lv' := [(10, .int 0), (5, .int a5), (6, .int r1), (8, .ref r8), (9, .ref r11)]) hx hb dX6_convert_122 hl (by decide) rfl (fun ls hl => ?_)
    refine wl_X6_convert_124 hC hD hr hin (fun w_124 H locs ls hl hH hv31 => ?_) 64 0 w22 _ _ _ (lv_sub hl [1, 2, 3, 4, 0] rfl) hH (hv21.2.2 w22 e23)
    refine lv_aload hx hb dX6_convert_163 (lv_at hl 0 rfl) ?_
    refine gf_X6_46 hC hH hv31.1 dX6_convert_165 ?_
    exact sj_retI hC hD.2 hH hr rfl hv31.2 ⟨(Nat.le_of_ble_eq_true rfl), (Nat.le_of_ble_eq_true rfl)⟩ dX6_convert_168
  · have hv32 := hv6.2 hc
    refine lv_iload hx hb dX6_convert_19 (lv_at hl 7 rfl) ?_
    refine lv_bipush (v := 117) hx hb dX6_convert_21 (by decide) ?_
    refine lv_icmp_eq (tgt := 43) hx hb dX6_convert_23 (by decide) (fun hc => ?_) (fun hc => ?_)
    · have hv33 := hv32.1 hc
      refine lv_aload_n hx hb dX6_convert_43 rfl (lv_at hl 2 rfl) ?_
      refine lv_iload hx hb dX6_convert_44 (lv_at hl 1 rfl) ?_
      refine lv_iload_n hx hb dX6_convert_46 rfl (lv_at hl 4 rfl) ?_
      refine cl_X6_42 hC hD hH hv33.2 hv33.1 ⟨Nat.le_of_ble_eq_true rfl, Nat.le_of_ble_eq_true rfl⟩ ⟨(Nat.le_of_ble_eq_true rfl), (Nat.le_of_ble_eq_true rfl)⟩ ⟨(Nat.le_of_ble_eq_true rfl), (Nat.le_of_ble_eq_true rfl)⟩ hl.1 (Nat.le_of_ble_eq_true rfl) dX6_convert_47 (fun r34 w35 H locs hH hv36 => ?_)
      refine lv_astore (lv' := [(8, .ref r34), (7, .int r4), (6, .int r1), (0, .ref self), (1, .int a1), (2, .int a2), (3, .int a3), (4, .int a4), (5, .int a5)]) hx hb dX6_convert_50 hl (by decide) rfl (fun ls hl => ?_)
      refine lv_aload_n hx hb dX6_convert_52 rfl (lv_at hl 3 rfl) ?_
      refine lv_iload hx hb dX6_convert_53 (lv_at hl 1 rfl) ?_
      refine lv_iload hx hb dX6_convert_55 (lv_at hl 7 rfl) ?_
      refine cl_X6_42 hC hD hH hv36.2 hv36.1 ⟨Nat.le_of_ble_eq_true rfl, Nat.le_of_ble_eq_true rfl⟩ ⟨(Nat.le_of_ble_eq_true rfl), (Nat.le_of_ble_eq_true rfl)⟩ ⟨(Nat.le_of_ble_eq_true rfl), (Nat.le_of_ble_eq_true rfl)⟩ hl.1 (Nat.le_of_ble_eq_true rfl) dX6_convert_57 (fun r37 w38 H locs hH hv39 => ?_)
      refine lv_astore (lv' := [(9, .ref r37), (8, .ref r34), (7, .int r4), (6, .int r1), (0, .ref self), (1, .int a1), (2, .int a2), (3, .int a3), (4, .int a4), (5, .int a5)]) hx hb dX6_convert_60 hl (by decide) rfl (fun ls hl => ?_)
      refine lv_iconst (v := 0) hx hb dX6_convert_62 (by decide) ?_
      refine lv_istore (lv' := [(10, .int 0), (9, .ref r37), (8, .ref r34), (7, .int r4), (6, .int r1), (0, .ref self), (1, .int a1), (2, .int a2), (3, .int a3), (4, .int a4), (5, .int a5)]) hx hb dX6_convert_63 hl (by decide) rfl (fun ls hl => ?_)
      refine wl_X6_convert_65 hC hD hr hin (fun w_65 H locs ls hl hH hv40 => ?_) 64 0 w38 _ _ _ (lv_sub hl [10, 4, 3, 2, 1, 0] rfl) hH hv39
      refine lv_aload hx hb dX6_convert_111 (lv_at hl 3 rfl) ?_
      refine lv_aload hx hb dX6_convert_113 (lv_at hl 2 rfl) ?_
      refine gf_X6_46 hC hH hv40.1 dX6_convert_115 ?_
      refine pf_X6_46 hC hH hv40.2.1 dX6_convert_118 (fun w41 H locs e42 hH => ?_)
      refine lv_iconst (v := 0) hx hb dX6_convert_121 (by decide) ?_
      refine lv_istore (lv' := [(10, .int 0), (5, .int a5), (6, .int r1), (8, .ref r34), (9, .ref r37)]) hx hb dX6_convert_122 hl (by decide) rfl (fun ls hl => ?_)
      refine wl_X6_convert_124 hC hD hr hin (fun w_124 H locs ls hl hH hv43 => ?_) 64 0 w41 _ _ _ (lv_sub hl [1, 2, 3, 4, 0] rfl) hH (hv40.2.2 w41 e42)
      refine lv_aload hx hb dX6_convert_163 (lv_at hl 0 rfl) ?_
      refine gf_X6_46 hC hH hv43.1 dX6_convert_165 ?_
      exact sj_retI hC hD.2 hH hr rfl hv43.2 ⟨(Nat.le_of_ble_eq_true rfl), (Nat.le_of_ble_eq_true rfl)⟩ dX6_convert_168
    · have hv44 := hv32.2 hc
      refine lv_iload hx hb dX6_convert_26 (lv_at hl 7 rfl) ?_
      refine lv_bipush (v := 116) hx hb dX6_convert_28 (by decide) ?_
      refine lv_icmp_eq (tgt := 43) hx hb dX6_convert_30 (by decide) (fun hc => ?_) (fun hc => ?_)
      · have hv45 := hv44.1 hc
        refine lv_aload_n hx hb dX6_convert_43 rfl (lv_at hl 2 rfl) ?_
        refine lv_iload hx hb dX6_convert_44 (lv_at hl 1 rfl) ?_
        refine lv_iload_n hx hb dX6_convert_46 rfl (lv_at hl 4 rfl) ?_
        refine cl_X6_42 hC hD hH hv45.2 hv45.1 ⟨Nat.le_of_ble_eq_true rfl, Nat.le_of_ble_eq_true rfl⟩ ⟨(Nat.le_of_ble_eq_true rfl), (Nat.le_of_ble_eq_true rfl)⟩ ⟨(Nat.le_of_ble_eq_true rfl), (Nat.le_of_ble_eq_true rfl)⟩ hl.1 (Nat.le_of_ble_eq_true rfl) dX6_convert_47 (fun r46 w47 H locs hH hv48 => ?_)
        refine lv_astore (lv' := [(8, .ref r46), (7, .int r4), (6, .int r1), (0, .ref self), (1, .int a1), (2, .int a2), (3, .int a3), (4, .int a4), (5, .int a5)]) hx hb dX6_convert_50 hl (by decide) rfl (fun ls hl => ?_)
        refine lv_aload_n hx hb dX6_convert_52 rfl (lv_at hl 3 rfl) ?_
        refine lv_iload hx hb dX6_convert_53 (lv_at hl 1 rfl) ?_
        refine lv_iload hx hb dX6_convert_55 (lv_at hl 7 rfl) ?_
        refine cl_X6_42 hC hD hH hv48.2 hv48.1 ⟨Nat.le_of_ble_eq_true rfl, Nat.le_of_ble_eq_true rfl⟩ ⟨(Nat.le_of_ble_eq_true rfl), (Nat.le_of_ble_eq_true rfl)⟩ ⟨(Nat.le_of_ble_eq_true rfl), (Nat.le_of_ble_eq_true rfl)⟩ hl.1 (Nat.le_of_ble_eq_true rfl) dX6_convert_57 (fun r49 w50 H locs hH hv51 => ?_)
        refine lv_astore (lv' := [(9, .ref r49), (8, .ref r46), (7, .int r4), (6, .int r1), (0, .ref self), (1, .int a1), (2, .int a2), (3, .int a3), (4, .int a4), (5, .int a5)]) hx hb dX6_convert_60 hl (by decide) rfl (fun ls hl => ?_)
        refine lv_iconst (v := 0) hx hb dX6_convert_62 (by decide) ?_
        refine lv_istore (lv' := [(10, .int 0), (9, .ref r49), (8, .ref r46), (7, .int r4), (6, .int r1), (0, .ref self), (1, .int a1), (2, .int a2), (3, .int a3), (4, .int a4), (5, .int a5)]) hx hb dX6_convert_63 hl (by decide) rfl (fun ls hl => ?_)
        refine wl_X6_convert_65 hC hD hr hin (fun w_65 H locs ls hl hH hv52 => ?_) 64 0 w50 _ _ _ (lv_sub hl [10, 4, 3, 2, 1, 0] rfl) hH hv51
        refine lv_aload hx hb dX6_convert_111 (lv_at hl 3 rfl) ?_
        refine lv_aload hx hb dX6_convert_113 (lv_at hl 2 rfl) ?_
        refine gf_X6_46 hC hH hv52.1 dX6_convert_115 ?_
        refine pf_X6_46 hC hH hv52.2.1 dX6_convert_118 (fun w53 H locs e54 hH => ?_)
        refine lv_iconst (v := 0) hx hb dX6_convert_121 (by decide) ?_
        refine lv_istore (lv' := [(10, .int 0), (5, .int a5), (6, .int r1), (8, .ref r46), (9, .ref r49)]) hx hb dX6_convert_122 hl (by decide) rfl (fun ls hl => ?_)
        refine wl_X6_convert_124 hC hD hr hin (fun w_124 H locs ls hl hH hv55 => ?_) 64 0 w53 _ _ _ (lv_sub hl [1, 2, 3, 4, 0] rfl) hH (hv52.2.2 w53 e54)
        refine lv_aload hx hb dX6_convert_163 (lv_at hl 0 rfl) ?_
        refine gf_X6_46 hC hH hv55.1 dX6_convert_165 ?_
        exact sj_retI hC hD.2 hH hr rfl hv55.2 ⟨(Nat.le_of_ble_eq_true rfl), (Nat.le_of_ble_eq_true rfl)⟩ dX6_convert_168
      · have hv56 := hv44.2 hc
        exact th_X6_77_69 hC hD hH hl.1 dX6_convert_33 dX6_convert_36 dX6_convert_37 dX6_convert_39 dX6_convert_42 ⟨Nat.le_of_ble_eq_true rfl, Nat.le_of_ble_eq_true rfl⟩ ⟨(Nat.le_of_ble_eq_true rfl), (Nat.le_of_ble_eq_true rfl)⟩ ⟨(Nat.le_of_ble_eq_true rfl), (Nat.le_of_ble_eq_true rfl)⟩ hv56
section SJL_X6_convert
variable {p : Program} {l : Launch} {e : Env} {R : Room} {s : State} {m : MethodId} {args : Array Value} {below : List Frame} {meth : Method} {c : Code} {H : Heap} {locs : List Loc} {cells slots : Nat} {Q : State → Prop} {cc : ByteArray} {pc : Nat} {ls : Array Slot} {rest : List Value} {G : sj_G} {nL : Nat} {w : sj_W}
theorem cx_L_45 {QX : String → sj_W → Prop} {b : Nat} {b0 : Int32} {b1 : Int32} {b2 : Int32} {b3 : Int32} {b4 : Int32} {Qi : Int32 → sj_W → Prop} (hC : sj_C G p l s m args c cc RL nL) (hH : sj_H G s w H locs) (hv : vc_X6_convert b b0 b1 b2 b3 b4 w Qi QX) (hT : sj_T w b = 5) (hR : rm_X6_convert.frames + 1 ≤ R.frames ∧ 8 + (11 + 11) + rm_X6_convert.locals ≤ R.locals) (hf : cells + 5 ≤ R.cells ∧ slots + 30 ≤ R.slots) (hls : ls.size = nL) (hW : (rest.map fun v => v.category).sum ≤ 8) (hdg : decode cc pc = .ok (.invokevirtual 45, 3)) (kx : ∀ (E : String) (ce : Cell) (q9 : Addr) (w1 : sj_W) (H1 : Heap) (locs1 : List Loc), sj_H G s w1 H1 locs1 → QX E w1 → H1[q9]? = some ce → ce.vm = .none → s.vm.findClass E = some ce.cls → vx_W p l e R s m args below meth c H1 locs1 (cells + 5) (slots + 30) Q (F0 m pc ls rest) q9) (kk : ∀ (r : Int32) (w1 : sj_W) (H : Heap) (locs : List Loc), sj_H G s w1 H locs → Qi r w1 → W p l e R s m args below meth c H locs (cells + 5) (slots + 30) Q (F0 m (pc + 3) ls (.int r :: rest))) : W p l e R s m args below meth c H locs cells slots Q (F0 m pc ls (.int b4 :: .int b3 :: .int b2 :: .int b1 :: .int b0 :: .ref b :: rest)) :=
  sj_xI hH (sj_runV (n := 5) hC hH (As := [.int b0, .int b1, .int b2, .int b3, .int b4]) (wk_X6_convert G l hC.2.2.2.2.2.2 b b0 b1 b2 b3 b4 w Qi QX hv) (ci := 4) rfl (by decide) hT mb_314 mb_315 mb_316 mb_1 mb_317 (by decide +kernel) hR hf rfl hls hW hdg) kx kk
end SJL_X6_convert
abbrev rm_X6_cut : Room := { frames := 8, cells := 3, slots := 18, locals := 124 }
def vb_X6_cut_53 (f3 : Int32) (f5 : Nat) (Q : Int32 → sj_W → Prop) (QX : String → sj_W → Prop) (E : sj_W → Prop) (K : Int32 → sj_W → Prop) (v6 : Int32) (w : sj_W) : Prop := sj_T w f5 = 2 ∧ (((sj_I w 9 f5) ≤ v6 → E w) ∧ (¬ (sj_I w 9 f5) ≤ v6 → sj_T w f5 = 2 ∧ sj_A w 8 f5 ≠ 0 ∧ sj_T w f5 = 2 ∧ sj_A w 8 f5 ≠ 0 ∧ sj_T w (sj_A w 8 f5) = 8 ∧ vp_in (f3 + v6) (sj_N w (sj_A w 8 f5)) ∧ sj_T w (sj_A w 8 f5) = 8 ∧ vp_in v6 (sj_N w (sj_A w 8 f5)) ∧ ∀ w16 : sj_W, w16 = sj_sl w (sj_A w 8 f5) v6.toNatClampNeg (sj_l w (sj_A w 8 f5) (f3 + v6).toNatClampNeg) → K (v6 + 1) w16))
def vc_X6_cut (self : Nat) (a1 : Int32) (a2 : Int32) (a3 : Int32) (a4 : Int32) (w : sj_W) (Q : Int32 → sj_W → Prop) (QX : String → sj_W → Prop) : Prop := vc_X6_kindOf a1 w (fun r1 w2 => sj_T w2 self = 5 ∧ vc_X6_rowOf self r1 a2 w2 (fun r4 w5 => ((a3 < 0 → QX "java/lang/IndexOutOfBoundsException" w5) ∧ (¬ a3 < 0 → ((a4 < a3 → QX "java/lang/IndexOutOfBoundsException" w5) ∧ (¬ a4 < a3 → sj_T w5 r4 = 2 ∧ ((a4 ≤ (sj_I w5 9 r4) → sj_T w5 r4 = 2 ∧ ∀ w12 : sj_W, w12 = sj_sI w5 9 r4 (a4 - a3) → sj_lp1 (vb_X6_cut_53 a3 r4 Q QX (fun w_53 => sj_T w_53 r4 = 2 ∧ Q (sj_I w_53 9 r4) w_53)) 64 0 w12) ∧ (¬ a4 ≤ (sj_I w5 9 r4) → QX "java/lang/IndexOutOfBoundsException" w5))))))) QX) QX
set_option maxHeartbeats 4000000 in
set_option maxRecDepth 100000 in
theorem wl_X6_cut_53 {p : Program} {l : Launch} {e : Env} {s : State} {m : MethodId} {args : Array Value} {below : List Frame} {meth : Method} {c : Code} {G : sj_G} {f3 : Int32} {f5 : Nat} {Q : Int32 → sj_W → Prop} {QX : String → sj_W → Prop} {E : sj_W → Prop} (hC : sj_C G p l s m args c cX6_cut RX6 7) (hD : sj_D meth c) (hr : meth.sig.returnType = (some .int)) (hin : meth.name = "cut") (hE : ∀ (w : sj_W) (H : Heap) (locs : List Loc) (ls : Array Slot), lv_has ls 7 [(5, .ref f5)] → sj_H G s w H locs → E w → W p l e rm_X6_cut s m args below meth c H locs 2 12 (sj_MQ G below (va_Qi Q (sj_B G) (sj_F G)) QX args s rm_X6_cut) (F0 m 87 ls [])) : ∀ (n : Nat) (v6 : Int32) (w : sj_W) (H : Heap) (locs : List Loc) (ls : Array Slot), lv_has ls 7 [(3, .int f3), (5, .ref f5), (6, .int v6)] → sj_H G s w H locs → sj_lp1 (vb_X6_cut_53 f3 f5 Q QX E) n v6 w → W p l e rm_X6_cut s m args below meth c H locs 2 12 (sj_MQ G below (va_Qi Q (sj_B G) (sj_F G)) QX args s rm_X6_cut) (F0 m 53 ls []) := by
  have hx := hC.1
  have hb := hC.2.1
  intro n
  induction n with
  | zero =>
    intro v6 w H locs ls _ _ hv
    exact hv.elim
  | succ n ih =>
    intro v6 w H locs ls hl hH hv
    have hv : vb_X6_cut_53 f3 f5 Q QX E (sj_lp1 (vb_X6_cut_53 f3 f5 Q QX E) n) v6 w := hv
    have hc1 : rm_X6_cut.cells = 3 := rfl
    have hc2 : rm_X6_cut.slots = 18 := rfl
    refine lv_iload hx hb dX6_cut_53 (lv_at hl 2 rfl) ?_
    refine lv_aload hx hb dX6_cut_55 (lv_at hl 1 rfl) ?_
    refine gf_X6_46 hC hH hv.1 dX6_cut_57 ?_
    refine lv_icmp_ge (tgt := 87) hx hb dX6_cut_60 (by decide) (fun hc => ?_) (fun hc => ?_)
    · have hv14 := hv.2.1 hc
      exact hE  w _ _ _ (lv_sub hl [1] rfl) hH hv14
    · have hv15 := hv.2.2 hc
      refine lv_aload hx hb dX6_cut_63 (lv_at hl 1 rfl) ?_
      refine gf_X6_57 hC hH hv15.1 hv15.2.1 dX6_cut_65 ?_
      refine lv_iload hx hb dX6_cut_68 (lv_at hl 2 rfl) ?_
      refine lv_aload hx hb dX6_cut_70 (lv_at hl 1 rfl) ?_
      refine gf_X6_57 hC hH hv15.2.2.1 hv15.2.2.2.1 dX6_cut_72 ?_
      refine lv_iload_n hx hb dX6_cut_75 rfl (lv_at hl 0 rfl) ?_
      refine lv_iload hx hb dX6_cut_76 (lv_at hl 2 rfl) ?_
      refine lv_iadd hx hb dX6_cut_78 ?_
      refine sj_lald hC hH hv15.2.2.2.2.1 hv15.2.2.2.2.2.1 dX6_cut_79 ?_
      refine sj_last hC hH hv15.2.2.2.2.2.2.1 hv15.2.2.2.2.2.2.2.1 dX6_cut_80 (fun w16 H locs e17 hH => ?_)
      refine lv_iinc (v := (v6 + 1)) (lv' := [(6, .int (v6 + 1)), (3, .int f3), (5, .ref f5)]) hx hb dX6_cut_81 hl (k := 2) rfl rfl (by decide) rfl (fun ls hl => ?_)
      refine lv_goto (tgt := 53) hx hb dX6_cut_84 (by decide) ?_
      exact ih (v6 + 1) w16 _ _ _ (lv_sub hl [1, 2, 0] rfl) hH (hv15.2.2.2.2.2.2.2.2 w16 e17)
set_option maxHeartbeats 4000000 in
set_option maxRecDepth 100000 in
theorem wk_X6_cut (G : sj_G) (l : Launch) (hlt : l.stackTraces = false) (self : Nat) (a1 : Int32) (a2 : Int32) (a3 : Int32) (a4 : Int32) (w : sj_W) (Q : Int32 → sj_W → Prop) (QX : String → sj_W → Prop) (hv : vc_X6_cut self a1 a2 a3 a4 w Q QX) : sj_MI G l yX6_cut (sj_ws yX6_cut cX6_cut 7 (some .int)) rm_X6_cut [.ref self, .int a1, .int a2, .int a3, .int a4] w Q QX := by
  refine sj_of (by decide +kernel) (Nat.le_of_ble_eq_true rfl) hlt ?_
  intro p e s m args below meth c ls hC hD hr hin hH hl
  have hx := hC.1
  have hb := hC.2.1
  have hl : lv_has ls 7 [(0, .ref self), (1, .int a1), (2, .int a2), (3, .int a3), (4, .int a4)] := hl
  refine lv_aload_n hx hb dX6_cut_0 rfl (lv_at hl 0 rfl) ?_
  refine lv_iload_n hx hb dX6_cut_1 rfl (lv_at hl 1 rfl) ?_
  refine cl_X6_34 hC hD hH hv ⟨Nat.le_of_ble_eq_true rfl, Nat.le_of_ble_eq_true rfl⟩ ⟨(Nat.le_of_ble_eq_true rfl), (Nat.le_of_ble_eq_true rfl)⟩ ⟨(Nat.le_of_ble_eq_true rfl), (Nat.le_of_ble_eq_true rfl)⟩ hl.1 (Nat.le_of_ble_eq_true rfl) dX6_cut_2 (fun r1 w2 H locs hH hv3 => ?_)
  refine lv_iload_n hx hb dX6_cut_5 rfl (lv_at hl 2 rfl) ?_
  refine cl_X6_42 hC hD hH hv3.2 hv3.1 ⟨Nat.le_of_ble_eq_true rfl, Nat.le_of_ble_eq_true rfl⟩ ⟨(Nat.le_of_ble_eq_true rfl), (Nat.le_of_ble_eq_true rfl)⟩ ⟨(Nat.le_of_ble_eq_true rfl), (Nat.le_of_ble_eq_true rfl)⟩ hl.1 (Nat.le_of_ble_eq_true rfl) dX6_cut_6 (fun r4 w5 H locs hH hv6 => ?_)
  refine lv_astore (lv' := [(5, .ref r4), (0, .ref self), (1, .int a1), (2, .int a2), (3, .int a3), (4, .int a4)]) hx hb dX6_cut_9 hl (by decide) rfl (fun ls hl => ?_)
  refine lv_iload_n hx hb dX6_cut_11 rfl (lv_at hl 4 rfl) ?_
  refine lv_if_lt (tgt := 31) hx hb dX6_cut_12 (by decide) (fun hc => ?_) (fun hc => ?_)
  · have hv7 := hv6.1 hc
    exact th_X6_74_76 hC hD hH hl.1 dX6_cut_31 dX6_cut_34 dX6_cut_35 dX6_cut_37 dX6_cut_40 ⟨Nat.le_of_ble_eq_true rfl, Nat.le_of_ble_eq_true rfl⟩ ⟨(Nat.le_of_ble_eq_true rfl), (Nat.le_of_ble_eq_true rfl)⟩ ⟨(Nat.le_of_ble_eq_true rfl), (Nat.le_of_ble_eq_true rfl)⟩ hv7
  · have hv8 := hv6.2 hc
    refine lv_iload hx hb dX6_cut_15 (lv_at hl 5 rfl) ?_
    refine lv_iload_n hx hb dX6_cut_17 rfl (lv_at hl 4 rfl) ?_
    refine lv_icmp_lt (tgt := 31) hx hb dX6_cut_18 (by decide) (fun hc => ?_) (fun hc => ?_)
    · have hv9 := hv8.1 hc
      exact th_X6_74_76 hC hD hH hl.1 dX6_cut_31 dX6_cut_34 dX6_cut_35 dX6_cut_37 dX6_cut_40 ⟨Nat.le_of_ble_eq_true rfl, Nat.le_of_ble_eq_true rfl⟩ ⟨(Nat.le_of_ble_eq_true rfl), (Nat.le_of_ble_eq_true rfl)⟩ ⟨(Nat.le_of_ble_eq_true rfl), (Nat.le_of_ble_eq_true rfl)⟩ hv9
    · have hv10 := hv8.2 hc
      refine lv_iload hx hb dX6_cut_21 (lv_at hl 5 rfl) ?_
      refine lv_aload hx hb dX6_cut_23 (lv_at hl 0 rfl) ?_
      refine gf_X6_46 hC hH hv10.1 dX6_cut_25 ?_
      refine lv_icmp_le (tgt := 41) hx hb dX6_cut_28 (by decide) (fun hc => ?_) (fun hc => ?_)
      · have hv11 := hv10.2.1 hc
        refine lv_aload hx hb dX6_cut_41 (lv_at hl 0 rfl) ?_
        refine lv_iload hx hb dX6_cut_43 (lv_at hl 5 rfl) ?_
        refine lv_iload_n hx hb dX6_cut_45 rfl (lv_at hl 4 rfl) ?_
        refine lv_isub hx hb dX6_cut_46 ?_
        refine pf_X6_46 hC hH hv11.1 dX6_cut_47 (fun w12 H locs e13 hH => ?_)
        refine lv_iconst (v := 0) hx hb dX6_cut_50 (by decide) ?_
        refine lv_istore (lv' := [(6, .int 0), (5, .ref r4), (0, .ref self), (1, .int a1), (2, .int a2), (3, .int a3), (4, .int a4)]) hx hb dX6_cut_51 hl (by decide) rfl (fun ls hl => ?_)
        refine wl_X6_cut_53 hC hD hr hin (fun w_53 H locs ls hl hH hv18 => ?_) 64 0 w12 _ _ _ (lv_sub hl [5, 1, 0] rfl) hH (hv11.2 w12 e13)
        refine lv_aload hx hb dX6_cut_87 (lv_at hl 0 rfl) ?_
        refine gf_X6_46 hC hH hv18.1 dX6_cut_89 ?_
        exact sj_retI hC hD.2 hH hr rfl hv18.2 ⟨(Nat.le_of_ble_eq_true rfl), (Nat.le_of_ble_eq_true rfl)⟩ dX6_cut_92
      · have hv19 := hv10.2.2 hc
        exact th_X6_74_76 hC hD hH hl.1 dX6_cut_31 dX6_cut_34 dX6_cut_35 dX6_cut_37 dX6_cut_40 ⟨Nat.le_of_ble_eq_true rfl, Nat.le_of_ble_eq_true rfl⟩ ⟨(Nat.le_of_ble_eq_true rfl), (Nat.le_of_ble_eq_true rfl)⟩ ⟨(Nat.le_of_ble_eq_true rfl), (Nat.le_of_ble_eq_true rfl)⟩ hv19
section SJL_X6_cut
variable {p : Program} {l : Launch} {e : Env} {R : Room} {s : State} {m : MethodId} {args : Array Value} {below : List Frame} {meth : Method} {c : Code} {H : Heap} {locs : List Loc} {cells slots : Nat} {Q : State → Prop} {cc : ByteArray} {pc : Nat} {ls : Array Slot} {rest : List Value} {G : sj_G} {nL : Nat} {w : sj_W}
theorem cx_L_41 {QX : String → sj_W → Prop} {b : Nat} {b0 : Int32} {b1 : Int32} {b2 : Int32} {b3 : Int32} {Qi : Int32 → sj_W → Prop} (hC : sj_C G p l s m args c cc RL nL) (hH : sj_H G s w H locs) (hv : vc_X6_cut b b0 b1 b2 b3 w Qi QX) (hT : sj_T w b = 5) (hR : rm_X6_cut.frames + 1 ≤ R.frames ∧ 8 + (7 + 11) + rm_X6_cut.locals ≤ R.locals) (hf : cells + 3 ≤ R.cells ∧ slots + 18 ≤ R.slots) (hls : ls.size = nL) (hW : (rest.map fun v => v.category).sum ≤ 8) (hdg : decode cc pc = .ok (.invokevirtual 41, 3)) (kx : ∀ (E : String) (ce : Cell) (q9 : Addr) (w1 : sj_W) (H1 : Heap) (locs1 : List Loc), sj_H G s w1 H1 locs1 → QX E w1 → H1[q9]? = some ce → ce.vm = .none → s.vm.findClass E = some ce.cls → vx_W p l e R s m args below meth c H1 locs1 (cells + 3) (slots + 18) Q (F0 m pc ls rest) q9) (kk : ∀ (r : Int32) (w1 : sj_W) (H : Heap) (locs : List Loc), sj_H G s w1 H locs → Qi r w1 → W p l e R s m args below meth c H locs (cells + 3) (slots + 18) Q (F0 m (pc + 3) ls (.int r :: rest))) : W p l e R s m args below meth c H locs cells slots Q (F0 m pc ls (.int b3 :: .int b2 :: .int b1 :: .int b0 :: .ref b :: rest)) :=
  sj_xI hH (sj_runV (n := 4) hC hH (As := [.int b0, .int b1, .int b2, .int b3]) (wk_X6_cut G l hC.2.2.2.2.2.2 b b0 b1 b2 b3 w Qi QX hv) (ci := 4) rfl (by decide) hT mb_306 mb_307 mb_308 mb_1 mb_309 (by decide +kernel) hR hf rfl hls hW hdg) kx kk
end SJL_X6_cut
abbrev rm_X0_take : Room := { frames := 0, cells := 0, slots := 0, locals := 0 }
def vb_X0_take_23 (f0 : Nat) (Q : sj_W → Prop) (E : sj_W → Prop) (K : Int32 → sj_W → Prop) (v3 : Int32) (w : sj_W) : Prop := sj_T w f0 = 1 ∧ (((sj_I w 6 f0) < v3 → E w) ∧ (¬ (sj_I w 6 f0) < v3 → sj_T w f0 = 1 ∧ sj_A w 0 f0 ≠ 0 ∧ sj_T w (sj_A w 0 f0) = 13 ∧ vp_in v3 (sj_N w (sj_A w 0 f0)) ∧ (sj_r w (sj_A w 0 f0) v3.toNatClampNeg) ≠ 0 ∧ sj_T w f0 = 1 ∧ sj_T w (sj_r w (sj_A w 0 f0) v3.toNatClampNeg) = 7 ∧ vp_in (sj_I w 6 f0) (sj_N w (sj_r w (sj_A w 0 f0) v3.toNatClampNeg)) ∧ ∀ w9 : sj_W, w9 = sj_si w (sj_r w (sj_A w 0 f0) v3.toNatClampNeg) (sj_I w 6 f0).toNatClampNeg 0 → sj_T w9 f0 = 1 ∧ sj_A w9 0 f0 ≠ 0 ∧ sj_T w9 f0 = 1 ∧ sj_T w9 (sj_A w9 0 f0) = 13 ∧ vp_in (sj_I w9 6 f0) (sj_N w9 (sj_A w9 0 f0)) ∧ (sj_r w9 (sj_A w9 0 f0) (sj_I w9 6 f0).toNatClampNeg) ≠ 0 ∧ sj_T w9 (sj_r w9 (sj_A w9 0 f0) (sj_I w9 6 f0).toNatClampNeg) = 7 ∧ vp_in v3 (sj_N w9 (sj_r w9 (sj_A w9 0 f0) (sj_I w9 6 f0).toNatClampNeg)) ∧ ∀ w11 : sj_W, w11 = sj_si w9 (sj_r w9 (sj_A w9 0 f0) (sj_I w9 6 f0).toNatClampNeg) v3.toNatClampNeg 0 → K (v3 + 1) w11))
def vb_X0_take_80 (f0 : Nat) (f3 : Int32) (Q : sj_W → Prop) (E : sj_W → Prop) (K : Int32 → sj_W → Prop) (v4 : Int32) (w : sj_W) : Prop := ((v4 < 0 → E w) ∧ (¬ v4 < 0 → sj_T w f0 = 1 ∧ sj_A w 5 f0 ≠ 0 ∧ sj_T w (sj_A w 5 f0) = 8 ∧ vp_in f3 (sj_N w (sj_A w 5 f0)) ∧ sj_T w f0 = 1 ∧ sj_A w 5 f0 ≠ 0 ∧ sj_T w (sj_A w 5 f0) = 8 ∧ vp_in v4 (sj_N w (sj_A w 5 f0)) ∧ sj_jn1 (fun (E18 : Int32 → sj_W → Prop) => ((¬ (lg_cmp (sj_l w (sj_A w 5 f0) f3.toNatClampNeg) (sj_l w (sj_A w 5 f0) v4.toNatClampNeg)) = 0 → E18 0 w) ∧ ((lg_cmp (sj_l w (sj_A w 5 f0) f3.toNatClampNeg) (sj_l w (sj_A w 5 f0) v4.toNatClampNeg)) = 0 → E18 1 w))) (fun (y0_107 : Int32) (w_107 : sj_W) => sj_T w_107 f0 = 1 ∧ sj_A w_107 0 f0 ≠ 0 ∧ sj_T w_107 (sj_A w_107 0 f0) = 13 ∧ vp_in f3 (sj_N w_107 (sj_A w_107 0 f0)) ∧ (sj_r w_107 (sj_A w_107 0 f0) f3.toNatClampNeg) ≠ 0 ∧ ((y0_107 = 0 → sj_T w_107 (sj_r w_107 (sj_A w_107 0 f0) f3.toNatClampNeg) = 7 ∧ vp_in v4 (sj_N w_107 (sj_r w_107 (sj_A w_107 0 f0) f3.toNatClampNeg)) ∧ ∀ w27 : sj_W, w27 = sj_si w_107 (sj_r w_107 (sj_A w_107 0 f0) f3.toNatClampNeg) v4.toNatClampNeg 0 → K (v4 + (-1)) w27) ∧ (¬ y0_107 = 0 → sj_T w_107 f0 = 1 ∧ sj_A w_107 0 f0 ≠ 0 ∧ sj_T w_107 (sj_A w_107 0 f0) = 13 ∧ vp_in (f3 + 1) (sj_N w_107 (sj_A w_107 0 f0)) ∧ (sj_r w_107 (sj_A w_107 0 f0) (f3 + 1).toNatClampNeg) ≠ 0 ∧ sj_T w_107 (sj_r w_107 (sj_A w_107 0 f0) (f3 + 1).toNatClampNeg) = 7 ∧ vp_in (v4 + 1) (sj_N w_107 (sj_r w_107 (sj_A w_107 0 f0) (f3 + 1).toNatClampNeg)) ∧ sj_T w_107 (sj_r w_107 (sj_A w_107 0 f0) f3.toNatClampNeg) = 7 ∧ vp_in v4 (sj_N w_107 (sj_r w_107 (sj_A w_107 0 f0) f3.toNatClampNeg)) ∧ ∀ w30 : sj_W, w30 = sj_si w_107 (sj_r w_107 (sj_A w_107 0 f0) f3.toNatClampNeg) v4.toNatClampNeg ((sj_i w_107 (sj_r w_107 (sj_A w_107 0 f0) (f3 + 1).toNatClampNeg) (v4 + 1).toNatClampNeg) + 1) → K (v4 + (-1)) w30)))))
def vb_X0_take_68 (f0 : Nat) (Q : sj_W → Prop) (E : sj_W → Prop) (K : Int32 → sj_W → Prop) (v3 : Int32) (w : sj_W) : Prop := ((v3 < 0 → E w) ∧ (¬ v3 < 0 → sj_T w f0 = 1 ∧ sj_lp1 (vb_X0_take_80 f0 v3 Q (fun w_80 => K (v3 + (-1)) w_80)) 64 ((sj_I w 6 f0) - 1) w))
def vc_X0_take (self : Nat) (a1 : Nat) (a2 : Int32) (w : sj_W) (Q : sj_W → Prop) : Prop := sj_T w a1 = 2 ∧ sj_A w 8 a1 ≠ 0 ∧ sj_T w self = 1 ∧ (sj_A w 8 a1) ≠ 0 ∧ ∀ w1 : sj_W, w1 = sj_sA w 5 self (sj_A w 8 a1) → sj_T w1 a1 = 2 ∧ sj_T w1 self = 1 ∧ ∀ w3 : sj_W, w3 = sj_sI w1 6 self (sj_I w1 9 a1) → sj_T w3 self = 1 ∧ (a2 = 0 ∨ a2 = 1) ∧ ∀ w5 : sj_W, w5 = sj_sI w3 7 self a2 → sj_lp1 (vb_X0_take_23 self Q (fun w_23 => sj_T w_23 self = 1 ∧ sj_lp1 (vb_X0_take_68 self Q (fun w_68 => Q w_68)) 64 ((sj_I w_23 6 self) - 1) w_23)) 64 0 w5
set_option maxHeartbeats 4000000 in
set_option maxRecDepth 100000 in
theorem wl_X0_take_23 {p : Program} {l : Launch} {e : Env} {s : State} {m : MethodId} {args : Array Value} {below : List Frame} {meth : Method} {c : Code} {G : sj_G} {f0 : Nat} {Q : sj_W → Prop} {QX : String → sj_W → Prop} {E : sj_W → Prop} (hC : sj_C G p l s m args c cX0_take RX0 6) (hD : sj_D meth c) (hr : meth.sig.returnType = none) (hin : meth.name = "take") (hE : ∀ (w : sj_W) (H : Heap) (locs : List Loc) (ls : Array Slot), lv_has ls 6 [(0, .ref f0)] → sj_H G s w H locs → E w → W p l e rm_X0_take s m args below meth c H locs 0 0 (sj_MQ G below (va_Qv Q (sj_B G) (sj_F G)) QX args s rm_X0_take) (F0 m 61 ls [])) : ∀ (n : Nat) (v3 : Int32) (w : sj_W) (H : Heap) (locs : List Loc) (ls : Array Slot), lv_has ls 6 [(0, .ref f0), (3, .int v3)] → sj_H G s w H locs → sj_lp1 (vb_X0_take_23 f0 Q E) n v3 w → W p l e rm_X0_take s m args below meth c H locs 0 0 (sj_MQ G below (va_Qv Q (sj_B G) (sj_F G)) QX args s rm_X0_take) (F0 m 23 ls []) := by
  have hx := hC.1
  have hb := hC.2.1
  intro n
  induction n with
  | zero =>
    intro v3 w H locs ls _ _ hv
    exact hv.elim
  | succ n ih =>
    intro v3 w H locs ls hl hH hv
    have hv : vb_X0_take_23 f0 Q E (sj_lp1 (vb_X0_take_23 f0 Q E) n) v3 w := hv
    have hc1 : rm_X0_take.cells = 0 := rfl
    have hc2 : rm_X0_take.slots = 0 := rfl
    refine lv_iload_n hx hb dX0_take_23 rfl (lv_at hl 1 rfl) ?_
    refine lv_aload_n hx hb dX0_take_24 rfl (lv_at hl 0 rfl) ?_
    refine gf_X0_37 hC hH hv.1 dX0_take_25 ?_
    refine lv_icmp_gt (tgt := 61) hx hb dX0_take_28 (by decide) (fun hc => ?_) (fun hc => ?_)
    · have hv7 := hv.2.1 hc
      exact hE  w _ _ _ (lv_sub hl [0] rfl) hH hv7
    · have hv8 := hv.2.2 hc
      refine lv_aload_n hx hb dX0_take_31 rfl (lv_at hl 0 rfl) ?_
      refine gf_X0_11 hC hH hv8.1 hv8.2.1 dX0_take_32 ?_
      refine lv_iload_n hx hb dX0_take_35 rfl (lv_at hl 1 rfl) ?_
      refine sj_aaldI hC hH hv8.2.2.1 hv8.2.2.2.1 hv8.2.2.2.2.1 dX0_take_36 ?_
      refine lv_aload_n hx hb dX0_take_37 rfl (lv_at hl 0 rfl) ?_
      refine gf_X0_37 hC hH hv8.2.2.2.2.2.1 dX0_take_38 ?_
      refine lv_iconst (v := 0) hx hb dX0_take_41 (by decide) ?_
      refine sj_iast hC hH hv8.2.2.2.2.2.2.1 hv8.2.2.2.2.2.2.2.1 dX0_take_42 (fun w9 H locs e10 hH => ?_)
      refine lv_aload_n hx hb dX0_take_43 rfl (lv_at hl 0 rfl) ?_
      refine gf_X0_11 hC hH (hv8.2.2.2.2.2.2.2.2 w9 e10).1 (hv8.2.2.2.2.2.2.2.2 w9 e10).2.1 dX0_take_44 ?_
      refine lv_aload_n hx hb dX0_take_47 rfl (lv_at hl 0 rfl) ?_
      refine gf_X0_37 hC hH (hv8.2.2.2.2.2.2.2.2 w9 e10).2.2.1 dX0_take_48 ?_
      refine sj_aaldI hC hH (hv8.2.2.2.2.2.2.2.2 w9 e10).2.2.2.1 (hv8.2.2.2.2.2.2.2.2 w9 e10).2.2.2.2.1 (hv8.2.2.2.2.2.2.2.2 w9 e10).2.2.2.2.2.1 dX0_take_51 ?_
      refine lv_iload_n hx hb dX0_take_52 rfl (lv_at hl 1 rfl) ?_
      refine lv_iconst (v := 0) hx hb dX0_take_53 (by decide) ?_
      refine sj_iast hC hH (hv8.2.2.2.2.2.2.2.2 w9 e10).2.2.2.2.2.2.1 (hv8.2.2.2.2.2.2.2.2 w9 e10).2.2.2.2.2.2.2.1 dX0_take_54 (fun w11 H locs e12 hH => ?_)
      refine lv_iinc (v := (v3 + 1)) (lv' := [(3, .int (v3 + 1)), (0, .ref f0)]) hx hb dX0_take_55 hl (k := 1) rfl rfl (by decide) rfl (fun ls hl => ?_)
      refine lv_goto (tgt := 23) hx hb dX0_take_58 (by decide) ?_
      exact ih (v3 + 1) w11 _ _ _ (lv_sub hl [1, 0] rfl) hH ((hv8.2.2.2.2.2.2.2.2 w9 e10).2.2.2.2.2.2.2.2 w11 e12)
set_option maxHeartbeats 4000000 in
set_option maxRecDepth 100000 in
theorem wl_X0_take_80 {p : Program} {l : Launch} {e : Env} {s : State} {m : MethodId} {args : Array Value} {below : List Frame} {meth : Method} {c : Code} {G : sj_G} {f0 : Nat} {f3 : Int32} {Q : sj_W → Prop} {QX : String → sj_W → Prop} {E : sj_W → Prop} (hC : sj_C G p l s m args c cX0_take RX0 6) (hD : sj_D meth c) (hr : meth.sig.returnType = none) (hin : meth.name = "take") (hE : ∀ (w : sj_W) (H : Heap) (locs : List Loc) (ls : Array Slot), lv_has ls 6 [(0, .ref f0), (3, .int f3)] → sj_H G s w H locs → E w → W p l e rm_X0_take s m args below meth c H locs 0 0 (sj_MQ G below (va_Qv Q (sj_B G) (sj_F G)) QX args s rm_X0_take) (F0 m 148 ls [])) : ∀ (n : Nat) (v4 : Int32) (w : sj_W) (H : Heap) (locs : List Loc) (ls : Array Slot), lv_has ls 6 [(0, .ref f0), (3, .int f3), (4, .int v4)] → sj_H G s w H locs → sj_lp1 (vb_X0_take_80 f0 f3 Q E) n v4 w → W p l e rm_X0_take s m args below meth c H locs 0 0 (sj_MQ G below (va_Qv Q (sj_B G) (sj_F G)) QX args s rm_X0_take) (F0 m 80 ls []) := by
  have hx := hC.1
  have hb := hC.2.1
  intro n
  induction n with
  | zero =>
    intro v4 w H locs ls _ _ hv
    exact hv.elim
  | succ n ih =>
    intro v4 w H locs ls hl hH hv
    have hv : vb_X0_take_80 f0 f3 Q E (sj_lp1 (vb_X0_take_80 f0 f3 Q E) n) v4 w := hv
    have hc1 : rm_X0_take.cells = 0 := rfl
    have hc2 : rm_X0_take.slots = 0 := rfl
    refine lv_iload hx hb dX0_take_80 (lv_at hl 2 rfl) ?_
    refine lv_if_lt (tgt := 148) hx hb dX0_take_82 (by decide) (fun hc => ?_) (fun hc => ?_)
    · have hv16 := hv.1 hc
      exact hE  w _ _ _ (lv_sub hl [0, 1] rfl) hH hv16
    · have hv17 := hv.2 hc
      refine lv_aload_n hx hb dX0_take_85 rfl (lv_at hl 0 rfl) ?_
      refine gf_X0_26 hC hH hv17.1 hv17.2.1 dX0_take_86 ?_
      refine lv_iload_n hx hb dX0_take_89 rfl (lv_at hl 1 rfl) ?_
      refine sj_lald hC hH hv17.2.2.1 hv17.2.2.2.1 dX0_take_90 ?_
      refine lv_aload_n hx hb dX0_take_91 rfl (lv_at hl 0 rfl) ?_
      refine gf_X0_26 hC hH hv17.2.2.2.2.1 hv17.2.2.2.2.2.1 dX0_take_92 ?_
      refine lv_iload hx hb dX0_take_95 (lv_at hl 2 rfl) ?_
      refine sj_lald hC hH hv17.2.2.2.2.2.2.1 hv17.2.2.2.2.2.2.2.1 dX0_take_97 ?_
      refine W.lcmp hx hb dX0_take_98 ?_
      obtain ⟨E18, hE19, hv22⟩ := sj_jn1_e hv17.2.2.2.2.2.2.2.2
      have hJ20 : ∀ (y0_107 : Int32) (w_107 : sj_W) (H : Heap) (locs : List Loc) (ls : Array Slot), lv_has ls 6 [(0, .ref f0), (3, .int f3), (4, .int v4)] → sj_H G s w_107 H locs → E18 y0_107 w_107 → W p l e rm_X0_take s m args below meth c H locs 0 0 (sj_MQ G below (va_Qv Q (sj_B G) (sj_F G)) QX args s rm_X0_take) (F0 m 107 ls [.int y0_107]) := by
        intro y0_107 w_107 H locs ls hl hH hv23
        rw [hE19] at hv23
        refine lv_istore (lv' := [(5, .int y0_107), (0, .ref f0), (3, .int f3), (4, .int v4)]) hx hb dX0_take_107 hl (by decide) rfl (fun ls hl => ?_)
        refine lv_aload_n hx hb dX0_take_109 rfl (lv_at hl 1 rfl) ?_
        refine gf_X0_11 hC hH hv23.1 hv23.2.1 dX0_take_110 ?_
        refine lv_iload_n hx hb dX0_take_113 rfl (lv_at hl 2 rfl) ?_
        refine sj_aaldI hC hH hv23.2.2.1 hv23.2.2.2.1 hv23.2.2.2.2.1 dX0_take_114 ?_
        refine lv_iload hx hb dX0_take_115 (lv_at hl 3 rfl) ?_
        refine lv_iload hx hb dX0_take_117 (lv_at hl 0 rfl) ?_
        refine lv_if_eq (tgt := 140) hx hb dX0_take_119 (by decide) (fun hc => ?_) (fun hc => ?_)
        · have hv26 := hv23.2.2.2.2.2.1 hc
          refine lv_iconst (v := 0) hx hb dX0_take_140 (by decide) ?_
          refine sj_iast hC hH hv26.1 hv26.2.1 dX0_take_141 (fun w27 H locs e28 hH => ?_)
          refine lv_iinc (v := (v4 + (-1))) (lv' := [(4, .int (v4 + (-1))), (5, .int y0_107), (0, .ref f0), (3, .int f3)]) hx hb dX0_take_142 hl (k := 3) rfl rfl (by decide) rfl (fun ls hl => ?_)
          refine lv_goto (tgt := 80) hx hb dX0_take_145 (by decide) ?_
          exact ih (v4 + (-1)) w27 _ _ _ (lv_sub hl [2, 3, 0] rfl) hH (hv26.2.2 w27 e28)
        · have hv29 := hv23.2.2.2.2.2.2 hc
          refine lv_aload_n hx hb dX0_take_122 rfl (lv_at hl 1 rfl) ?_
          refine gf_X0_11 hC hH hv29.1 hv29.2.1 dX0_take_123 ?_
          refine lv_iload_n hx hb dX0_take_126 rfl (lv_at hl 2 rfl) ?_
          refine lv_iconst (v := 1) hx hb dX0_take_127 (by decide) ?_
          refine lv_iadd hx hb dX0_take_128 ?_
          refine sj_aaldI hC hH hv29.2.2.1 hv29.2.2.2.1 hv29.2.2.2.2.1 dX0_take_129 ?_
          refine lv_iload hx hb dX0_take_130 (lv_at hl 3 rfl) ?_
          refine lv_iconst (v := 1) hx hb dX0_take_132 (by decide) ?_
          refine lv_iadd hx hb dX0_take_133 ?_
          refine sj_iald hC hH hv29.2.2.2.2.2.1 hv29.2.2.2.2.2.2.1 dX0_take_134 ?_
          refine lv_iconst (v := 1) hx hb dX0_take_135 (by decide) ?_
          refine lv_iadd hx hb dX0_take_136 ?_
          refine lv_goto (tgt := 141) hx hb dX0_take_137 (by decide) ?_
          refine sj_iast hC hH hv29.2.2.2.2.2.2.2.1 hv29.2.2.2.2.2.2.2.2.1 dX0_take_141 (fun w30 H locs e31 hH => ?_)
          refine lv_iinc (v := (v4 + (-1))) (lv' := [(4, .int (v4 + (-1))), (5, .int y0_107), (0, .ref f0), (3, .int f3)]) hx hb dX0_take_142 hl (k := 3) rfl rfl (by decide) rfl (fun ls hl => ?_)
          refine lv_goto (tgt := 80) hx hb dX0_take_145 (by decide) ?_
          exact ih (v4 + (-1)) w30 _ _ _ (lv_sub hl [2, 3, 0] rfl) hH (hv29.2.2.2.2.2.2.2.2.2 w30 e31)
      clear hE19
      refine lv_if_ne (tgt := 106) hx hb dX0_take_99 (by decide) (fun hc => ?_) (fun hc => ?_)
      · have hv24 := hv22.1 hc
        refine lv_iconst (v := 0) hx hb dX0_take_106 (by decide) ?_
        exact hJ20 0 w _ _ _ (lv_sub hl [0, 1, 2] rfl) hH hv24
      · have hv25 := hv22.2 hc
        refine lv_iconst (v := 1) hx hb dX0_take_102 (by decide) ?_
        refine lv_goto (tgt := 107) hx hb dX0_take_103 (by decide) ?_
        exact hJ20 1 w _ _ _ (lv_sub hl [0, 1, 2] rfl) hH hv25
set_option maxHeartbeats 4000000 in
set_option maxRecDepth 100000 in
theorem wl_X0_take_68 {p : Program} {l : Launch} {e : Env} {s : State} {m : MethodId} {args : Array Value} {below : List Frame} {meth : Method} {c : Code} {G : sj_G} {f0 : Nat} {Q : sj_W → Prop} {QX : String → sj_W → Prop} {E : sj_W → Prop} (hC : sj_C G p l s m args c cX0_take RX0 6) (hD : sj_D meth c) (hr : meth.sig.returnType = none) (hin : meth.name = "take") (hE : ∀ (w : sj_W) (H : Heap) (locs : List Loc) (ls : Array Slot), lv_has ls 6 [] → sj_H G s w H locs → E w → W p l e rm_X0_take s m args below meth c H locs 0 0 (sj_MQ G below (va_Qv Q (sj_B G) (sj_F G)) QX args s rm_X0_take) (F0 m 154 ls [])) : ∀ (n : Nat) (v3 : Int32) (w : sj_W) (H : Heap) (locs : List Loc) (ls : Array Slot), lv_has ls 6 [(0, .ref f0), (3, .int v3)] → sj_H G s w H locs → sj_lp1 (vb_X0_take_68 f0 Q E) n v3 w → W p l e rm_X0_take s m args below meth c H locs 0 0 (sj_MQ G below (va_Qv Q (sj_B G) (sj_F G)) QX args s rm_X0_take) (F0 m 68 ls []) := by
  have hx := hC.1
  have hb := hC.2.1
  intro n
  induction n with
  | zero =>
    intro v3 w H locs ls _ _ hv
    exact hv.elim
  | succ n ih =>
    intro v3 w H locs ls hl hH hv
    have hv : vb_X0_take_68 f0 Q E (sj_lp1 (vb_X0_take_68 f0 Q E) n) v3 w := hv
    have hc1 : rm_X0_take.cells = 0 := rfl
    have hc2 : rm_X0_take.slots = 0 := rfl
    refine lv_iload_n hx hb dX0_take_68 rfl (lv_at hl 1 rfl) ?_
    refine lv_if_lt (tgt := 154) hx hb dX0_take_69 (by decide) (fun hc => ?_) (fun hc => ?_)
    · have hv14 := hv.1 hc
      exact hE  w _ _ _ (lv_sub hl [] rfl) hH hv14
    · have hv15 := hv.2 hc
      refine lv_aload_n hx hb dX0_take_72 rfl (lv_at hl 0 rfl) ?_
      refine gf_X0_37 hC hH hv15.1 dX0_take_73 ?_
      refine lv_iconst (v := 1) hx hb dX0_take_76 (by decide) ?_
      refine lv_isub hx hb dX0_take_77 ?_
      refine lv_istore (lv' := [(4, .int ((sj_I w 6 f0) - 1)), (0, .ref f0), (3, .int v3)]) hx hb dX0_take_78 hl (by decide) rfl (fun ls hl => ?_)
      refine wl_X0_take_80 hC hD hr hin (fun w_80 H locs ls hl hH hv32 => ?_) 64 ((sj_I w 6 f0) - 1) w _ _ _ (lv_sub hl [1, 2, 0] rfl) hH hv15.2
      refine lv_iinc (v := (v3 + (-1))) (lv' := [(3, .int (v3 + (-1))), (0, .ref f0)]) hx hb dX0_take_148 hl (k := 1) rfl rfl (by decide) rfl (fun ls hl => ?_)
      refine lv_goto (tgt := 68) hx hb dX0_take_151 (by decide) ?_
      exact ih (v3 + (-1)) w_80 _ _ _ (lv_sub hl [1, 0] rfl) hH hv32
set_option maxHeartbeats 4000000 in
set_option maxRecDepth 100000 in
theorem wk_X0_take (G : sj_G) (l : Launch) (hlt : l.stackTraces = false) (self : Nat) (a1 : Nat) (a2 : Int32) (w : sj_W) (Q : sj_W → Prop) (QX : String → sj_W → Prop) (hv : vc_X0_take self a1 a2 w Q) : sj_MV G l yX0_take (sj_ws yX0_take cX0_take 6 none) rm_X0_take [.ref self, .ref a1, .int a2] w Q QX := by
  refine sj_of (by decide +kernel) (Nat.le_of_ble_eq_true rfl) hlt ?_
  intro p e s m args below meth c ls hC hD hr hin hH hl
  have hx := hC.1
  have hb := hC.2.1
  have hl : lv_has ls 6 [(0, .ref self), (1, .ref a1), (2, .int a2)] := hl
  refine lv_aload_n hx hb dX0_take_0 rfl (lv_at hl 0 rfl) ?_
  refine lv_aload_n hx hb dX0_take_1 rfl (lv_at hl 1 rfl) ?_
  refine gf_X0_30 hC hH hv.1 hv.2.1 dX0_take_2 ?_
  refine pf_X0_26 hC hH hv.2.2.1 hv.2.2.2.1 dX0_take_5 (fun w1 H locs e2 hH => ?_)
  refine lv_aload_n hx hb dX0_take_8 rfl (lv_at hl 0 rfl) ?_
  refine lv_aload_n hx hb dX0_take_9 rfl (lv_at hl 1 rfl) ?_
  refine gf_X0_33 hC hH (hv.2.2.2.2 w1 e2).1 dX0_take_10 ?_
  refine pf_X0_37 hC hH (hv.2.2.2.2 w1 e2).2.1 dX0_take_13 (fun w3 H locs e4 hH => ?_)
  refine lv_aload_n hx hb dX0_take_16 rfl (lv_at hl 0 rfl) ?_
  refine lv_iload_n hx hb dX0_take_17 rfl (lv_at hl 2 rfl) ?_
  refine pf_X0_38 hC hH ((hv.2.2.2.2 w1 e2).2.2 w3 e4).1 ((hv.2.2.2.2 w1 e2).2.2 w3 e4).2.1 dX0_take_18 (fun w5 H locs e6 hH => ?_)
  refine lv_iconst (v := 0) hx hb dX0_take_21 (by decide) ?_
  refine lv_istore_n (lv' := [(3, .int 0), (0, .ref self), (1, .ref a1), (2, .int a2)]) hx hb dX0_take_22 rfl hl (by decide) rfl (fun ls hl => ?_)
  refine wl_X0_take_23 hC hD hr hin (fun w_23 H locs ls hl hH hv13 => ?_) 64 0 w5 _ _ _ (lv_sub hl [1, 0] rfl) hH (((hv.2.2.2.2 w1 e2).2.2 w3 e4).2.2 w5 e6)
  refine lv_aload_n hx hb dX0_take_61 rfl (lv_at hl 0 rfl) ?_
  refine gf_X0_37 hC hH hv13.1 dX0_take_62 ?_
  refine lv_iconst (v := 1) hx hb dX0_take_65 (by decide) ?_
  refine lv_isub hx hb dX0_take_66 ?_
  refine lv_istore_n (lv' := [(3, .int ((sj_I w_23 6 self) - 1)), (0, .ref self)]) hx hb dX0_take_67 rfl hl (by decide) rfl (fun ls hl => ?_)
  refine wl_X0_take_68 hC hD hr hin (fun w_68 H locs ls hl hH hv33 => ?_) 64 ((sj_I w_23 6 self) - 1) w_23 _ _ _ (lv_sub hl [1, 0] rfl) hH hv13.2
  exact sj_retV hC hD.2 hH hr hv33 ⟨(Nat.le_of_ble_eq_true rfl), (Nat.le_of_ble_eq_true rfl)⟩ dX0_take_154
section SJL_X0_take
variable {p : Program} {l : Launch} {e : Env} {R : Room} {s : State} {m : MethodId} {args : Array Value} {below : List Frame} {meth : Method} {c : Code} {H : Heap} {locs : List Loc} {cells slots : Nat} {Q : State → Prop} {cc : ByteArray} {pc : Nat} {ls : Array Slot} {rest : List Value} {G : sj_G} {nL : Nat} {w : sj_W}
theorem cl_X6_151 {rmM : Room} {QcM : Array Value → State → Outcome → State → Prop} {QX : String → sj_W → Prop} {b : Nat} {b0 : Nat} {b1 : Int32} {Qi : sj_W → Prop} (hC : sj_C G p l s m args c cc RX6 nL) (hD : sj_D meth c) (hH : sj_H G s w H locs) (hv : vc_X0_take b b0 b1 w Qi) (hT : sj_T w b = 1) (hR : rm_X0_take.frames + 1 ≤ R.frames ∧ 8 + (6 + 11) + rm_X0_take.locals ≤ R.locals) (hf : cells + 0 ≤ R.cells ∧ slots + 0 ≤ R.slots) (hfM : cells + 0 ≤ rmM.cells ∧ slots + 0 ≤ rmM.slots) (hls : ls.size = nL) (hW : (rest.map fun v => v.category).sum ≤ 8) (hdg : decode cc pc = .ok (.invokevirtual 151, 3)) (kk : ∀ (w1 : sj_W) (H : Heap) (locs : List Loc), sj_H G s w1 H locs → Qi w1 → W p l e R s m args below meth c H locs (cells + 0) (slots + 0) (sj_MQ G below QcM QX args s rmM) (F0 m (pc + 3) ls rest)) : W p l e R s m args below meth c H locs cells slots (sj_MQ G below QcM QX args s rmM) (F0 m pc ls (.int b1 :: .ref b0 :: .ref b :: rest)) :=
  sj_cV hD hH (sj_runVN (n := 2) hC hH (As := [.ref b0, .int b1]) (wk_X0_take G l hC.2.2.2.2.2.2 b b0 b1 w Qi QX hv) (ci := 0) rfl (by decide) hT mb_481 mb_483 mb_s9 mb_2 mb_484 (by decide +kernel) hR hf rfl hls hW hdg) hfM kk
end SJL_X0_take
abbrev rm_X0_mostAlikeAhead : Room := { frames := 1, cells := 0, slots := 0, locals := 13 }
def vb_X0_mostAlikeAhead_4 (f0 : Nat) (f1 : Int32) (Q : Int32 → sj_W → Prop) (E : Int32 → sj_W → Prop) (K : Int32 → Int32 → sj_W → Prop) (v2 : Int32) (v3 : Int32) (w : sj_W) : Prop := ((f1 ≤ v3 → E v2 w) ∧ (¬ f1 ≤ v3 → sj_T w f0 = 1 ∧ sj_A w 0 f0 ≠ 0 ∧ sj_T w (sj_A w 0 f0) = 13 ∧ vp_in v3 (sj_N w (sj_A w 0 f0)) ∧ (sj_r w (sj_A w 0 f0) v3.toNatClampNeg) ≠ 0 ∧ sj_T w (sj_r w (sj_A w 0 f0) v3.toNatClampNeg) = 7 ∧ vp_in f1 (sj_N w (sj_r w (sj_A w 0 f0) v3.toNatClampNeg)) ∧ K (if v2 < (sj_i w (sj_r w (sj_A w 0 f0) v3.toNatClampNeg) f1.toNatClampNeg) then (sj_i w (sj_r w (sj_A w 0 f0) v3.toNatClampNeg) f1.toNatClampNeg) else v2) (v3 + 1) w))
def vc_X0_mostAlikeAhead (self : Nat) (a1 : Int32) (w : sj_W) (Q : Int32 → sj_W → Prop) : Prop := sj_lp2 (vb_X0_mostAlikeAhead_4 self a1 Q (fun z2_4 w_4 => Q z2_4 w_4)) 64 0 0 w
set_option maxHeartbeats 4000000 in
set_option maxRecDepth 100000 in
theorem wl_X0_mostAlikeAhead_4 {p : Program} {l : Launch} {e : Env} {s : State} {m : MethodId} {args : Array Value} {below : List Frame} {meth : Method} {c : Code} {G : sj_G} {f0 : Nat} {f1 : Int32} {Q : Int32 → sj_W → Prop} {QX : String → sj_W → Prop} {E : Int32 → sj_W → Prop} (hC : sj_C G p l s m args c cX0_mostAlikeAhead RX0 4) (hD : sj_D meth c) (hr : meth.sig.returnType = (some .int)) (hin : meth.name = "mostAlikeAhead") (hE : ∀ (v2 : Int32) (w : sj_W) (H : Heap) (locs : List Loc) (ls : Array Slot), lv_has ls 4 [(2, .int v2)] → sj_H G s w H locs → E v2 w → W p l e rm_X0_mostAlikeAhead s m args below meth c H locs 0 0 (sj_MQ G below (va_Qi Q (sj_B G) (sj_F G)) QX args s rm_X0_mostAlikeAhead) (F0 m 28 ls [])) : ∀ (n : Nat) (v2 : Int32) (v3 : Int32) (w : sj_W) (H : Heap) (locs : List Loc) (ls : Array Slot), lv_has ls 4 [(0, .ref f0), (1, .int f1), (2, .int v2), (3, .int v3)] → sj_H G s w H locs → sj_lp2 (vb_X0_mostAlikeAhead_4 f0 f1 Q E) n v2 v3 w → W p l e rm_X0_mostAlikeAhead s m args below meth c H locs 0 0 (sj_MQ G below (va_Qi Q (sj_B G) (sj_F G)) QX args s rm_X0_mostAlikeAhead) (F0 m 4 ls []) := by
  have hx := hC.1
  have hb := hC.2.1
  intro n
  induction n with
  | zero =>
    intro v2 v3 w H locs ls _ _ hv
    exact hv.elim
  | succ n ih =>
    intro v2 v3 w H locs ls hl hH hv
    have hv : vb_X0_mostAlikeAhead_4 f0 f1 Q E (sj_lp2 (vb_X0_mostAlikeAhead_4 f0 f1 Q E) n) v2 v3 w := hv
    have hc1 : rm_X0_mostAlikeAhead.cells = 0 := rfl
    have hc2 : rm_X0_mostAlikeAhead.slots = 0 := rfl
    refine lv_iload_n hx hb dX0_mostAlikeAhead_4 rfl (lv_at hl 3 rfl) ?_
    refine lv_iload_n hx hb dX0_mostAlikeAhead_5 rfl (lv_at hl 1 rfl) ?_
    refine lv_icmp_ge (tgt := 28) hx hb dX0_mostAlikeAhead_6 (by decide) (fun hc => ?_) (fun hc => ?_)
    · have hv1 := hv.1 hc
      exact hE v2 w _ _ _ (lv_sub hl [2] rfl) hH hv1
    · have hv2 := hv.2 hc
      refine lv_iload_n hx hb dX0_mostAlikeAhead_9 rfl (lv_at hl 2 rfl) ?_
      refine lv_aload_n hx hb dX0_mostAlikeAhead_10 rfl (lv_at hl 0 rfl) ?_
      refine gf_X0_11 hC hH hv2.1 hv2.2.1 dX0_mostAlikeAhead_11 ?_
      refine lv_iload_n hx hb dX0_mostAlikeAhead_14 rfl (lv_at hl 3 rfl) ?_
      refine sj_aaldI hC hH hv2.2.2.1 hv2.2.2.2.1 hv2.2.2.2.2.1 dX0_mostAlikeAhead_15 ?_
      refine lv_iload_n hx hb dX0_mostAlikeAhead_16 rfl (lv_at hl 1 rfl) ?_
      refine sj_iald hC hH hv2.2.2.2.2.2.1 hv2.2.2.2.2.2.2.1 dX0_mostAlikeAhead_17 ?_
      refine va_mmax hx hb (hC.2.2.1.trans hl.1.symm) hC.2.2.2.1 (hC.2.2.2.2.1 _ mb_509) (hC.2.2.2.2.1 _ mb_510) (hC.2.2.2.2.1 _ mb_13) (hC.2.2.2.2.1 _ mb_511) (Nat.le_of_ble_eq_true rfl) (Nat.le_of_ble_eq_true rfl) (Nat.le_of_ble_eq_true rfl) (Nat.le_of_ble_eq_true rfl) dX0_mostAlikeAhead_18 ?_
      refine lv_istore_n (lv' := [(2, .int (if v2 < (sj_i w (sj_r w (sj_A w 0 f0) v3.toNatClampNeg) f1.toNatClampNeg) then (sj_i w (sj_r w (sj_A w 0 f0) v3.toNatClampNeg) f1.toNatClampNeg) else v2)), (0, .ref f0), (1, .int f1), (3, .int v3)]) hx hb dX0_mostAlikeAhead_21 rfl hl (by decide) rfl (fun ls hl => ?_)
      refine lv_iinc (v := (v3 + 1)) (lv' := [(3, .int (v3 + 1)), (2, .int (if v2 < (sj_i w (sj_r w (sj_A w 0 f0) v3.toNatClampNeg) f1.toNatClampNeg) then (sj_i w (sj_r w (sj_A w 0 f0) v3.toNatClampNeg) f1.toNatClampNeg) else v2)), (0, .ref f0), (1, .int f1)]) hx hb dX0_mostAlikeAhead_22 hl (k := 3) rfl rfl (by decide) rfl (fun ls hl => ?_)
      refine lv_goto (tgt := 4) hx hb dX0_mostAlikeAhead_25 (by decide) ?_
      exact ih (if v2 < (sj_i w (sj_r w (sj_A w 0 f0) v3.toNatClampNeg) f1.toNatClampNeg) then (sj_i w (sj_r w (sj_A w 0 f0) v3.toNatClampNeg) f1.toNatClampNeg) else v2) (v3 + 1) w _ _ _ (lv_sub hl [2, 3, 1, 0] rfl) hH hv2.2.2.2.2.2.2.2
set_option maxHeartbeats 4000000 in
set_option maxRecDepth 100000 in
theorem wk_X0_mostAlikeAhead (G : sj_G) (l : Launch) (hlt : l.stackTraces = false) (self : Nat) (a1 : Int32) (w : sj_W) (Q : Int32 → sj_W → Prop) (QX : String → sj_W → Prop) (hv : vc_X0_mostAlikeAhead self a1 w Q) : sj_MI G l yX0_mostAlikeAhead (sj_ws yX0_mostAlikeAhead cX0_mostAlikeAhead 4 (some .int)) rm_X0_mostAlikeAhead [.ref self, .int a1] w Q QX := by
  refine sj_of (by decide +kernel) (Nat.le_of_ble_eq_true rfl) hlt ?_
  intro p e s m args below meth c ls hC hD hr hin hH hl
  have hx := hC.1
  have hb := hC.2.1
  have hl : lv_has ls 4 [(0, .ref self), (1, .int a1)] := hl
  refine lv_iconst (v := 0) hx hb dX0_mostAlikeAhead_0 (by decide) ?_
  refine lv_istore_n (lv' := [(2, .int 0), (0, .ref self), (1, .int a1)]) hx hb dX0_mostAlikeAhead_1 rfl hl (by decide) rfl (fun ls hl => ?_)
  refine lv_iconst (v := 0) hx hb dX0_mostAlikeAhead_2 (by decide) ?_
  refine lv_istore_n (lv' := [(3, .int 0), (2, .int 0), (0, .ref self), (1, .int a1)]) hx hb dX0_mostAlikeAhead_3 rfl hl (by decide) rfl (fun ls hl => ?_)
  refine wl_X0_mostAlikeAhead_4 hC hD hr hin (fun z2_4 w_4 H locs ls hl hH hv3 => ?_) 64 0 0 w _ _ _ (lv_sub hl [2, 3, 1, 0] rfl) hH hv
  refine lv_iload_n hx hb dX0_mostAlikeAhead_28 rfl (lv_at hl 0 rfl) ?_
  exact sj_retI hC hD.2 hH hr rfl hv3 ⟨(Nat.le_of_ble_eq_true rfl), (Nat.le_of_ble_eq_true rfl)⟩ dX0_mostAlikeAhead_29
section SJL_X0_mostAlikeAhead
variable {p : Program} {l : Launch} {e : Env} {R : Room} {s : State} {m : MethodId} {args : Array Value} {below : List Frame} {meth : Method} {c : Code} {H : Heap} {locs : List Loc} {cells slots : Nat} {Q : State → Prop} {cc : ByteArray} {pc : Nat} {ls : Array Slot} {rest : List Value} {G : sj_G} {nL : Nat} {w : sj_W}
theorem cl_X0_50 {rmM : Room} {QcM : Array Value → State → Outcome → State → Prop} {QX : String → sj_W → Prop} {b : Nat} {b0 : Int32} {Qi : Int32 → sj_W → Prop} (hC : sj_C G p l s m args c cc RX0 nL) (hD : sj_D meth c) (hH : sj_H G s w H locs) (hv : vc_X0_mostAlikeAhead b b0 w Qi) (hT : sj_T w b = 1) (hR : rm_X0_mostAlikeAhead.frames + 1 ≤ R.frames ∧ 8 + (4 + 11) + rm_X0_mostAlikeAhead.locals ≤ R.locals) (hf : cells + 0 ≤ R.cells ∧ slots + 0 ≤ R.slots) (hfM : cells + 0 ≤ rmM.cells ∧ slots + 0 ≤ rmM.slots) (hls : ls.size = nL) (hW : (rest.map fun v => v.category).sum ≤ 8) (hdg : decode cc pc = .ok (.invokevirtual 50, 3)) (kk : ∀ (r : Int32) (w1 : sj_W) (H : Heap) (locs : List Loc), sj_H G s w1 H locs → Qi r w1 → W p l e R s m args below meth c H locs (cells + 0) (slots + 0) (sj_MQ G below QcM QX args s rmM) (F0 m (pc + 3) ls (.int r :: rest))) : W p l e R s m args below meth c H locs cells slots (sj_MQ G below QcM QX args s rmM) (F0 m pc ls (.int b0 :: .ref b :: rest)) :=
  sj_cI hD hH (sj_runV (n := 1) hC hH (As := [.int b0]) (wk_X0_mostAlikeAhead G l hC.2.2.2.2.2.2 b b0 w Qi QX hv) (ci := 0) rfl (by decide) hT mb_505 mb_507 mb_s13 mb_2 mb_508 (by decide +kernel) hR hf rfl hls hW hdg) hfM kk
end SJL_X0_mostAlikeAhead
abbrev rm_X0_countWords : Room := { frames := 2, cells := 0, slots := 0, locals := 36 }
def vb_X0_countWords_4 (f0 : Nat) (Q : Int32 → sj_W → Prop) (E : Int32 → sj_W → Prop) (K : Int32 → Int32 → sj_W → Prop) (v1 : Int32) (v2 : Int32) (w : sj_W) : Prop := sj_T w f0 = 1 ∧ (((sj_I w 6 f0) ≤ v2 → E v1 w) ∧ (¬ (sj_I w 6 f0) ≤ v2 → sj_T w f0 = 1 ∧ sj_T w f0 = 1 ∧ vc_X0_mostAlikeAhead f0 v2 w (fun r3 w4 => K (v1 + (((sj_I w 6 f0) - v2) - r3)) (v2 + 1) w4)))
def vc_X0_countWords (self : Nat) (w : sj_W) (Q : Int32 → sj_W → Prop) : Prop := sj_lp2 (vb_X0_countWords_4 self Q (fun z1_4 w_4 => Q z1_4 w_4)) 64 0 0 w
set_option maxHeartbeats 4000000 in
set_option maxRecDepth 100000 in
theorem wl_X0_countWords_4 {p : Program} {l : Launch} {e : Env} {s : State} {m : MethodId} {args : Array Value} {below : List Frame} {meth : Method} {c : Code} {G : sj_G} {f0 : Nat} {Q : Int32 → sj_W → Prop} {QX : String → sj_W → Prop} {E : Int32 → sj_W → Prop} (hC : sj_C G p l s m args c cX0_countWords RX0 3) (hD : sj_D meth c) (hr : meth.sig.returnType = (some .int)) (hin : meth.name = "countWords") (hE : ∀ (v1 : Int32) (w : sj_W) (H : Heap) (locs : List Loc) (ls : Array Slot), lv_has ls 3 [(1, .int v1)] → sj_H G s w H locs → E v1 w → W p l e rm_X0_countWords s m args below meth c H locs 0 0 (sj_MQ G below (va_Qi Q (sj_B G) (sj_F G)) QX args s rm_X0_countWords) (F0 m 33 ls [])) : ∀ (n : Nat) (v1 : Int32) (v2 : Int32) (w : sj_W) (H : Heap) (locs : List Loc) (ls : Array Slot), lv_has ls 3 [(0, .ref f0), (1, .int v1), (2, .int v2)] → sj_H G s w H locs → sj_lp2 (vb_X0_countWords_4 f0 Q E) n v1 v2 w → W p l e rm_X0_countWords s m args below meth c H locs 0 0 (sj_MQ G below (va_Qi Q (sj_B G) (sj_F G)) QX args s rm_X0_countWords) (F0 m 4 ls []) := by
  have hx := hC.1
  have hb := hC.2.1
  intro n
  induction n with
  | zero =>
    intro v1 v2 w H locs ls _ _ hv
    exact hv.elim
  | succ n ih =>
    intro v1 v2 w H locs ls hl hH hv
    have hv : vb_X0_countWords_4 f0 Q E (sj_lp2 (vb_X0_countWords_4 f0 Q E) n) v1 v2 w := hv
    have hc1 : rm_X0_countWords.cells = 0 := rfl
    have hc2 : rm_X0_countWords.slots = 0 := rfl
    refine lv_iload_n hx hb dX0_countWords_4 rfl (lv_at hl 2 rfl) ?_
    refine lv_aload_n hx hb dX0_countWords_5 rfl (lv_at hl 0 rfl) ?_
    refine gf_X0_37 hC hH hv.1 dX0_countWords_6 ?_
    refine lv_icmp_ge (tgt := 33) hx hb dX0_countWords_9 (by decide) (fun hc => ?_) (fun hc => ?_)
    · have hv1 := hv.2.1 hc
      exact hE v1 w _ _ _ (lv_sub hl [1] rfl) hH hv1
    · have hv2 := hv.2.2 hc
      refine lv_iload_n hx hb dX0_countWords_12 rfl (lv_at hl 1 rfl) ?_
      refine lv_aload_n hx hb dX0_countWords_13 rfl (lv_at hl 0 rfl) ?_
      refine gf_X0_37 hC hH hv2.1 dX0_countWords_14 ?_
      refine lv_iload_n hx hb dX0_countWords_17 rfl (lv_at hl 2 rfl) ?_
      refine lv_isub hx hb dX0_countWords_18 ?_
      refine lv_aload_n hx hb dX0_countWords_19 rfl (lv_at hl 0 rfl) ?_
      refine lv_iload_n hx hb dX0_countWords_20 rfl (lv_at hl 2 rfl) ?_
      refine cl_X0_50 hC hD hH hv2.2.2 hv2.2.1 ⟨Nat.le_of_ble_eq_true rfl, Nat.le_of_ble_eq_true rfl⟩ ⟨(Nat.le_of_ble_eq_true rfl), (Nat.le_of_ble_eq_true rfl)⟩ ⟨(Nat.le_of_ble_eq_true rfl), (Nat.le_of_ble_eq_true rfl)⟩ hl.1 (Nat.le_of_ble_eq_true rfl) dX0_countWords_21 (fun r3 w4 H locs hH hv5 => ?_)
      refine lv_isub hx hb dX0_countWords_24 ?_
      refine lv_iadd hx hb dX0_countWords_25 ?_
      refine lv_istore_n (lv' := [(1, .int (v1 + (((sj_I w 6 f0) - v2) - r3))), (0, .ref f0), (2, .int v2)]) hx hb dX0_countWords_26 rfl hl (by decide) rfl (fun ls hl => ?_)
      refine lv_iinc (v := (v2 + 1)) (lv' := [(2, .int (v2 + 1)), (1, .int (v1 + (((sj_I w 6 f0) - v2) - r3))), (0, .ref f0)]) hx hb dX0_countWords_27 hl (k := 2) rfl rfl (by decide) rfl (fun ls hl => ?_)
      refine lv_goto (tgt := 4) hx hb dX0_countWords_30 (by decide) ?_
      exact ih (v1 + (((sj_I w 6 f0) - v2) - r3)) (v2 + 1) w4 _ _ _ (lv_sub hl [2, 1, 0] rfl) hH hv5
set_option maxHeartbeats 4000000 in
set_option maxRecDepth 100000 in
theorem wk_X0_countWords (G : sj_G) (l : Launch) (hlt : l.stackTraces = false) (self : Nat) (w : sj_W) (Q : Int32 → sj_W → Prop) (QX : String → sj_W → Prop) (hv : vc_X0_countWords self w Q) : sj_MI G l yX0_countWords (sj_ws yX0_countWords cX0_countWords 3 (some .int)) rm_X0_countWords [.ref self] w Q QX := by
  refine sj_of (by decide +kernel) (Nat.le_of_ble_eq_true rfl) hlt ?_
  intro p e s m args below meth c ls hC hD hr hin hH hl
  have hx := hC.1
  have hb := hC.2.1
  have hl : lv_has ls 3 [(0, .ref self)] := hl
  refine lv_iconst (v := 0) hx hb dX0_countWords_0 (by decide) ?_
  refine lv_istore_n (lv' := [(1, .int 0), (0, .ref self)]) hx hb dX0_countWords_1 rfl hl (by decide) rfl (fun ls hl => ?_)
  refine lv_iconst (v := 0) hx hb dX0_countWords_2 (by decide) ?_
  refine lv_istore_n (lv' := [(2, .int 0), (1, .int 0), (0, .ref self)]) hx hb dX0_countWords_3 rfl hl (by decide) rfl (fun ls hl => ?_)
  refine wl_X0_countWords_4 hC hD hr hin (fun z1_4 w_4 H locs ls hl hH hv6 => ?_) 64 0 0 w _ _ _ (lv_sub hl [2, 1, 0] rfl) hH hv
  refine lv_iload_n hx hb dX0_countWords_33 rfl (lv_at hl 0 rfl) ?_
  exact sj_retI hC hD.2 hH hr rfl hv6 ⟨(Nat.le_of_ble_eq_true rfl), (Nat.le_of_ble_eq_true rfl)⟩ dX0_countWords_34
section SJL_X0_countWords
variable {p : Program} {l : Launch} {e : Env} {R : Room} {s : State} {m : MethodId} {args : Array Value} {below : List Frame} {meth : Method} {c : Code} {H : Heap} {locs : List Loc} {cells slots : Nat} {Q : State → Prop} {cc : ByteArray} {pc : Nat} {ls : Array Slot} {rest : List Value} {G : sj_G} {nL : Nat} {w : sj_W}
theorem cl_X6_161 {rmM : Room} {QcM : Array Value → State → Outcome → State → Prop} {QX : String → sj_W → Prop} {b : Nat} {Qi : Int32 → sj_W → Prop} (hC : sj_C G p l s m args c cc RX6 nL) (hD : sj_D meth c) (hH : sj_H G s w H locs) (hv : vc_X0_countWords b w Qi) (hT : sj_T w b = 1) (hR : rm_X0_countWords.frames + 1 ≤ R.frames ∧ 8 + (3 + 11) + rm_X0_countWords.locals ≤ R.locals) (hf : cells + 0 ≤ R.cells ∧ slots + 0 ≤ R.slots) (hfM : cells + 0 ≤ rmM.cells ∧ slots + 0 ≤ rmM.slots) (hls : ls.size = nL) (hW : (rest.map fun v => v.category).sum ≤ 8) (hdg : decode cc pc = .ok (.invokevirtual 161, 3)) (kk : ∀ (r : Int32) (w1 : sj_W) (H : Heap) (locs : List Loc), sj_H G s w1 H locs → Qi r w1 → W p l e R s m args below meth c H locs (cells + 0) (slots + 0) (sj_MQ G below QcM QX args s rmM) (F0 m (pc + 3) ls (.int r :: rest))) : W p l e R s m args below meth c H locs cells slots (sj_MQ G below QcM QX args s rmM) (F0 m pc ls (.ref b :: rest)) :=
  sj_cI hD hH (sj_runVN (n := 0) hC hH (As := []) (wk_X0_countWords G l hC.2.2.2.2.2.2 b w Qi QX hv) (ci := 0) rfl (by decide) hT mb_501 mb_503 mb_s12 mb_2 mb_504 (by decide +kernel) hR hf rfl hls hW hdg) hfM kk
theorem cl_X2_21 {rmM : Room} {QcM : Array Value → State → Outcome → State → Prop} {QX : String → sj_W → Prop} {b : Nat} {Qi : Int32 → sj_W → Prop} (hC : sj_C G p l s m args c cc RX2 nL) (hD : sj_D meth c) (hH : sj_H G s w H locs) (hv : vc_X0_countWords b w Qi) (hT : sj_T w b = 1) (hR : rm_X0_countWords.frames + 1 ≤ R.frames ∧ 8 + (3 + 11) + rm_X0_countWords.locals ≤ R.locals) (hf : cells + 0 ≤ R.cells ∧ slots + 0 ≤ R.slots) (hfM : cells + 0 ≤ rmM.cells ∧ slots + 0 ≤ rmM.slots) (hls : ls.size = nL) (hW : (rest.map fun v => v.category).sum ≤ 8) (hdg : decode cc pc = .ok (.invokevirtual 21, 3)) (kk : ∀ (r : Int32) (w1 : sj_W) (H : Heap) (locs : List Loc), sj_H G s w1 H locs → Qi r w1 → W p l e R s m args below meth c H locs (cells + 0) (slots + 0) (sj_MQ G below QcM QX args s rmM) (F0 m (pc + 3) ls (.int r :: rest))) : W p l e R s m args below meth c H locs cells slots (sj_MQ G below QcM QX args s rmM) (F0 m pc ls (.ref b :: rest)) :=
  sj_cI hD hH (sj_runVN (n := 0) hC hH (As := []) (wk_X0_countWords G l hC.2.2.2.2.2.2 b w Qi QX hv) (ci := 0) rfl (by decide) hT mb_671 mb_503 mb_s12 mb_2 mb_504 (by decide +kernel) hR hf rfl hls hW hdg) hfM kk
end SJL_X0_countWords
abbrev rm_X6_distinct : Room := { frames := 8, cells := 2, slots := 12, locals := 124 }
def vc_X6_distinct (self : Nat) (a1 : Int32) (a2 : Int32) (w : sj_W) (Q : Int32 → sj_W → Prop) (QX : String → sj_W → Prop) : Prop := sj_T w self = 5 ∧ sj_A w 35 self ≠ 0 ∧ vc_X6_kindOf a1 w (fun r1 w2 => sj_T w2 self = 5 ∧ vc_X6_rowOf self r1 a2 w2 (fun r4 w5 => sj_T w5 (sj_A w 35 self) = 1 ∧ vc_X0_take (sj_A w 35 self) r4 0 w5 (fun w8 => sj_T w8 self = 5 ∧ sj_A w8 35 self ≠ 0 ∧ sj_T w8 (sj_A w8 35 self) = 1 ∧ vc_X0_countWords (sj_A w8 35 self) w8 (fun r10 w11 => Q r10 w11))) QX) QX
set_option maxHeartbeats 4000000 in
set_option maxRecDepth 100000 in
theorem wk_X6_distinct (G : sj_G) (l : Launch) (hlt : l.stackTraces = false) (self : Nat) (a1 : Int32) (a2 : Int32) (w : sj_W) (Q : Int32 → sj_W → Prop) (QX : String → sj_W → Prop) (hv : vc_X6_distinct self a1 a2 w Q QX) : sj_MI G l yX6_distinct (sj_ws yX6_distinct cX6_distinct 3 (some .int)) rm_X6_distinct [.ref self, .int a1, .int a2] w Q QX := by
  refine sj_of (by decide +kernel) (Nat.le_of_ble_eq_true rfl) hlt ?_
  intro p e s m args below meth c ls hC hD hr hin hH hl
  have hx := hC.1
  have hb := hC.2.1
  have hl : lv_has ls 3 [(0, .ref self), (1, .int a1), (2, .int a2)] := hl
  refine lv_aload_n hx hb dX6_distinct_0 rfl (lv_at hl 0 rfl) ?_
  refine gf_X6_28 hC hH hv.1 hv.2.1 dX6_distinct_1 ?_
  refine lv_aload_n hx hb dX6_distinct_4 rfl (lv_at hl 0 rfl) ?_
  refine lv_iload_n hx hb dX6_distinct_5 rfl (lv_at hl 1 rfl) ?_
  refine cl_X6_34 hC hD hH hv.2.2 ⟨Nat.le_of_ble_eq_true rfl, Nat.le_of_ble_eq_true rfl⟩ ⟨(Nat.le_of_ble_eq_true rfl), (Nat.le_of_ble_eq_true rfl)⟩ ⟨(Nat.le_of_ble_eq_true rfl), (Nat.le_of_ble_eq_true rfl)⟩ hl.1 (Nat.le_of_ble_eq_true rfl) dX6_distinct_6 (fun r1 w2 H locs hH hv3 => ?_)
  refine lv_iload_n hx hb dX6_distinct_9 rfl (lv_at hl 2 rfl) ?_
  refine cl_X6_42 hC hD hH hv3.2 hv3.1 ⟨Nat.le_of_ble_eq_true rfl, Nat.le_of_ble_eq_true rfl⟩ ⟨(Nat.le_of_ble_eq_true rfl), (Nat.le_of_ble_eq_true rfl)⟩ ⟨(Nat.le_of_ble_eq_true rfl), (Nat.le_of_ble_eq_true rfl)⟩ hl.1 (Nat.le_of_ble_eq_true rfl) dX6_distinct_10 (fun r4 w5 H locs hH hv6 => ?_)
  refine lv_iconst (v := 0) hx hb dX6_distinct_13 (by decide) ?_
  refine cl_X6_151 hC hD hH hv6.2 hv6.1 ⟨Nat.le_of_ble_eq_true rfl, Nat.le_of_ble_eq_true rfl⟩ ⟨(Nat.le_of_ble_eq_true rfl), (Nat.le_of_ble_eq_true rfl)⟩ ⟨(Nat.le_of_ble_eq_true rfl), (Nat.le_of_ble_eq_true rfl)⟩ hl.1 (Nat.le_of_ble_eq_true rfl) dX6_distinct_14 (fun w8 H locs hH hv9 => ?_)
  refine lv_aload_n hx hb dX6_distinct_17 rfl (lv_at hl 0 rfl) ?_
  refine gf_X6_28 hC hH hv9.1 hv9.2.1 dX6_distinct_18 ?_
  refine cl_X6_161 hC hD hH hv9.2.2.2 hv9.2.2.1 ⟨Nat.le_of_ble_eq_true rfl, Nat.le_of_ble_eq_true rfl⟩ ⟨(Nat.le_of_ble_eq_true rfl), (Nat.le_of_ble_eq_true rfl)⟩ ⟨(Nat.le_of_ble_eq_true rfl), (Nat.le_of_ble_eq_true rfl)⟩ hl.1 (Nat.le_of_ble_eq_true rfl) dX6_distinct_21 (fun r10 w11 H locs hH hv12 => ?_)
  exact sj_retI hC hD.2 hH hr rfl hv12 ⟨(Nat.le_of_ble_eq_true rfl), (Nat.le_of_ble_eq_true rfl)⟩ dX6_distinct_24
section SJL_X6_distinct
variable {p : Program} {l : Launch} {e : Env} {R : Room} {s : State} {m : MethodId} {args : Array Value} {below : List Frame} {meth : Method} {c : Code} {H : Heap} {locs : List Loc} {cells slots : Nat} {Q : State → Prop} {cc : ByteArray} {pc : Nat} {ls : Array Slot} {rest : List Value} {G : sj_G} {nL : Nat} {w : sj_W}
theorem cx_L_90 {QX : String → sj_W → Prop} {b : Nat} {b0 : Int32} {b1 : Int32} {Qi : Int32 → sj_W → Prop} (hC : sj_C G p l s m args c cc RL nL) (hH : sj_H G s w H locs) (hv : vc_X6_distinct b b0 b1 w Qi QX) (hT : sj_T w b = 5) (hR : rm_X6_distinct.frames + 1 ≤ R.frames ∧ 8 + (3 + 11) + rm_X6_distinct.locals ≤ R.locals) (hf : cells + 2 ≤ R.cells ∧ slots + 12 ≤ R.slots) (hls : ls.size = nL) (hW : (rest.map fun v => v.category).sum ≤ 8) (hdg : decode cc pc = .ok (.invokevirtual 90, 3)) (kx : ∀ (E : String) (ce : Cell) (q9 : Addr) (w1 : sj_W) (H1 : Heap) (locs1 : List Loc), sj_H G s w1 H1 locs1 → QX E w1 → H1[q9]? = some ce → ce.vm = .none → s.vm.findClass E = some ce.cls → vx_W p l e R s m args below meth c H1 locs1 (cells + 2) (slots + 12) Q (F0 m pc ls rest) q9) (kk : ∀ (r : Int32) (w1 : sj_W) (H : Heap) (locs : List Loc), sj_H G s w1 H locs → Qi r w1 → W p l e R s m args below meth c H locs (cells + 2) (slots + 12) Q (F0 m (pc + 3) ls (.int r :: rest))) : W p l e R s m args below meth c H locs cells slots Q (F0 m pc ls (.int b1 :: .int b0 :: .ref b :: rest)) :=
  sj_xI hH (sj_runV (n := 2) hC hH (As := [.int b0, .int b1]) (wk_X6_distinct G l hC.2.2.2.2.2.2 b b0 b1 w Qi QX hv) (ci := 4) rfl (by decide) hT mb_497 mb_498 mb_499 mb_1 mb_500 (by decide +kernel) hR hf rfl hls hW hdg) kx kk
end SJL_X6_distinct
abbrev rm_X6_isUnsigned : Room := { frames := 6, cells := 1, slots := 6, locals := 82 }
def vc_X6_isUnsigned (a1 : Int32) (w : sj_W) (Q : Int32 → sj_W → Prop) (QX : String → sj_W → Prop) : Prop := ((a1 = 115 → ((¬ a1 = 117 → Q 0 w) ∧ (a1 = 117 → Q 1 w))) ∧ (¬ a1 = 115 → ((a1 = 117 → ((¬ a1 = 117 → Q 0 w) ∧ (a1 = 117 → Q 1 w))) ∧ (¬ a1 = 117 → QX "java/lang/IllegalArgumentException" w))))
set_option maxHeartbeats 4000000 in
set_option maxRecDepth 100000 in
theorem wk_X6_isUnsigned (G : sj_G) (l : Launch) (hlt : l.stackTraces = false) (a1 : Int32) (w : sj_W) (Q : Int32 → sj_W → Prop) (QX : String → sj_W → Prop) (hv : vc_X6_isUnsigned a1 w Q QX) : sj_MI G l yX6_isUnsigned (sj_ws yX6_isUnsigned cX6_isUnsigned 1 (some .boolean)) rm_X6_isUnsigned [.int a1] w Q QX := by
  refine sj_of (by decide +kernel) (Nat.le_of_ble_eq_true rfl) hlt ?_
  intro p e s m args below meth c ls hC hD hr hin hH hl
  have hx := hC.1
  have hb := hC.2.1
  have hl : lv_has ls 1 [(0, .int a1)] := hl
  refine lv_iload_n hx hb dX6_isUnsigned_0 rfl (lv_at hl 0 rfl) ?_
  refine lv_bipush (v := 115) hx hb dX6_isUnsigned_1 (by decide) ?_
  refine lv_icmp_eq (tgt := 22) hx hb dX6_isUnsigned_3 (by decide) (fun hc => ?_) (fun hc => ?_)
  · have hv1 := hv.1 hc
    refine lv_iload_n hx hb dX6_isUnsigned_22 rfl (lv_at hl 0 rfl) ?_
    refine lv_bipush (v := 117) hx hb dX6_isUnsigned_23 (by decide) ?_
    refine lv_icmp_ne (tgt := 32) hx hb dX6_isUnsigned_25 (by decide) (fun hc => ?_) (fun hc => ?_)
    · have hv2 := hv1.1 hc
      refine lv_iconst (v := 0) hx hb dX6_isUnsigned_32 (by decide) ?_
      exact sj_retI hC hD.2 hH hr rfl hv2 ⟨(Nat.le_of_ble_eq_true rfl), (Nat.le_of_ble_eq_true rfl)⟩ dX6_isUnsigned_33
    · have hv3 := hv1.2 hc
      refine lv_iconst (v := 1) hx hb dX6_isUnsigned_28 (by decide) ?_
      refine lv_goto (tgt := 33) hx hb dX6_isUnsigned_29 (by decide) ?_
      exact sj_retI hC hD.2 hH hr rfl hv3 ⟨(Nat.le_of_ble_eq_true rfl), (Nat.le_of_ble_eq_true rfl)⟩ dX6_isUnsigned_33
  · have hv4 := hv.2 hc
    refine lv_iload_n hx hb dX6_isUnsigned_6 rfl (lv_at hl 0 rfl) ?_
    refine lv_bipush (v := 117) hx hb dX6_isUnsigned_7 (by decide) ?_
    refine lv_icmp_eq (tgt := 22) hx hb dX6_isUnsigned_9 (by decide) (fun hc => ?_) (fun hc => ?_)
    · have hv5 := hv4.1 hc
      refine lv_iload_n hx hb dX6_isUnsigned_22 rfl (lv_at hl 0 rfl) ?_
      refine lv_bipush (v := 117) hx hb dX6_isUnsigned_23 (by decide) ?_
      refine lv_icmp_ne (tgt := 32) hx hb dX6_isUnsigned_25 (by decide) (fun hc => ?_) (fun hc => ?_)
      · have hv6 := hv5.1 hc
        refine lv_iconst (v := 0) hx hb dX6_isUnsigned_32 (by decide) ?_
        exact sj_retI hC hD.2 hH hr rfl hv6 ⟨(Nat.le_of_ble_eq_true rfl), (Nat.le_of_ble_eq_true rfl)⟩ dX6_isUnsigned_33
      · have hv7 := hv5.2 hc
        refine lv_iconst (v := 1) hx hb dX6_isUnsigned_28 (by decide) ?_
        refine lv_goto (tgt := 33) hx hb dX6_isUnsigned_29 (by decide) ?_
        exact sj_retI hC hD.2 hH hr rfl hv7 ⟨(Nat.le_of_ble_eq_true rfl), (Nat.le_of_ble_eq_true rfl)⟩ dX6_isUnsigned_33
    · have hv8 := hv4.2 hc
      exact th_X6_225_69 hC hD hH hl.1 dX6_isUnsigned_12 dX6_isUnsigned_15 dX6_isUnsigned_16 dX6_isUnsigned_18 dX6_isUnsigned_21 ⟨Nat.le_of_ble_eq_true rfl, Nat.le_of_ble_eq_true rfl⟩ ⟨(Nat.le_of_ble_eq_true rfl), (Nat.le_of_ble_eq_true rfl)⟩ ⟨(Nat.le_of_ble_eq_true rfl), (Nat.le_of_ble_eq_true rfl)⟩ hv8
section SJL_X6_isUnsigned
variable {p : Program} {l : Launch} {e : Env} {R : Room} {s : State} {m : MethodId} {args : Array Value} {below : List Frame} {meth : Method} {c : Code} {H : Heap} {locs : List Loc} {cells slots : Nat} {Q : State → Prop} {cc : ByteArray} {pc : Nat} {ls : Array Slot} {rest : List Value} {G : sj_G} {nL : Nat} {w : sj_W}
theorem cl_X6_133 {rmM : Room} {QcM : Array Value → State → Outcome → State → Prop} {QX : String → sj_W → Prop} {b0 : Int32} {Qi : Int32 → sj_W → Prop} (hC : sj_C G p l s m args c cc RX6 nL) (hD : sj_D meth c) (hH : sj_H G s w H locs) (hv : vc_X6_isUnsigned b0 w Qi QX) (hR : rm_X6_isUnsigned.frames + 1 ≤ R.frames ∧ 8 + (1 + 11) + rm_X6_isUnsigned.locals ≤ R.locals) (hf : cells + 1 ≤ R.cells ∧ slots + 6 ≤ R.slots) (hfM : cells + 1 ≤ rmM.cells ∧ slots + 6 ≤ rmM.slots) (hls : ls.size = nL) (hW : (rest.map fun v => v.category).sum ≤ 8) (hdg : decode cc pc = .ok (.invokestatic 133, 3)) (kk : ∀ (r : Int32) (w1 : sj_W) (H : Heap) (locs : List Loc), sj_H G s w1 H locs → Qi r w1 → W p l e R s m args below meth c H locs (cells + 1) (slots + 6) (sj_MQ G below QcM QX args s rmM) (F0 m (pc + 3) ls (.int r :: rest))) : W p l e R s m args below meth c H locs cells slots (sj_MQ G below QcM QX args s rmM) (F0 m pc ls (.int b0 :: rest)) :=
  sj_cI hD hH (sj_runS (n := 1) hC hH (As := [.int b0]) (wk_X6_isUnsigned G l hC.2.2.2.2.2.2 b0 w Qi QX hv) mb_452 mb_453 mb_1 mb_454 (by decide +kernel) hR hf rfl hls hW hdg) hfM kk
end SJL_X6_isUnsigned
abbrev rm_X6_wantPlace : Room := { frames := 6, cells := 1, slots := 6, locals := 82 }
def vc_X6_wantPlace (a1 : Int32) (a2 : Int32) (w : sj_W) (Q : sj_W → Prop) (QX : String → sj_W → Prop) : Prop := ((a1 < 0 → QX "java/lang/IndexOutOfBoundsException" w) ∧ (¬ a1 < 0 → ((a1 < a2 → Q w) ∧ (¬ a1 < a2 → QX "java/lang/IndexOutOfBoundsException" w))))
set_option maxHeartbeats 4000000 in
set_option maxRecDepth 100000 in
theorem wk_X6_wantPlace (G : sj_G) (l : Launch) (hlt : l.stackTraces = false) (a1 : Int32) (a2 : Int32) (w : sj_W) (Q : sj_W → Prop) (QX : String → sj_W → Prop) (hv : vc_X6_wantPlace a1 a2 w Q QX) : sj_MV G l yX6_wantPlace (sj_ws yX6_wantPlace cX6_wantPlace 2 none) rm_X6_wantPlace [.int a1, .int a2] w Q QX := by
  refine sj_of (by decide +kernel) (Nat.le_of_ble_eq_true rfl) hlt ?_
  intro p e s m args below meth c ls hC hD hr hin hH hl
  have hx := hC.1
  have hb := hC.2.1
  have hl : lv_has ls 2 [(0, .int a1), (1, .int a2)] := hl
  refine lv_iload_n hx hb dX6_wantPlace_0 rfl (lv_at hl 0 rfl) ?_
  refine lv_if_lt (tgt := 9) hx hb dX6_wantPlace_1 (by decide) (fun hc => ?_) (fun hc => ?_)
  · have hv1 := hv.1 hc
    exact th_X6_237_76 hC hD hH hl.1 dX6_wantPlace_9 dX6_wantPlace_12 dX6_wantPlace_13 dX6_wantPlace_15 dX6_wantPlace_18 ⟨Nat.le_of_ble_eq_true rfl, Nat.le_of_ble_eq_true rfl⟩ ⟨(Nat.le_of_ble_eq_true rfl), (Nat.le_of_ble_eq_true rfl)⟩ ⟨(Nat.le_of_ble_eq_true rfl), (Nat.le_of_ble_eq_true rfl)⟩ hv1
  · have hv2 := hv.2 hc
    refine lv_iload_n hx hb dX6_wantPlace_4 rfl (lv_at hl 0 rfl) ?_
    refine lv_iload_n hx hb dX6_wantPlace_5 rfl (lv_at hl 1 rfl) ?_
    refine lv_icmp_lt (tgt := 19) hx hb dX6_wantPlace_6 (by decide) (fun hc => ?_) (fun hc => ?_)
    · have hv3 := hv2.1 hc
      exact sj_retV hC hD.2 hH hr hv3 ⟨(Nat.le_of_ble_eq_true rfl), (Nat.le_of_ble_eq_true rfl)⟩ dX6_wantPlace_19
    · have hv4 := hv2.2 hc
      exact th_X6_237_76 hC hD hH hl.1 dX6_wantPlace_9 dX6_wantPlace_12 dX6_wantPlace_13 dX6_wantPlace_15 dX6_wantPlace_18 ⟨Nat.le_of_ble_eq_true rfl, Nat.le_of_ble_eq_true rfl⟩ ⟨(Nat.le_of_ble_eq_true rfl), (Nat.le_of_ble_eq_true rfl)⟩ ⟨(Nat.le_of_ble_eq_true rfl), (Nat.le_of_ble_eq_true rfl)⟩ hv4
section SJL_X6_wantPlace
variable {p : Program} {l : Launch} {e : Env} {R : Room} {s : State} {m : MethodId} {args : Array Value} {below : List Frame} {meth : Method} {c : Code} {H : Heap} {locs : List Loc} {cells slots : Nat} {Q : State → Prop} {cc : ByteArray} {pc : Nat} {ls : Array Slot} {rest : List Value} {G : sj_G} {nL : Nat} {w : sj_W}
theorem cl_X6_61 {rmM : Room} {QcM : Array Value → State → Outcome → State → Prop} {QX : String → sj_W → Prop} {b0 : Int32} {b1 : Int32} {Qi : sj_W → Prop} (hC : sj_C G p l s m args c cc RX6 nL) (hD : sj_D meth c) (hH : sj_H G s w H locs) (hv : vc_X6_wantPlace b0 b1 w Qi QX) (hR : rm_X6_wantPlace.frames + 1 ≤ R.frames ∧ 8 + (2 + 11) + rm_X6_wantPlace.locals ≤ R.locals) (hf : cells + 1 ≤ R.cells ∧ slots + 6 ≤ R.slots) (hfM : cells + 1 ≤ rmM.cells ∧ slots + 6 ≤ rmM.slots) (hls : ls.size = nL) (hW : (rest.map fun v => v.category).sum ≤ 8) (hdg : decode cc pc = .ok (.invokestatic 61, 3)) (kk : ∀ (w1 : sj_W) (H : Heap) (locs : List Loc), sj_H G s w1 H locs → Qi w1 → W p l e R s m args below meth c H locs (cells + 1) (slots + 6) (sj_MQ G below QcM QX args s rmM) (F0 m (pc + 3) ls rest)) : W p l e R s m args below meth c H locs cells slots (sj_MQ G below QcM QX args s rmM) (F0 m pc ls (.int b1 :: .int b0 :: rest)) :=
  sj_cV hD hH (sj_runS (n := 2) hC hH (As := [.int b0, .int b1]) (wk_X6_wantPlace G l hC.2.2.2.2.2.2 b0 b1 w Qi QX hv) mb_262 mb_263 mb_1 mb_264 (by decide +kernel) hR hf rfl hls hW hdg) hfM kk
end SJL_X6_wantPlace
abbrev rm_X0_compareParts : Room := { frames := 1, cells := 0, slots := 0, locals := 28 }
def vc_X0_compareParts (self : Nat) (a1 : Int32) (a2 : Int32) (a3 : Int32) (a4 : Int32) (w : sj_W) (Q : Int32 → sj_W → Prop) : Prop := sj_T w self = 1 ∧ sj_A w 0 self ≠ 0 ∧ sj_T w (sj_A w 0 self) = 13 ∧ vp_in a1 (sj_N w (sj_A w 0 self)) ∧ (sj_r w (sj_A w 0 self) a1.toNatClampNeg) ≠ 0 ∧ sj_T w (sj_r w (sj_A w 0 self) a1.toNatClampNeg) = 7 ∧ vp_in a3 (sj_N w (sj_r w (sj_A w 0 self) a1.toNatClampNeg)) ∧ (((a2 - a1) ≤ (sj_i w (sj_r w (sj_A w 0 self) a1.toNatClampNeg) a3.toNatClampNeg) → vc_X6_compareNumbers ((a2 - a1).toInt64) ((a4 - a3).toInt64) 0 w (fun r2 w3 => Q r2 w3)) ∧ (¬ (a2 - a1) ≤ (sj_i w (sj_r w (sj_A w 0 self) a1.toNatClampNeg) a3.toNatClampNeg) → (((a4 - a3) ≤ (sj_i w (sj_r w (sj_A w 0 self) a1.toNatClampNeg) a3.toNatClampNeg) → vc_X6_compareNumbers ((a2 - a1).toInt64) ((a4 - a3).toInt64) 0 w (fun r7 w8 => Q r7 w8)) ∧ (¬ (a4 - a3) ≤ (sj_i w (sj_r w (sj_A w 0 self) a1.toNatClampNeg) a3.toNatClampNeg) → sj_T w self = 1 ∧ sj_A w 5 self ≠ 0 ∧ sj_T w (sj_A w 5 self) = 8 ∧ vp_in (a1 + (sj_i w (sj_r w (sj_A w 0 self) a1.toNatClampNeg) a3.toNatClampNeg)) (sj_N w (sj_A w 5 self)) ∧ sj_T w self = 1 ∧ sj_A w 5 self ≠ 0 ∧ sj_T w (sj_A w 5 self) = 8 ∧ vp_in (a3 + (sj_i w (sj_r w (sj_A w 0 self) a1.toNatClampNeg) a3.toNatClampNeg)) (sj_N w (sj_A w 5 self)) ∧ sj_T w self = 1 ∧ vc_X6_compareNumbers (sj_l w (sj_A w 5 self) (a1 + (sj_i w (sj_r w (sj_A w 0 self) a1.toNatClampNeg) a3.toNatClampNeg)).toNatClampNeg) (sj_l w (sj_A w 5 self) (a3 + (sj_i w (sj_r w (sj_A w 0 self) a1.toNatClampNeg) a3.toNatClampNeg)).toNatClampNeg) (sj_I w 7 self) w (fun r11 w12 => Q r11 w12)))))
set_option maxHeartbeats 4000000 in
set_option maxRecDepth 100000 in
theorem wk_X0_compareParts (G : sj_G) (l : Launch) (hlt : l.stackTraces = false) (self : Nat) (a1 : Int32) (a2 : Int32) (a3 : Int32) (a4 : Int32) (w : sj_W) (Q : Int32 → sj_W → Prop) (QX : String → sj_W → Prop) (hv : vc_X0_compareParts self a1 a2 a3 a4 w Q) : sj_MI G l yX0_compareParts (sj_ws yX0_compareParts cX0_compareParts 8 (some .int)) rm_X0_compareParts [.ref self, .int a1, .int a2, .int a3, .int a4] w Q QX := by
  refine sj_of (by decide +kernel) (Nat.le_of_ble_eq_true rfl) hlt ?_
  intro p e s m args below meth c ls hC hD hr hin hH hl
  have hx := hC.1
  have hb := hC.2.1
  have hl : lv_has ls 8 [(0, .ref self), (1, .int a1), (2, .int a2), (3, .int a3), (4, .int a4)] := hl
  refine lv_iload_n hx hb dX0_compareParts_0 rfl (lv_at hl 2 rfl) ?_
  refine lv_iload_n hx hb dX0_compareParts_1 rfl (lv_at hl 1 rfl) ?_
  refine lv_isub hx hb dX0_compareParts_2 ?_
  refine lv_istore (lv' := [(5, .int (a2 - a1)), (0, .ref self), (1, .int a1), (2, .int a2), (3, .int a3), (4, .int a4)]) hx hb dX0_compareParts_3 hl (by decide) rfl (fun ls hl => ?_)
  refine lv_iload hx hb dX0_compareParts_5 (lv_at hl 5 rfl) ?_
  refine lv_iload_n hx hb dX0_compareParts_7 rfl (lv_at hl 4 rfl) ?_
  refine lv_isub hx hb dX0_compareParts_8 ?_
  refine lv_istore (lv' := [(6, .int (a4 - a3)), (5, .int (a2 - a1)), (0, .ref self), (1, .int a1), (2, .int a2), (3, .int a3), (4, .int a4)]) hx hb dX0_compareParts_9 hl (by decide) rfl (fun ls hl => ?_)
  refine lv_aload_n hx hb dX0_compareParts_11 rfl (lv_at hl 2 rfl) ?_
  refine gf_X0_11 hC hH hv.1 hv.2.1 dX0_compareParts_12 ?_
  refine lv_iload_n hx hb dX0_compareParts_15 rfl (lv_at hl 3 rfl) ?_
  refine sj_aaldI hC hH hv.2.2.1 hv.2.2.2.1 hv.2.2.2.2.1 dX0_compareParts_16 ?_
  refine lv_iload_n hx hb dX0_compareParts_17 rfl (lv_at hl 5 rfl) ?_
  refine sj_iald hC hH hv.2.2.2.2.2.1 hv.2.2.2.2.2.2.1 dX0_compareParts_18 ?_
  refine lv_istore (lv' := [(7, .int (sj_i w (sj_r w (sj_A w 0 self) a1.toNatClampNeg) a3.toNatClampNeg)), (6, .int (a4 - a3)), (5, .int (a2 - a1)), (0, .ref self), (1, .int a1), (2, .int a2), (3, .int a3), (4, .int a4)]) hx hb dX0_compareParts_19 hl (by decide) rfl (fun ls hl => ?_)
  refine lv_iload hx hb dX0_compareParts_21 (lv_at hl 0 rfl) ?_
  refine lv_iload hx hb dX0_compareParts_23 (lv_at hl 2 rfl) ?_
  refine lv_icmp_ge (tgt := 61) hx hb dX0_compareParts_25 (by decide) (fun hc => ?_) (fun hc => ?_)
  · have hv1 := hv.2.2.2.2.2.2.2.1 hc
    refine lv_iload hx hb dX0_compareParts_61 (lv_at hl 2 rfl) ?_
    refine lv_i2l hx hb dX0_compareParts_63 rfl ?_
    refine lv_iload hx hb dX0_compareParts_64 (lv_at hl 1 rfl) ?_
    refine lv_i2l hx hb dX0_compareParts_66 rfl ?_
    refine lv_iconst (v := 0) hx hb dX0_compareParts_67 (by decide) ?_
    refine cl_X0_42 hC hD hH hv1 ⟨Nat.le_of_ble_eq_true rfl, Nat.le_of_ble_eq_true rfl⟩ ⟨(Nat.le_of_ble_eq_true rfl), (Nat.le_of_ble_eq_true rfl)⟩ ⟨(Nat.le_of_ble_eq_true rfl), (Nat.le_of_ble_eq_true rfl)⟩ hl.1 (Nat.le_of_ble_eq_true rfl) dX0_compareParts_68 (fun r2 w3 H locs hH hv4 => ?_)
    exact sj_retI hC hD.2 hH hr rfl hv4 ⟨(Nat.le_of_ble_eq_true rfl), (Nat.le_of_ble_eq_true rfl)⟩ dX0_compareParts_71
  · have hv5 := hv.2.2.2.2.2.2.2.2 hc
    refine lv_iload hx hb dX0_compareParts_28 (lv_at hl 0 rfl) ?_
    refine lv_iload hx hb dX0_compareParts_30 (lv_at hl 1 rfl) ?_
    refine lv_icmp_ge (tgt := 61) hx hb dX0_compareParts_32 (by decide) (fun hc => ?_) (fun hc => ?_)
    · have hv6 := hv5.1 hc
      refine lv_iload hx hb dX0_compareParts_61 (lv_at hl 2 rfl) ?_
      refine lv_i2l hx hb dX0_compareParts_63 rfl ?_
      refine lv_iload hx hb dX0_compareParts_64 (lv_at hl 1 rfl) ?_
      refine lv_i2l hx hb dX0_compareParts_66 rfl ?_
      refine lv_iconst (v := 0) hx hb dX0_compareParts_67 (by decide) ?_
      refine cl_X0_42 hC hD hH hv6 ⟨Nat.le_of_ble_eq_true rfl, Nat.le_of_ble_eq_true rfl⟩ ⟨(Nat.le_of_ble_eq_true rfl), (Nat.le_of_ble_eq_true rfl)⟩ ⟨(Nat.le_of_ble_eq_true rfl), (Nat.le_of_ble_eq_true rfl)⟩ hl.1 (Nat.le_of_ble_eq_true rfl) dX0_compareParts_68 (fun r7 w8 H locs hH hv9 => ?_)
      exact sj_retI hC hD.2 hH hr rfl hv9 ⟨(Nat.le_of_ble_eq_true rfl), (Nat.le_of_ble_eq_true rfl)⟩ dX0_compareParts_71
    · have hv10 := hv5.2 hc
      refine lv_aload_n hx hb dX0_compareParts_35 rfl (lv_at hl 3 rfl) ?_
      refine gf_X0_26 hC hH hv10.1 hv10.2.1 dX0_compareParts_36 ?_
      refine lv_iload_n hx hb dX0_compareParts_39 rfl (lv_at hl 4 rfl) ?_
      refine lv_iload hx hb dX0_compareParts_40 (lv_at hl 0 rfl) ?_
      refine lv_iadd hx hb dX0_compareParts_42 ?_
      refine sj_lald hC hH hv10.2.2.1 hv10.2.2.2.1 dX0_compareParts_43 ?_
      refine lv_aload_n hx hb dX0_compareParts_44 rfl (lv_at hl 3 rfl) ?_
      refine gf_X0_26 hC hH hv10.2.2.2.2.1 hv10.2.2.2.2.2.1 dX0_compareParts_45 ?_
      refine lv_iload_n hx hb dX0_compareParts_48 rfl (lv_at hl 6 rfl) ?_
      refine lv_iload hx hb dX0_compareParts_49 (lv_at hl 0 rfl) ?_
      refine lv_iadd hx hb dX0_compareParts_51 ?_
      refine sj_lald hC hH hv10.2.2.2.2.2.2.1 hv10.2.2.2.2.2.2.2.1 dX0_compareParts_52 ?_
      refine lv_aload_n hx hb dX0_compareParts_53 rfl (lv_at hl 3 rfl) ?_
      refine gf_X0_38 hC hH hv10.2.2.2.2.2.2.2.2.1 dX0_compareParts_54 ?_
      refine cl_X0_42 hC hD hH hv10.2.2.2.2.2.2.2.2.2 ⟨Nat.le_of_ble_eq_true rfl, Nat.le_of_ble_eq_true rfl⟩ ⟨(Nat.le_of_ble_eq_true rfl), (Nat.le_of_ble_eq_true rfl)⟩ ⟨(Nat.le_of_ble_eq_true rfl), (Nat.le_of_ble_eq_true rfl)⟩ hl.1 (Nat.le_of_ble_eq_true rfl) dX0_compareParts_57 (fun r11 w12 H locs hH hv13 => ?_)
      exact sj_retI hC hD.2 hH hr rfl hv13 ⟨(Nat.le_of_ble_eq_true rfl), (Nat.le_of_ble_eq_true rfl)⟩ dX0_compareParts_60
section SJL_X0_compareParts
variable {p : Program} {l : Launch} {e : Env} {R : Room} {s : State} {m : MethodId} {args : Array Value} {below : List Frame} {meth : Method} {c : Code} {H : Heap} {locs : List Loc} {cells slots : Nat} {Q : State → Prop} {cc : ByteArray} {pc : Nat} {ls : Array Slot} {rest : List Value} {G : sj_G} {nL : Nat} {w : sj_W}
theorem cl_X0_46 {rmM : Room} {QcM : Array Value → State → Outcome → State → Prop} {QX : String → sj_W → Prop} {b : Nat} {b0 : Int32} {b1 : Int32} {b2 : Int32} {b3 : Int32} {Qi : Int32 → sj_W → Prop} (hC : sj_C G p l s m args c cc RX0 nL) (hD : sj_D meth c) (hH : sj_H G s w H locs) (hv : vc_X0_compareParts b b0 b1 b2 b3 w Qi) (hT : sj_T w b = 1) (hR : rm_X0_compareParts.frames + 1 ≤ R.frames ∧ 8 + (8 + 11) + rm_X0_compareParts.locals ≤ R.locals) (hf : cells + 0 ≤ R.cells ∧ slots + 0 ≤ R.slots) (hfM : cells + 0 ≤ rmM.cells ∧ slots + 0 ≤ rmM.slots) (hls : ls.size = nL) (hW : (rest.map fun v => v.category).sum ≤ 8) (hdg : decode cc pc = .ok (.invokevirtual 46, 3)) (kk : ∀ (r : Int32) (w1 : sj_W) (H : Heap) (locs : List Loc), sj_H G s w1 H locs → Qi r w1 → W p l e R s m args below meth c H locs (cells + 0) (slots + 0) (sj_MQ G below QcM QX args s rmM) (F0 m (pc + 3) ls (.int r :: rest))) : W p l e R s m args below meth c H locs cells slots (sj_MQ G below QcM QX args s rmM) (F0 m pc ls (.int b3 :: .int b2 :: .int b1 :: .int b0 :: .ref b :: rest)) :=
  sj_cI hD hH (sj_runV (n := 4) hC hH (As := [.int b0, .int b1, .int b2, .int b3]) (wk_X0_compareParts G l hC.2.2.2.2.2.2 b b0 b1 b2 b3 w Qi QX hv) (ci := 0) rfl (by decide) hT mb_489 mb_491 mb_s11 mb_2 mb_492 (by decide +kernel) hR hf rfl hls hW hdg) hfM kk
theorem cl_X2_28 {rmM : Room} {QcM : Array Value → State → Outcome → State → Prop} {QX : String → sj_W → Prop} {b : Nat} {b0 : Int32} {b1 : Int32} {b2 : Int32} {b3 : Int32} {Qi : Int32 → sj_W → Prop} (hC : sj_C G p l s m args c cc RX2 nL) (hD : sj_D meth c) (hH : sj_H G s w H locs) (hv : vc_X0_compareParts b b0 b1 b2 b3 w Qi) (hT : sj_T w b = 1) (hR : rm_X0_compareParts.frames + 1 ≤ R.frames ∧ 8 + (8 + 11) + rm_X0_compareParts.locals ≤ R.locals) (hf : cells + 0 ≤ R.cells ∧ slots + 0 ≤ R.slots) (hfM : cells + 0 ≤ rmM.cells ∧ slots + 0 ≤ rmM.slots) (hls : ls.size = nL) (hW : (rest.map fun v => v.category).sum ≤ 8) (hdg : decode cc pc = .ok (.invokevirtual 28, 3)) (kk : ∀ (r : Int32) (w1 : sj_W) (H : Heap) (locs : List Loc), sj_H G s w1 H locs → Qi r w1 → W p l e R s m args below meth c H locs (cells + 0) (slots + 0) (sj_MQ G below QcM QX args s rmM) (F0 m (pc + 3) ls (.int r :: rest))) : W p l e R s m args below meth c H locs cells slots (sj_MQ G below QcM QX args s rmM) (F0 m pc ls (.int b3 :: .int b2 :: .int b1 :: .int b0 :: .ref b :: rest)) :=
  sj_cI hD hH (sj_runVN (n := 4) hC hH (As := [.int b0, .int b1, .int b2, .int b3]) (wk_X0_compareParts G l hC.2.2.2.2.2.2 b b0 b1 b2 b3 w Qi QX hv) (ci := 0) rfl (by decide) hT mb_675 mb_491 mb_s11 mb_2 mb_492 (by decide +kernel) hR hf rfl hls hW hdg) hfM kk
end SJL_X0_compareParts
abbrev rm_X0_putInOrder : Room := { frames := 2, cells := 0, slots := 0, locals := 55 }
def vb_X0_putInOrder_12 (f0 : Nat) (f1 : Int32) (Q : sj_W → Prop) (E : Int32 → sj_W → Prop) (K : Int32 → sj_W → Prop) (v2 : Int32) (w : sj_W) : Prop := ((v2 ≤ 0 → E v2 w) ∧ (¬ v2 ≤ 0 → sj_T w f0 = 1 ∧ sj_A w 2 f0 ≠ 0 ∧ sj_T w (sj_A w 2 f0) = 7 ∧ vp_in (v2 - 1) (sj_N w (sj_A w 2 f0)) ∧ sj_T w f0 = 1 ∧ sj_T w f0 = 1 ∧ sj_T w f0 = 1 ∧ vc_X0_compareParts f0 (sj_i w (sj_A w 2 f0) (v2 - 1).toNatClampNeg) (sj_I w 6 f0) f1 (sj_I w 6 f0) w (fun r5 w6 => ((r5 ≤ 0 → E v2 w6) ∧ (¬ r5 ≤ 0 → sj_T w6 f0 = 1 ∧ sj_A w6 2 f0 ≠ 0 ∧ sj_T w6 f0 = 1 ∧ sj_A w6 2 f0 ≠ 0 ∧ sj_T w6 (sj_A w6 2 f0) = 7 ∧ vp_in (v2 - 1) (sj_N w6 (sj_A w6 2 f0)) ∧ sj_T w6 (sj_A w6 2 f0) = 7 ∧ vp_in v2 (sj_N w6 (sj_A w6 2 f0)) ∧ ∀ w10 : sj_W, w10 = sj_si w6 (sj_A w6 2 f0) v2.toNatClampNeg (sj_i w6 (sj_A w6 2 f0) (v2 - 1).toNatClampNeg) → K (v2 + (-1)) w10)))))
def vb_X0_putInOrder_2 (f0 : Nat) (Q : sj_W → Prop) (E : sj_W → Prop) (K : Int32 → sj_W → Prop) (v1 : Int32) (w : sj_W) : Prop := sj_T w f0 = 1 ∧ (((sj_I w 6 f0) ≤ v1 → E w) ∧ (¬ (sj_I w 6 f0) ≤ v1 → sj_lp1 (vb_X0_putInOrder_12 f0 v1 Q (fun z2_12 w_12 => sj_T w_12 f0 = 1 ∧ sj_A w_12 2 f0 ≠ 0 ∧ sj_T w_12 (sj_A w_12 2 f0) = 7 ∧ vp_in z2_12 (sj_N w_12 (sj_A w_12 2 f0)) ∧ ∀ w13 : sj_W, w13 = sj_si w_12 (sj_A w_12 2 f0) z2_12.toNatClampNeg v1 → K (v1 + 1) w13)) 64 v1 w))
def vc_X0_putInOrder (self : Nat) (w : sj_W) (Q : sj_W → Prop) : Prop := sj_lp1 (vb_X0_putInOrder_2 self Q (fun w_2 => Q w_2)) 64 0 w
set_option maxHeartbeats 4000000 in
set_option maxRecDepth 100000 in
theorem wl_X0_putInOrder_12 {p : Program} {l : Launch} {e : Env} {s : State} {m : MethodId} {args : Array Value} {below : List Frame} {meth : Method} {c : Code} {G : sj_G} {f0 : Nat} {f1 : Int32} {Q : sj_W → Prop} {QX : String → sj_W → Prop} {E : Int32 → sj_W → Prop} (hC : sj_C G p l s m args c cX0_putInOrder RX0 3) (hD : sj_D meth c) (hr : meth.sig.returnType = none) (hin : meth.name = "putInOrder") (hE : ∀ (v2 : Int32) (w : sj_W) (H : Heap) (locs : List Loc) (ls : Array Slot), lv_has ls 3 [(0, .ref f0), (1, .int f1), (2, .int v2)] → sj_H G s w H locs → E v2 w → W p l e rm_X0_putInOrder s m args below meth c H locs 0 0 (sj_MQ G below (va_Qv Q (sj_B G) (sj_F G)) QX args s rm_X0_putInOrder) (F0 m 60 ls [])) : ∀ (n : Nat) (v2 : Int32) (w : sj_W) (H : Heap) (locs : List Loc) (ls : Array Slot), lv_has ls 3 [(0, .ref f0), (1, .int f1), (2, .int v2)] → sj_H G s w H locs → sj_lp1 (vb_X0_putInOrder_12 f0 f1 Q E) n v2 w → W p l e rm_X0_putInOrder s m args below meth c H locs 0 0 (sj_MQ G below (va_Qv Q (sj_B G) (sj_F G)) QX args s rm_X0_putInOrder) (F0 m 12 ls []) := by
  have hx := hC.1
  have hb := hC.2.1
  intro n
  induction n with
  | zero =>
    intro v2 w H locs ls _ _ hv
    exact hv.elim
  | succ n ih =>
    intro v2 w H locs ls hl hH hv
    have hv : vb_X0_putInOrder_12 f0 f1 Q E (sj_lp1 (vb_X0_putInOrder_12 f0 f1 Q E) n) v2 w := hv
    have hc1 : rm_X0_putInOrder.cells = 0 := rfl
    have hc2 : rm_X0_putInOrder.slots = 0 := rfl
    refine lv_iload_n hx hb dX0_putInOrder_12 rfl (lv_at hl 2 rfl) ?_
    refine lv_if_le (tgt := 60) hx hb dX0_putInOrder_13 (by decide) (fun hc => ?_) (fun hc => ?_)
    · have hv3 := hv.1 hc
      exact hE v2 w _ _ _ (lv_sub hl [0, 1, 2] rfl) hH hv3
    · have hv4 := hv.2 hc
      refine lv_aload_n hx hb dX0_putInOrder_16 rfl (lv_at hl 0 rfl) ?_
      refine lv_aload_n hx hb dX0_putInOrder_17 rfl (lv_at hl 0 rfl) ?_
      refine gf_X0_19 hC hH hv4.1 hv4.2.1 dX0_putInOrder_18 ?_
      refine lv_iload_n hx hb dX0_putInOrder_21 rfl (lv_at hl 2 rfl) ?_
      refine lv_iconst (v := 1) hx hb dX0_putInOrder_22 (by decide) ?_
      refine lv_isub hx hb dX0_putInOrder_23 ?_
      refine sj_iald hC hH hv4.2.2.1 hv4.2.2.2.1 dX0_putInOrder_24 ?_
      refine lv_aload_n hx hb dX0_putInOrder_25 rfl (lv_at hl 0 rfl) ?_
      refine gf_X0_37 hC hH hv4.2.2.2.2.1 dX0_putInOrder_26 ?_
      refine lv_iload_n hx hb dX0_putInOrder_29 rfl (lv_at hl 1 rfl) ?_
      refine lv_aload_n hx hb dX0_putInOrder_30 rfl (lv_at hl 0 rfl) ?_
      refine gf_X0_37 hC hH hv4.2.2.2.2.2.1 dX0_putInOrder_31 ?_
      refine cl_X0_46 hC hD hH hv4.2.2.2.2.2.2.2 hv4.2.2.2.2.2.2.1 ⟨Nat.le_of_ble_eq_true rfl, Nat.le_of_ble_eq_true rfl⟩ ⟨(Nat.le_of_ble_eq_true rfl), (Nat.le_of_ble_eq_true rfl)⟩ ⟨(Nat.le_of_ble_eq_true rfl), (Nat.le_of_ble_eq_true rfl)⟩ hl.1 (Nat.le_of_ble_eq_true rfl) dX0_putInOrder_34 (fun r5 w6 H locs hH hv7 => ?_)
      refine lv_if_le (tgt := 60) hx hb dX0_putInOrder_37 (by decide) (fun hc => ?_) (fun hc => ?_)
      · have hv8 := hv7.1 hc
        exact hE v2 w6 _ _ _ (lv_sub hl [0, 1, 2] rfl) hH hv8
      · have hv9 := hv7.2 hc
        refine lv_aload_n hx hb dX0_putInOrder_40 rfl (lv_at hl 0 rfl) ?_
        refine gf_X0_19 hC hH hv9.1 hv9.2.1 dX0_putInOrder_41 ?_
        refine lv_iload_n hx hb dX0_putInOrder_44 rfl (lv_at hl 2 rfl) ?_
        refine lv_aload_n hx hb dX0_putInOrder_45 rfl (lv_at hl 0 rfl) ?_
        refine gf_X0_19 hC hH hv9.2.2.1 hv9.2.2.2.1 dX0_putInOrder_46 ?_
        refine lv_iload_n hx hb dX0_putInOrder_49 rfl (lv_at hl 2 rfl) ?_
        refine lv_iconst (v := 1) hx hb dX0_putInOrder_50 (by decide) ?_
        refine lv_isub hx hb dX0_putInOrder_51 ?_
        refine sj_iald hC hH hv9.2.2.2.2.1 hv9.2.2.2.2.2.1 dX0_putInOrder_52 ?_
        refine sj_iast hC hH hv9.2.2.2.2.2.2.1 hv9.2.2.2.2.2.2.2.1 dX0_putInOrder_53 (fun w10 H locs e11 hH => ?_)
        refine lv_iinc (v := (v2 + (-1))) (lv' := [(2, .int (v2 + (-1))), (0, .ref f0), (1, .int f1)]) hx hb dX0_putInOrder_54 hl (k := 2) rfl rfl (by decide) rfl (fun ls hl => ?_)
        refine lv_goto (tgt := 12) hx hb dX0_putInOrder_57 (by decide) ?_
        exact ih (v2 + (-1)) w10 _ _ _ (lv_sub hl [1, 2, 0] rfl) hH (hv9.2.2.2.2.2.2.2.2 w10 e11)
set_option maxHeartbeats 4000000 in
set_option maxRecDepth 100000 in
theorem wl_X0_putInOrder_2 {p : Program} {l : Launch} {e : Env} {s : State} {m : MethodId} {args : Array Value} {below : List Frame} {meth : Method} {c : Code} {G : sj_G} {f0 : Nat} {Q : sj_W → Prop} {QX : String → sj_W → Prop} {E : sj_W → Prop} (hC : sj_C G p l s m args c cX0_putInOrder RX0 3) (hD : sj_D meth c) (hr : meth.sig.returnType = none) (hin : meth.name = "putInOrder") (hE : ∀ (w : sj_W) (H : Heap) (locs : List Loc) (ls : Array Slot), lv_has ls 3 [] → sj_H G s w H locs → E w → W p l e rm_X0_putInOrder s m args below meth c H locs 0 0 (sj_MQ G below (va_Qv Q (sj_B G) (sj_F G)) QX args s rm_X0_putInOrder) (F0 m 73 ls [])) : ∀ (n : Nat) (v1 : Int32) (w : sj_W) (H : Heap) (locs : List Loc) (ls : Array Slot), lv_has ls 3 [(0, .ref f0), (1, .int v1)] → sj_H G s w H locs → sj_lp1 (vb_X0_putInOrder_2 f0 Q E) n v1 w → W p l e rm_X0_putInOrder s m args below meth c H locs 0 0 (sj_MQ G below (va_Qv Q (sj_B G) (sj_F G)) QX args s rm_X0_putInOrder) (F0 m 2 ls []) := by
  have hx := hC.1
  have hb := hC.2.1
  intro n
  induction n with
  | zero =>
    intro v1 w H locs ls _ _ hv
    exact hv.elim
  | succ n ih =>
    intro v1 w H locs ls hl hH hv
    have hv : vb_X0_putInOrder_2 f0 Q E (sj_lp1 (vb_X0_putInOrder_2 f0 Q E) n) v1 w := hv
    have hc1 : rm_X0_putInOrder.cells = 0 := rfl
    have hc2 : rm_X0_putInOrder.slots = 0 := rfl
    refine lv_iload_n hx hb dX0_putInOrder_2 rfl (lv_at hl 1 rfl) ?_
    refine lv_aload_n hx hb dX0_putInOrder_3 rfl (lv_at hl 0 rfl) ?_
    refine gf_X0_37 hC hH hv.1 dX0_putInOrder_4 ?_
    refine lv_icmp_ge (tgt := 73) hx hb dX0_putInOrder_7 (by decide) (fun hc => ?_) (fun hc => ?_)
    · have hv1 := hv.2.1 hc
      exact hE  w _ _ _ (lv_sub hl [] rfl) hH hv1
    · have hv2 := hv.2.2 hc
      refine lv_iload_n hx hb dX0_putInOrder_10 rfl (lv_at hl 1 rfl) ?_
      refine lv_istore_n (lv' := [(2, .int v1), (0, .ref f0), (1, .int v1)]) hx hb dX0_putInOrder_11 rfl hl (by decide) rfl (fun ls hl => ?_)
      refine wl_X0_putInOrder_12 hC hD hr hin (fun z2_12 w_12 H locs ls hl hH hv12 => ?_) 64 v1 w _ _ _ (lv_sub hl [1, 2, 0] rfl) hH hv2
      refine lv_aload_n hx hb dX0_putInOrder_60 rfl (lv_at hl 0 rfl) ?_
      refine gf_X0_19 hC hH hv12.1 hv12.2.1 dX0_putInOrder_61 ?_
      refine lv_iload_n hx hb dX0_putInOrder_64 rfl (lv_at hl 2 rfl) ?_
      refine lv_iload_n hx hb dX0_putInOrder_65 rfl (lv_at hl 1 rfl) ?_
      refine sj_iast hC hH hv12.2.2.1 hv12.2.2.2.1 dX0_putInOrder_66 (fun w13 H locs e14 hH => ?_)
      refine lv_iinc (v := (v1 + 1)) (lv' := [(1, .int (v1 + 1)), (0, .ref f0), (2, .int z2_12)]) hx hb dX0_putInOrder_67 hl (k := 1) rfl rfl (by decide) rfl (fun ls hl => ?_)
      refine lv_goto (tgt := 2) hx hb dX0_putInOrder_70 (by decide) ?_
      exact ih (v1 + 1) w13 _ _ _ (lv_sub hl [1, 0] rfl) hH (hv12.2.2.2.2 w13 e14)
set_option maxHeartbeats 4000000 in
set_option maxRecDepth 100000 in
theorem wk_X0_putInOrder (G : sj_G) (l : Launch) (hlt : l.stackTraces = false) (self : Nat) (w : sj_W) (Q : sj_W → Prop) (QX : String → sj_W → Prop) (hv : vc_X0_putInOrder self w Q) : sj_MV G l yX0_putInOrder (sj_ws yX0_putInOrder cX0_putInOrder 3 none) rm_X0_putInOrder [.ref self] w Q QX := by
  refine sj_of (by decide +kernel) (Nat.le_of_ble_eq_true rfl) hlt ?_
  intro p e s m args below meth c ls hC hD hr hin hH hl
  have hx := hC.1
  have hb := hC.2.1
  have hl : lv_has ls 3 [(0, .ref self)] := hl
  refine lv_iconst (v := 0) hx hb dX0_putInOrder_0 (by decide) ?_
  refine lv_istore_n (lv' := [(1, .int 0), (0, .ref self)]) hx hb dX0_putInOrder_1 rfl hl (by decide) rfl (fun ls hl => ?_)
  refine wl_X0_putInOrder_2 hC hD hr hin (fun w_2 H locs ls hl hH hv15 => ?_) 64 0 w _ _ _ (lv_sub hl [1, 0] rfl) hH hv
  exact sj_retV hC hD.2 hH hr hv15 ⟨(Nat.le_of_ble_eq_true rfl), (Nat.le_of_ble_eq_true rfl)⟩ dX0_putInOrder_73
section SJL_X0_putInOrder
variable {p : Program} {l : Launch} {e : Env} {R : Room} {s : State} {m : MethodId} {args : Array Value} {below : List Frame} {meth : Method} {c : Code} {H : Heap} {locs : List Loc} {cells slots : Nat} {Q : State → Prop} {cc : ByteArray} {pc : Nat} {ls : Array Slot} {rest : List Value} {G : sj_G} {nL : Nat} {w : sj_W}
theorem cl_X6_155 {rmM : Room} {QcM : Array Value → State → Outcome → State → Prop} {QX : String → sj_W → Prop} {b : Nat} {Qi : sj_W → Prop} (hC : sj_C G p l s m args c cc RX6 nL) (hD : sj_D meth c) (hH : sj_H G s w H locs) (hv : vc_X0_putInOrder b w Qi) (hT : sj_T w b = 1) (hR : rm_X0_putInOrder.frames + 1 ≤ R.frames ∧ 8 + (3 + 11) + rm_X0_putInOrder.locals ≤ R.locals) (hf : cells + 0 ≤ R.cells ∧ slots + 0 ≤ R.slots) (hfM : cells + 0 ≤ rmM.cells ∧ slots + 0 ≤ rmM.slots) (hls : ls.size = nL) (hW : (rest.map fun v => v.category).sum ≤ 8) (hdg : decode cc pc = .ok (.invokevirtual 155, 3)) (kk : ∀ (w1 : sj_W) (H : Heap) (locs : List Loc), sj_H G s w1 H locs → Qi w1 → W p l e R s m args below meth c H locs (cells + 0) (slots + 0) (sj_MQ G below QcM QX args s rmM) (F0 m (pc + 3) ls rest)) : W p l e R s m args below meth c H locs cells slots (sj_MQ G below QcM QX args s rmM) (F0 m pc ls (.ref b :: rest)) :=
  sj_cV hD hH (sj_runVN (n := 0) hC hH (As := []) (wk_X0_putInOrder G l hC.2.2.2.2.2.2 b w Qi QX hv) (ci := 0) rfl (by decide) hT mb_485 mb_487 mb_s10 mb_2 mb_488 (by decide +kernel) hR hf rfl hls hW hdg) hfM kk
end SJL_X0_putInOrder
abbrev rm_X6_ending : Room := { frames := 8, cells := 4, slots := 24, locals := 124 }
def vc_X6_ending (self : Nat) (a1 : Int32) (a2 : Int32) (a3 : Int32) (a4 : Int32) (w : sj_W) (Q : Int32 → sj_W → Prop) (QX : String → sj_W → Prop) : Prop := vc_X6_kindOf a1 w (fun r1 w2 => vc_X6_isUnsigned a2 w2 (fun r4 w5 => sj_T w5 self = 5 ∧ vc_X6_rowOf self r1 a3 w5 (fun r7 w8 => sj_T w8 r7 = 2 ∧ vc_X6_wantPlace a4 (sj_I w8 9 r7) w8 (fun w11 => sj_T w11 self = 5 ∧ sj_A w11 35 self ≠ 0 ∧ sj_T w11 (sj_A w11 35 self) = 1 ∧ vc_X0_take (sj_A w11 35 self) r7 r4 w11 (fun w14 => sj_T w14 self = 5 ∧ sj_A w14 35 self ≠ 0 ∧ sj_T w14 (sj_A w14 35 self) = 1 ∧ vc_X0_putInOrder (sj_A w14 35 self) w14 (fun w17 => sj_T w17 self = 5 ∧ sj_A w17 35 self ≠ 0 ∧ sj_T w17 (sj_A w17 35 self) = 1 ∧ sj_A w17 2 (sj_A w17 35 self) ≠ 0 ∧ sj_T w17 (sj_A w17 2 (sj_A w17 35 self)) = 7 ∧ vp_in a4 (sj_N w17 (sj_A w17 2 (sj_A w17 35 self))) ∧ Q (sj_i w17 (sj_A w17 2 (sj_A w17 35 self)) a4.toNatClampNeg) w17))) QX) QX) QX) QX
set_option maxHeartbeats 4000000 in
set_option maxRecDepth 100000 in
theorem wk_X6_ending (G : sj_G) (l : Launch) (hlt : l.stackTraces = false) (self : Nat) (a1 : Int32) (a2 : Int32) (a3 : Int32) (a4 : Int32) (w : sj_W) (Q : Int32 → sj_W → Prop) (QX : String → sj_W → Prop) (hv : vc_X6_ending self a1 a2 a3 a4 w Q QX) : sj_MI G l yX6_ending (sj_ws yX6_ending cX6_ending 8 (some .int)) rm_X6_ending [.ref self, .int a1, .int a2, .int a3, .int a4] w Q QX := by
  refine sj_of (by decide +kernel) (Nat.le_of_ble_eq_true rfl) hlt ?_
  intro p e s m args below meth c ls hC hD hr hin hH hl
  have hx := hC.1
  have hb := hC.2.1
  have hl : lv_has ls 8 [(0, .ref self), (1, .int a1), (2, .int a2), (3, .int a3), (4, .int a4)] := hl
  refine lv_iload_n hx hb dX6_ending_0 rfl (lv_at hl 1 rfl) ?_
  refine cl_X6_34 hC hD hH hv ⟨Nat.le_of_ble_eq_true rfl, Nat.le_of_ble_eq_true rfl⟩ ⟨(Nat.le_of_ble_eq_true rfl), (Nat.le_of_ble_eq_true rfl)⟩ ⟨(Nat.le_of_ble_eq_true rfl), (Nat.le_of_ble_eq_true rfl)⟩ hl.1 (Nat.le_of_ble_eq_true rfl) dX6_ending_1 (fun r1 w2 H locs hH hv3 => ?_)
  refine lv_istore (lv' := [(5, .int r1), (0, .ref self), (1, .int a1), (2, .int a2), (3, .int a3), (4, .int a4)]) hx hb dX6_ending_4 hl (by decide) rfl (fun ls hl => ?_)
  refine lv_iload_n hx hb dX6_ending_6 rfl (lv_at hl 3 rfl) ?_
  refine cl_X6_133 hC hD hH hv3 ⟨Nat.le_of_ble_eq_true rfl, Nat.le_of_ble_eq_true rfl⟩ ⟨(Nat.le_of_ble_eq_true rfl), (Nat.le_of_ble_eq_true rfl)⟩ ⟨(Nat.le_of_ble_eq_true rfl), (Nat.le_of_ble_eq_true rfl)⟩ hl.1 (Nat.le_of_ble_eq_true rfl) dX6_ending_7 (fun r4 w5 H locs hH hv6 => ?_)
  refine lv_istore (lv' := [(6, .int r4), (5, .int r1), (0, .ref self), (1, .int a1), (2, .int a2), (3, .int a3), (4, .int a4)]) hx hb dX6_ending_10 hl (by decide) rfl (fun ls hl => ?_)
  refine lv_aload_n hx hb dX6_ending_12 rfl (lv_at hl 2 rfl) ?_
  refine lv_iload hx hb dX6_ending_13 (lv_at hl 1 rfl) ?_
  refine lv_iload_n hx hb dX6_ending_15 rfl (lv_at hl 5 rfl) ?_
  refine cl_X6_42 hC hD hH hv6.2 hv6.1 ⟨Nat.le_of_ble_eq_true rfl, Nat.le_of_ble_eq_true rfl⟩ ⟨(Nat.le_of_ble_eq_true rfl), (Nat.le_of_ble_eq_true rfl)⟩ ⟨(Nat.le_of_ble_eq_true rfl), (Nat.le_of_ble_eq_true rfl)⟩ hl.1 (Nat.le_of_ble_eq_true rfl) dX6_ending_16 (fun r7 w8 H locs hH hv9 => ?_)
  refine lv_astore (lv' := [(7, .ref r7), (6, .int r4), (5, .int r1), (0, .ref self), (1, .int a1), (2, .int a2), (3, .int a3), (4, .int a4)]) hx hb dX6_ending_19 hl (by decide) rfl (fun ls hl => ?_)
  refine lv_iload hx hb dX6_ending_21 (lv_at hl 7 rfl) ?_
  refine lv_aload hx hb dX6_ending_23 (lv_at hl 0 rfl) ?_
  refine gf_X6_46 hC hH hv9.1 dX6_ending_25 ?_
  refine cl_X6_61 hC hD hH hv9.2 ⟨Nat.le_of_ble_eq_true rfl, Nat.le_of_ble_eq_true rfl⟩ ⟨(Nat.le_of_ble_eq_true rfl), (Nat.le_of_ble_eq_true rfl)⟩ ⟨(Nat.le_of_ble_eq_true rfl), (Nat.le_of_ble_eq_true rfl)⟩ hl.1 (Nat.le_of_ble_eq_true rfl) dX6_ending_28 (fun w11 H locs hH hv12 => ?_)
  refine lv_aload_n hx hb dX6_ending_31 rfl (lv_at hl 3 rfl) ?_
  refine gf_X6_28 hC hH hv12.1 hv12.2.1 dX6_ending_32 ?_
  refine lv_aload hx hb dX6_ending_35 (lv_at hl 0 rfl) ?_
  refine lv_iload hx hb dX6_ending_37 (lv_at hl 1 rfl) ?_
  refine cl_X6_151 hC hD hH hv12.2.2.2 hv12.2.2.1 ⟨Nat.le_of_ble_eq_true rfl, Nat.le_of_ble_eq_true rfl⟩ ⟨(Nat.le_of_ble_eq_true rfl), (Nat.le_of_ble_eq_true rfl)⟩ ⟨(Nat.le_of_ble_eq_true rfl), (Nat.le_of_ble_eq_true rfl)⟩ hl.1 (Nat.le_of_ble_eq_true rfl) dX6_ending_39 (fun w14 H locs hH hv15 => ?_)
  refine lv_aload_n hx hb dX6_ending_42 rfl (lv_at hl 3 rfl) ?_
  refine gf_X6_28 hC hH hv15.1 hv15.2.1 dX6_ending_43 ?_
  refine cl_X6_155 hC hD hH hv15.2.2.2 hv15.2.2.1 ⟨Nat.le_of_ble_eq_true rfl, Nat.le_of_ble_eq_true rfl⟩ ⟨(Nat.le_of_ble_eq_true rfl), (Nat.le_of_ble_eq_true rfl)⟩ ⟨(Nat.le_of_ble_eq_true rfl), (Nat.le_of_ble_eq_true rfl)⟩ hl.1 (Nat.le_of_ble_eq_true rfl) dX6_ending_46 (fun w17 H locs hH hv18 => ?_)
  refine lv_aload_n hx hb dX6_ending_49 rfl (lv_at hl 3 rfl) ?_
  refine gf_X6_28 hC hH hv18.1 hv18.2.1 dX6_ending_50 ?_
  refine gf_X6_158 hC hH hv18.2.2.1 hv18.2.2.2.1 dX6_ending_53 ?_
  refine lv_iload hx hb dX6_ending_56 (lv_at hl 7 rfl) ?_
  refine sj_iald hC hH hv18.2.2.2.2.1 hv18.2.2.2.2.2.1 dX6_ending_58 ?_
  exact sj_retI hC hD.2 hH hr rfl hv18.2.2.2.2.2.2 ⟨(Nat.le_of_ble_eq_true rfl), (Nat.le_of_ble_eq_true rfl)⟩ dX6_ending_59
section SJL_X6_ending
variable {p : Program} {l : Launch} {e : Env} {R : Room} {s : State} {m : MethodId} {args : Array Value} {below : List Frame} {meth : Method} {c : Code} {H : Heap} {locs : List Loc} {cells slots : Nat} {Q : State → Prop} {cc : ByteArray} {pc : Nat} {ls : Array Slot} {rest : List Value} {G : sj_G} {nL : Nat} {w : sj_W}
theorem cx_L_87 {QX : String → sj_W → Prop} {b : Nat} {b0 : Int32} {b1 : Int32} {b2 : Int32} {b3 : Int32} {Qi : Int32 → sj_W → Prop} (hC : sj_C G p l s m args c cc RL nL) (hH : sj_H G s w H locs) (hv : vc_X6_ending b b0 b1 b2 b3 w Qi QX) (hT : sj_T w b = 5) (hR : rm_X6_ending.frames + 1 ≤ R.frames ∧ 8 + (8 + 11) + rm_X6_ending.locals ≤ R.locals) (hf : cells + 4 ≤ R.cells ∧ slots + 24 ≤ R.slots) (hls : ls.size = nL) (hW : (rest.map fun v => v.category).sum ≤ 8) (hdg : decode cc pc = .ok (.invokevirtual 87, 3)) (kx : ∀ (E : String) (ce : Cell) (q9 : Addr) (w1 : sj_W) (H1 : Heap) (locs1 : List Loc), sj_H G s w1 H1 locs1 → QX E w1 → H1[q9]? = some ce → ce.vm = .none → s.vm.findClass E = some ce.cls → vx_W p l e R s m args below meth c H1 locs1 (cells + 4) (slots + 24) Q (F0 m pc ls rest) q9) (kk : ∀ (r : Int32) (w1 : sj_W) (H : Heap) (locs : List Loc), sj_H G s w1 H locs → Qi r w1 → W p l e R s m args below meth c H locs (cells + 4) (slots + 24) Q (F0 m (pc + 3) ls (.int r :: rest))) : W p l e R s m args below meth c H locs cells slots Q (F0 m pc ls (.int b3 :: .int b2 :: .int b1 :: .int b0 :: .ref b :: rest)) :=
  sj_xI hH (sj_runV (n := 4) hC hH (As := [.int b0, .int b1, .int b2, .int b3]) (wk_X6_ending G l hC.2.2.2.2.2.2 b b0 b1 b2 b3 w Qi QX hv) (ci := 4) rfl (by decide) hT mb_477 mb_478 mb_479 mb_1 mb_480 (by decide +kernel) hR hf rfl hls hW hdg) kx kk
end SJL_X6_ending
abbrev rm_X0_split : Room := { frames := 2, cells := 0, slots := 0, locals := 55 }
def vb_X0_split_9 (f0 : Nat) (Q : sj_W → Prop) (E : sj_W → Prop) (K : Int32 → Int32 → sj_W → Prop) (v1 : Int32) (v2 : Int32) (w : sj_W) : Prop := sj_T w f0 = 1 ∧ (((sj_I w 6 f0) ≤ v2 → E w) ∧ (¬ (sj_I w 6 f0) ≤ v2 → ((v2 = 0 → sj_T w f0 = 1 ∧ sj_A w 3 f0 ≠ 0 ∧ sj_T w f0 = 1 ∧ sj_T w (sj_A w 3 f0) = 7 ∧ vp_in (sj_I w 4 f0) (sj_N w (sj_A w 3 f0)) ∧ ∀ w6 : sj_W, w6 = sj_si w (sj_A w 3 f0) (sj_I w 4 f0).toNatClampNeg v2 → sj_T w6 f0 = 1 ∧ sj_T w6 f0 = 1 ∧ ∀ w8 : sj_W, w8 = sj_sI w6 4 f0 ((sj_I w6 4 f0) + 1) → K v2 (v2 + 1) w8) ∧ (¬ v2 = 0 → sj_T w f0 = 1 ∧ sj_T w f0 = 1 ∧ sj_T w f0 = 1 ∧ vc_X0_compareParts f0 v2 (sj_I w 6 f0) v1 (sj_I w 6 f0) w (fun r11 w12 => ((0 ≤ r11 → K v1 (v2 + 1) w12) ∧ (¬ 0 ≤ r11 → sj_T w12 f0 = 1 ∧ sj_A w12 3 f0 ≠ 0 ∧ sj_T w12 f0 = 1 ∧ sj_T w12 (sj_A w12 3 f0) = 7 ∧ vp_in (sj_I w12 4 f0) (sj_N w12 (sj_A w12 3 f0)) ∧ ∀ w16 : sj_W, w16 = sj_si w12 (sj_A w12 3 f0) (sj_I w12 4 f0).toNatClampNeg v2 → sj_T w16 f0 = 1 ∧ sj_T w16 f0 = 1 ∧ ∀ w18 : sj_W, w18 = sj_sI w16 4 f0 ((sj_I w16 4 f0) + 1) → K v2 (v2 + 1) w18)))))))
def vc_X0_split (self : Nat) (w : sj_W) (Q : sj_W → Prop) : Prop := sj_T w self = 1 ∧ ∀ w1 : sj_W, w1 = sj_sI w 4 self 0 → sj_lp2 (vb_X0_split_9 self Q (fun w_9 => Q w_9)) 64 0 0 w1
set_option maxHeartbeats 4000000 in
set_option maxRecDepth 100000 in
theorem wl_X0_split_9 {p : Program} {l : Launch} {e : Env} {s : State} {m : MethodId} {args : Array Value} {below : List Frame} {meth : Method} {c : Code} {G : sj_G} {f0 : Nat} {Q : sj_W → Prop} {QX : String → sj_W → Prop} {E : sj_W → Prop} (hC : sj_C G p l s m args c cX0_split RX0 3) (hD : sj_D meth c) (hr : meth.sig.returnType = none) (hin : meth.name = "split") (hE : ∀ (w : sj_W) (H : Heap) (locs : List Loc) (ls : Array Slot), lv_has ls 3 [] → sj_H G s w H locs → E w → W p l e rm_X0_split s m args below meth c H locs 0 0 (sj_MQ G below (va_Qv Q (sj_B G) (sj_F G)) QX args s rm_X0_split) (F0 m 66 ls [])) : ∀ (n : Nat) (v1 : Int32) (v2 : Int32) (w : sj_W) (H : Heap) (locs : List Loc) (ls : Array Slot), lv_has ls 3 [(0, .ref f0), (1, .int v1), (2, .int v2)] → sj_H G s w H locs → sj_lp2 (vb_X0_split_9 f0 Q E) n v1 v2 w → W p l e rm_X0_split s m args below meth c H locs 0 0 (sj_MQ G below (va_Qv Q (sj_B G) (sj_F G)) QX args s rm_X0_split) (F0 m 9 ls []) := by
  have hx := hC.1
  have hb := hC.2.1
  intro n
  induction n with
  | zero =>
    intro v1 v2 w H locs ls _ _ hv
    exact hv.elim
  | succ n ih =>
    intro v1 v2 w H locs ls hl hH hv
    have hv : vb_X0_split_9 f0 Q E (sj_lp2 (vb_X0_split_9 f0 Q E) n) v1 v2 w := hv
    have hc1 : rm_X0_split.cells = 0 := rfl
    have hc2 : rm_X0_split.slots = 0 := rfl
    refine lv_iload_n hx hb dX0_split_9 rfl (lv_at hl 2 rfl) ?_
    refine lv_aload_n hx hb dX0_split_10 rfl (lv_at hl 0 rfl) ?_
    refine gf_X0_37 hC hH hv.1 dX0_split_11 ?_
    refine lv_icmp_ge (tgt := 66) hx hb dX0_split_14 (by decide) (fun hc => ?_) (fun hc => ?_)
    · have hv3 := hv.2.1 hc
      exact hE  w _ _ _ (lv_sub hl [] rfl) hH hv3
    · have hv4 := hv.2.2 hc
      refine lv_iload_n hx hb dX0_split_17 rfl (lv_at hl 2 rfl) ?_
      refine lv_if_eq (tgt := 38) hx hb dX0_split_18 (by decide) (fun hc => ?_) (fun hc => ?_)
      · have hv5 := hv4.1 hc
        refine lv_iload_n hx hb dX0_split_38 rfl (lv_at hl 2 rfl) ?_
        refine lv_istore_n (lv' := [(1, .int v2), (0, .ref f0), (2, .int v2)]) hx hb dX0_split_39 rfl hl (by decide) rfl (fun ls hl => ?_)
        refine lv_aload_n hx hb dX0_split_40 rfl (lv_at hl 1 rfl) ?_
        refine gf_X0_23 hC hH hv5.1 hv5.2.1 dX0_split_41 ?_
        refine lv_aload_n hx hb dX0_split_44 rfl (lv_at hl 1 rfl) ?_
        refine gf_X0_60 hC hH hv5.2.2.1 dX0_split_45 ?_
        refine lv_iload_n hx hb dX0_split_48 rfl (lv_at hl 2 rfl) ?_
        refine sj_iast hC hH hv5.2.2.2.1 hv5.2.2.2.2.1 dX0_split_49 (fun w6 H locs e7 hH => ?_)
        refine lv_aload_n hx hb dX0_split_50 rfl (lv_at hl 1 rfl) ?_
        refine lv_dup hx hb dX0_split_51 rfl ?_
        refine gf_X0_60 hC hH (hv5.2.2.2.2.2 w6 e7).1 dX0_split_52 ?_
        refine lv_iconst (v := 1) hx hb dX0_split_55 (by decide) ?_
        refine lv_iadd hx hb dX0_split_56 ?_
        refine pf_X0_60 hC hH (hv5.2.2.2.2.2 w6 e7).2.1 dX0_split_57 (fun w8 H locs e9 hH => ?_)
        refine lv_iinc (v := (v2 + 1)) (lv' := [(2, .int (v2 + 1)), (1, .int v2), (0, .ref f0)]) hx hb dX0_split_60 hl (k := 2) rfl rfl (by decide) rfl (fun ls hl => ?_)
        refine lv_goto (tgt := 9) hx hb dX0_split_63 (by decide) ?_
        exact ih v2 (v2 + 1) w8 _ _ _ (lv_sub hl [2, 1, 0] rfl) hH ((hv5.2.2.2.2.2 w6 e7).2.2 w8 e9)
      · have hv10 := hv4.2 hc
        refine lv_aload_n hx hb dX0_split_21 rfl (lv_at hl 0 rfl) ?_
        refine lv_iload_n hx hb dX0_split_22 rfl (lv_at hl 2 rfl) ?_
        refine lv_aload_n hx hb dX0_split_23 rfl (lv_at hl 0 rfl) ?_
        refine gf_X0_37 hC hH hv10.1 dX0_split_24 ?_
        refine lv_iload_n hx hb dX0_split_27 rfl (lv_at hl 1 rfl) ?_
        refine lv_aload_n hx hb dX0_split_28 rfl (lv_at hl 0 rfl) ?_
        refine gf_X0_37 hC hH hv10.2.1 dX0_split_29 ?_
        refine cl_X0_46 hC hD hH hv10.2.2.2 hv10.2.2.1 ⟨Nat.le_of_ble_eq_true rfl, Nat.le_of_ble_eq_true rfl⟩ ⟨(Nat.le_of_ble_eq_true rfl), (Nat.le_of_ble_eq_true rfl)⟩ ⟨(Nat.le_of_ble_eq_true rfl), (Nat.le_of_ble_eq_true rfl)⟩ hl.1 (Nat.le_of_ble_eq_true rfl) dX0_split_32 (fun r11 w12 H locs hH hv13 => ?_)
        refine lv_if_ge (tgt := 60) hx hb dX0_split_35 (by decide) (fun hc => ?_) (fun hc => ?_)
        · have hv14 := hv13.1 hc
          refine lv_iinc (v := (v2 + 1)) (lv' := [(2, .int (v2 + 1)), (0, .ref f0), (1, .int v1)]) hx hb dX0_split_60 hl (k := 2) rfl rfl (by decide) rfl (fun ls hl => ?_)
          refine lv_goto (tgt := 9) hx hb dX0_split_63 (by decide) ?_
          exact ih v1 (v2 + 1) w12 _ _ _ (lv_sub hl [1, 2, 0] rfl) hH hv14
        · have hv15 := hv13.2 hc
          refine lv_iload_n hx hb dX0_split_38 rfl (lv_at hl 2 rfl) ?_
          refine lv_istore_n (lv' := [(1, .int v2), (0, .ref f0), (2, .int v2)]) hx hb dX0_split_39 rfl hl (by decide) rfl (fun ls hl => ?_)
          refine lv_aload_n hx hb dX0_split_40 rfl (lv_at hl 1 rfl) ?_
          refine gf_X0_23 hC hH hv15.1 hv15.2.1 dX0_split_41 ?_
          refine lv_aload_n hx hb dX0_split_44 rfl (lv_at hl 1 rfl) ?_
          refine gf_X0_60 hC hH hv15.2.2.1 dX0_split_45 ?_
          refine lv_iload_n hx hb dX0_split_48 rfl (lv_at hl 2 rfl) ?_
          refine sj_iast hC hH hv15.2.2.2.1 hv15.2.2.2.2.1 dX0_split_49 (fun w16 H locs e17 hH => ?_)
          refine lv_aload_n hx hb dX0_split_50 rfl (lv_at hl 1 rfl) ?_
          refine lv_dup hx hb dX0_split_51 rfl ?_
          refine gf_X0_60 hC hH (hv15.2.2.2.2.2 w16 e17).1 dX0_split_52 ?_
          refine lv_iconst (v := 1) hx hb dX0_split_55 (by decide) ?_
          refine lv_iadd hx hb dX0_split_56 ?_
          refine pf_X0_60 hC hH (hv15.2.2.2.2.2 w16 e17).2.1 dX0_split_57 (fun w18 H locs e19 hH => ?_)
          refine lv_iinc (v := (v2 + 1)) (lv' := [(2, .int (v2 + 1)), (1, .int v2), (0, .ref f0)]) hx hb dX0_split_60 hl (k := 2) rfl rfl (by decide) rfl (fun ls hl => ?_)
          refine lv_goto (tgt := 9) hx hb dX0_split_63 (by decide) ?_
          exact ih v2 (v2 + 1) w18 _ _ _ (lv_sub hl [2, 1, 0] rfl) hH ((hv15.2.2.2.2.2 w16 e17).2.2 w18 e19)
set_option maxHeartbeats 4000000 in
set_option maxRecDepth 100000 in
theorem wk_X0_split (G : sj_G) (l : Launch) (hlt : l.stackTraces = false) (self : Nat) (w : sj_W) (Q : sj_W → Prop) (QX : String → sj_W → Prop) (hv : vc_X0_split self w Q) : sj_MV G l yX0_split (sj_ws yX0_split cX0_split 3 none) rm_X0_split [.ref self] w Q QX := by
  refine sj_of (by decide +kernel) (Nat.le_of_ble_eq_true rfl) hlt ?_
  intro p e s m args below meth c ls hC hD hr hin hH hl
  have hx := hC.1
  have hb := hC.2.1
  have hl : lv_has ls 3 [(0, .ref self)] := hl
  refine lv_aload_n hx hb dX0_split_0 rfl (lv_at hl 0 rfl) ?_
  refine lv_iconst (v := 0) hx hb dX0_split_1 (by decide) ?_
  refine pf_X0_60 hC hH hv.1 dX0_split_2 (fun w1 H locs e2 hH => ?_)
  refine lv_iconst (v := 0) hx hb dX0_split_5 (by decide) ?_
  refine lv_istore_n (lv' := [(1, .int 0), (0, .ref self)]) hx hb dX0_split_6 rfl hl (by decide) rfl (fun ls hl => ?_)
  refine lv_iconst (v := 0) hx hb dX0_split_7 (by decide) ?_
  refine lv_istore_n (lv' := [(2, .int 0), (1, .int 0), (0, .ref self)]) hx hb dX0_split_8 rfl hl (by decide) rfl (fun ls hl => ?_)
  refine wl_X0_split_9 hC hD hr hin (fun w_9 H locs ls hl hH hv20 => ?_) 64 0 0 w1 _ _ _ (lv_sub hl [2, 1, 0] rfl) hH (hv.2 w1 e2)
  exact sj_retV hC hD.2 hH hr hv20 ⟨(Nat.le_of_ble_eq_true rfl), (Nat.le_of_ble_eq_true rfl)⟩ dX0_split_66
section SJL_X0_split
variable {p : Program} {l : Launch} {e : Env} {R : Room} {s : State} {m : MethodId} {args : Array Value} {below : List Frame} {meth : Method} {c : Code} {H : Heap} {locs : List Loc} {cells slots : Nat} {Q : State → Prop} {cc : ByteArray} {pc : Nat} {ls : Array Slot} {rest : List Value} {G : sj_G} {nL : Nat} {w : sj_W}
theorem cl_X6_180 {rmM : Room} {QcM : Array Value → State → Outcome → State → Prop} {QX : String → sj_W → Prop} {b : Nat} {Qi : sj_W → Prop} (hC : sj_C G p l s m args c cc RX6 nL) (hD : sj_D meth c) (hH : sj_H G s w H locs) (hv : vc_X0_split b w Qi) (hT : sj_T w b = 1) (hR : rm_X0_split.frames + 1 ≤ R.frames ∧ 8 + (3 + 11) + rm_X0_split.locals ≤ R.locals) (hf : cells + 0 ≤ R.cells ∧ slots + 0 ≤ R.slots) (hfM : cells + 0 ≤ rmM.cells ∧ slots + 0 ≤ rmM.slots) (hls : ls.size = nL) (hW : (rest.map fun v => v.category).sum ≤ 8) (hdg : decode cc pc = .ok (.invokevirtual 180, 3)) (kk : ∀ (w1 : sj_W) (H : Heap) (locs : List Loc), sj_H G s w1 H locs → Qi w1 → W p l e R s m args below meth c H locs (cells + 0) (slots + 0) (sj_MQ G below QcM QX args s rmM) (F0 m (pc + 3) ls rest)) : W p l e R s m args below meth c H locs cells slots (sj_MQ G below QcM QX args s rmM) (F0 m pc ls (.ref b :: rest)) :=
  sj_cV hD hH (sj_runVN (n := 0) hC hH (As := []) (wk_X0_split G l hC.2.2.2.2.2.2 b w Qi QX hv) (ci := 0) rfl (by decide) hT mb_579 mb_581 mb_s18 mb_2 mb_582 (by decide +kernel) hR hf rfl hls hW hdg) hfM kk
end SJL_X0_split
abbrev rm_X6_factor : Room := { frames := 8, cells := 4, slots := 24, locals := 124 }
def vc_X6_factor (self : Nat) (a1 : Int32) (a2 : Int32) (a3 : Int32) (a4 : Int32) (w : sj_W) (Q : Int32 → sj_W → Prop) (QX : String → sj_W → Prop) : Prop := vc_X6_kindOf a1 w (fun r1 w2 => vc_X6_isUnsigned a2 w2 (fun r4 w5 => sj_T w5 self = 5 ∧ sj_A w5 35 self ≠ 0 ∧ sj_T w5 self = 5 ∧ vc_X6_rowOf self r1 a3 w5 (fun r7 w8 => sj_T w8 (sj_A w5 35 self) = 1 ∧ vc_X0_take (sj_A w5 35 self) r7 r4 w8 (fun w11 => sj_T w11 self = 5 ∧ sj_A w11 35 self ≠ 0 ∧ sj_T w11 (sj_A w11 35 self) = 1 ∧ vc_X0_split (sj_A w11 35 self) w11 (fun w14 => sj_T w14 self = 5 ∧ sj_A w14 35 self ≠ 0 ∧ sj_T w14 (sj_A w14 35 self) = 1 ∧ vc_X6_wantPlace a4 (sj_I w14 4 (sj_A w14 35 self)) w14 (fun w17 => sj_T w17 self = 5 ∧ sj_A w17 35 self ≠ 0 ∧ sj_T w17 (sj_A w17 35 self) = 1 ∧ sj_A w17 3 (sj_A w17 35 self) ≠ 0 ∧ sj_T w17 (sj_A w17 3 (sj_A w17 35 self)) = 7 ∧ vp_in a4 (sj_N w17 (sj_A w17 3 (sj_A w17 35 self))) ∧ Q (sj_i w17 (sj_A w17 3 (sj_A w17 35 self)) a4.toNatClampNeg) w17) QX))) QX) QX) QX
set_option maxHeartbeats 4000000 in
set_option maxRecDepth 100000 in
theorem wk_X6_factor (G : sj_G) (l : Launch) (hlt : l.stackTraces = false) (self : Nat) (a1 : Int32) (a2 : Int32) (a3 : Int32) (a4 : Int32) (w : sj_W) (Q : Int32 → sj_W → Prop) (QX : String → sj_W → Prop) (hv : vc_X6_factor self a1 a2 a3 a4 w Q QX) : sj_MI G l yX6_factor (sj_ws yX6_factor cX6_factor 7 (some .int)) rm_X6_factor [.ref self, .int a1, .int a2, .int a3, .int a4] w Q QX := by
  refine sj_of (by decide +kernel) (Nat.le_of_ble_eq_true rfl) hlt ?_
  intro p e s m args below meth c ls hC hD hr hin hH hl
  have hx := hC.1
  have hb := hC.2.1
  have hl : lv_has ls 7 [(0, .ref self), (1, .int a1), (2, .int a2), (3, .int a3), (4, .int a4)] := hl
  refine lv_iload_n hx hb dX6_factor_0 rfl (lv_at hl 1 rfl) ?_
  refine cl_X6_34 hC hD hH hv ⟨Nat.le_of_ble_eq_true rfl, Nat.le_of_ble_eq_true rfl⟩ ⟨(Nat.le_of_ble_eq_true rfl), (Nat.le_of_ble_eq_true rfl)⟩ ⟨(Nat.le_of_ble_eq_true rfl), (Nat.le_of_ble_eq_true rfl)⟩ hl.1 (Nat.le_of_ble_eq_true rfl) dX6_factor_1 (fun r1 w2 H locs hH hv3 => ?_)
  refine lv_istore (lv' := [(5, .int r1), (0, .ref self), (1, .int a1), (2, .int a2), (3, .int a3), (4, .int a4)]) hx hb dX6_factor_4 hl (by decide) rfl (fun ls hl => ?_)
  refine lv_iload_n hx hb dX6_factor_6 rfl (lv_at hl 3 rfl) ?_
  refine cl_X6_133 hC hD hH hv3 ⟨Nat.le_of_ble_eq_true rfl, Nat.le_of_ble_eq_true rfl⟩ ⟨(Nat.le_of_ble_eq_true rfl), (Nat.le_of_ble_eq_true rfl)⟩ ⟨(Nat.le_of_ble_eq_true rfl), (Nat.le_of_ble_eq_true rfl)⟩ hl.1 (Nat.le_of_ble_eq_true rfl) dX6_factor_7 (fun r4 w5 H locs hH hv6 => ?_)
  refine lv_istore (lv' := [(6, .int r4), (5, .int r1), (0, .ref self), (1, .int a1), (2, .int a2), (3, .int a3), (4, .int a4)]) hx hb dX6_factor_10 hl (by decide) rfl (fun ls hl => ?_)
  refine lv_aload_n hx hb dX6_factor_12 rfl (lv_at hl 2 rfl) ?_
  refine gf_X6_28 hC hH hv6.1 hv6.2.1 dX6_factor_13 ?_
  refine lv_aload_n hx hb dX6_factor_16 rfl (lv_at hl 2 rfl) ?_
  refine lv_iload hx hb dX6_factor_17 (lv_at hl 1 rfl) ?_
  refine lv_iload_n hx hb dX6_factor_19 rfl (lv_at hl 5 rfl) ?_
  refine cl_X6_42 hC hD hH hv6.2.2.2 hv6.2.2.1 ⟨Nat.le_of_ble_eq_true rfl, Nat.le_of_ble_eq_true rfl⟩ ⟨(Nat.le_of_ble_eq_true rfl), (Nat.le_of_ble_eq_true rfl)⟩ ⟨(Nat.le_of_ble_eq_true rfl), (Nat.le_of_ble_eq_true rfl)⟩ hl.1 (Nat.le_of_ble_eq_true rfl) dX6_factor_20 (fun r7 w8 H locs hH hv9 => ?_)
  refine lv_iload hx hb dX6_factor_23 (lv_at hl 0 rfl) ?_
  refine cl_X6_151 hC hD hH hv9.2 hv9.1 ⟨Nat.le_of_ble_eq_true rfl, Nat.le_of_ble_eq_true rfl⟩ ⟨(Nat.le_of_ble_eq_true rfl), (Nat.le_of_ble_eq_true rfl)⟩ ⟨(Nat.le_of_ble_eq_true rfl), (Nat.le_of_ble_eq_true rfl)⟩ hl.1 (Nat.le_of_ble_eq_true rfl) dX6_factor_25 (fun w11 H locs hH hv12 => ?_)
  refine lv_aload_n hx hb dX6_factor_28 rfl (lv_at hl 2 rfl) ?_
  refine gf_X6_28 hC hH hv12.1 hv12.2.1 dX6_factor_29 ?_
  refine cl_X6_180 hC hD hH hv12.2.2.2 hv12.2.2.1 ⟨Nat.le_of_ble_eq_true rfl, Nat.le_of_ble_eq_true rfl⟩ ⟨(Nat.le_of_ble_eq_true rfl), (Nat.le_of_ble_eq_true rfl)⟩ ⟨(Nat.le_of_ble_eq_true rfl), (Nat.le_of_ble_eq_true rfl)⟩ hl.1 (Nat.le_of_ble_eq_true rfl) dX6_factor_32 (fun w14 H locs hH hv15 => ?_)
  refine lv_iload hx hb dX6_factor_35 (lv_at hl 6 rfl) ?_
  refine lv_aload_n hx hb dX6_factor_37 rfl (lv_at hl 2 rfl) ?_
  refine gf_X6_28 hC hH hv15.1 hv15.2.1 dX6_factor_38 ?_
  refine gf_X6_183 hC hH hv15.2.2.1 dX6_factor_41 ?_
  refine cl_X6_61 hC hD hH hv15.2.2.2 ⟨Nat.le_of_ble_eq_true rfl, Nat.le_of_ble_eq_true rfl⟩ ⟨(Nat.le_of_ble_eq_true rfl), (Nat.le_of_ble_eq_true rfl)⟩ ⟨(Nat.le_of_ble_eq_true rfl), (Nat.le_of_ble_eq_true rfl)⟩ hl.1 (Nat.le_of_ble_eq_true rfl) dX6_factor_44 (fun w17 H locs hH hv18 => ?_)
  refine lv_aload_n hx hb dX6_factor_47 rfl (lv_at hl 2 rfl) ?_
  refine gf_X6_28 hC hH hv18.1 hv18.2.1 dX6_factor_48 ?_
  refine gf_X6_186 hC hH hv18.2.2.1 hv18.2.2.2.1 dX6_factor_51 ?_
  refine lv_iload hx hb dX6_factor_54 (lv_at hl 6 rfl) ?_
  refine sj_iald hC hH hv18.2.2.2.2.1 hv18.2.2.2.2.2.1 dX6_factor_56 ?_
  exact sj_retI hC hD.2 hH hr rfl hv18.2.2.2.2.2.2 ⟨(Nat.le_of_ble_eq_true rfl), (Nat.le_of_ble_eq_true rfl)⟩ dX6_factor_57
section SJL_X6_factor
variable {p : Program} {l : Launch} {e : Env} {R : Room} {s : State} {m : MethodId} {args : Array Value} {below : List Frame} {meth : Method} {c : Code} {H : Heap} {locs : List Loc} {cells slots : Nat} {Q : State → Prop} {cc : ByteArray} {pc : Nat} {ls : Array Slot} {rest : List Value} {G : sj_G} {nL : Nat} {w : sj_W}
theorem cx_L_115 {QX : String → sj_W → Prop} {b : Nat} {b0 : Int32} {b1 : Int32} {b2 : Int32} {b3 : Int32} {Qi : Int32 → sj_W → Prop} (hC : sj_C G p l s m args c cc RL nL) (hH : sj_H G s w H locs) (hv : vc_X6_factor b b0 b1 b2 b3 w Qi QX) (hT : sj_T w b = 5) (hR : rm_X6_factor.frames + 1 ≤ R.frames ∧ 8 + (7 + 11) + rm_X6_factor.locals ≤ R.locals) (hf : cells + 4 ≤ R.cells ∧ slots + 24 ≤ R.slots) (hls : ls.size = nL) (hW : (rest.map fun v => v.category).sum ≤ 8) (hdg : decode cc pc = .ok (.invokevirtual 115, 3)) (kx : ∀ (E : String) (ce : Cell) (q9 : Addr) (w1 : sj_W) (H1 : Heap) (locs1 : List Loc), sj_H G s w1 H1 locs1 → QX E w1 → H1[q9]? = some ce → ce.vm = .none → s.vm.findClass E = some ce.cls → vx_W p l e R s m args below meth c H1 locs1 (cells + 4) (slots + 24) Q (F0 m pc ls rest) q9) (kk : ∀ (r : Int32) (w1 : sj_W) (H : Heap) (locs : List Loc), sj_H G s w1 H locs → Qi r w1 → W p l e R s m args below meth c H locs (cells + 4) (slots + 24) Q (F0 m (pc + 3) ls (.int r :: rest))) : W p l e R s m args below meth c H locs cells slots Q (F0 m pc ls (.int b3 :: .int b2 :: .int b1 :: .int b0 :: .ref b :: rest)) :=
  sj_xI hH (sj_runV (n := 4) hC hH (As := [.int b0, .int b1, .int b2, .int b3]) (wk_X6_factor G l hC.2.2.2.2.2.2 b b0 b1 b2 b3 w Qi QX hv) (ci := 4) rfl (by decide) hT mb_586 mb_587 mb_588 mb_1 mb_589 (by decide +kernel) hR hf rfl hls hW hdg) kx kk
end SJL_X6_factor
abbrev rm_X6_factors : Room := { frames := 8, cells := 3, slots := 18, locals := 124 }
def vc_X6_factors (self : Nat) (a1 : Int32) (a2 : Int32) (a3 : Int32) (w : sj_W) (Q : Int32 → sj_W → Prop) (QX : String → sj_W → Prop) : Prop := vc_X6_kindOf a1 w (fun r1 w2 => vc_X6_isUnsigned a2 w2 (fun r4 w5 => sj_T w5 self = 5 ∧ sj_A w5 35 self ≠ 0 ∧ sj_T w5 self = 5 ∧ vc_X6_rowOf self r1 a3 w5 (fun r7 w8 => sj_T w8 (sj_A w5 35 self) = 1 ∧ vc_X0_take (sj_A w5 35 self) r7 r4 w8 (fun w11 => sj_T w11 self = 5 ∧ sj_A w11 35 self ≠ 0 ∧ sj_T w11 (sj_A w11 35 self) = 1 ∧ vc_X0_split (sj_A w11 35 self) w11 (fun w14 => sj_T w14 self = 5 ∧ sj_A w14 35 self ≠ 0 ∧ sj_T w14 (sj_A w14 35 self) = 1 ∧ Q (sj_I w14 4 (sj_A w14 35 self)) w14))) QX) QX) QX
set_option maxHeartbeats 4000000 in
set_option maxRecDepth 100000 in
theorem wk_X6_factors (G : sj_G) (l : Launch) (hlt : l.stackTraces = false) (self : Nat) (a1 : Int32) (a2 : Int32) (a3 : Int32) (w : sj_W) (Q : Int32 → sj_W → Prop) (QX : String → sj_W → Prop) (hv : vc_X6_factors self a1 a2 a3 w Q QX) : sj_MI G l yX6_factors (sj_ws yX6_factors cX6_factors 6 (some .int)) rm_X6_factors [.ref self, .int a1, .int a2, .int a3] w Q QX := by
  refine sj_of (by decide +kernel) (Nat.le_of_ble_eq_true rfl) hlt ?_
  intro p e s m args below meth c ls hC hD hr hin hH hl
  have hx := hC.1
  have hb := hC.2.1
  have hl : lv_has ls 6 [(0, .ref self), (1, .int a1), (2, .int a2), (3, .int a3)] := hl
  refine lv_iload_n hx hb dX6_factors_0 rfl (lv_at hl 1 rfl) ?_
  refine cl_X6_34 hC hD hH hv ⟨Nat.le_of_ble_eq_true rfl, Nat.le_of_ble_eq_true rfl⟩ ⟨(Nat.le_of_ble_eq_true rfl), (Nat.le_of_ble_eq_true rfl)⟩ ⟨(Nat.le_of_ble_eq_true rfl), (Nat.le_of_ble_eq_true rfl)⟩ hl.1 (Nat.le_of_ble_eq_true rfl) dX6_factors_1 (fun r1 w2 H locs hH hv3 => ?_)
  refine lv_istore (lv' := [(4, .int r1), (0, .ref self), (1, .int a1), (2, .int a2), (3, .int a3)]) hx hb dX6_factors_4 hl (by decide) rfl (fun ls hl => ?_)
  refine lv_iload_n hx hb dX6_factors_6 rfl (lv_at hl 3 rfl) ?_
  refine cl_X6_133 hC hD hH hv3 ⟨Nat.le_of_ble_eq_true rfl, Nat.le_of_ble_eq_true rfl⟩ ⟨(Nat.le_of_ble_eq_true rfl), (Nat.le_of_ble_eq_true rfl)⟩ ⟨(Nat.le_of_ble_eq_true rfl), (Nat.le_of_ble_eq_true rfl)⟩ hl.1 (Nat.le_of_ble_eq_true rfl) dX6_factors_7 (fun r4 w5 H locs hH hv6 => ?_)
  refine lv_istore (lv' := [(5, .int r4), (4, .int r1), (0, .ref self), (1, .int a1), (2, .int a2), (3, .int a3)]) hx hb dX6_factors_10 hl (by decide) rfl (fun ls hl => ?_)
  refine lv_aload_n hx hb dX6_factors_12 rfl (lv_at hl 2 rfl) ?_
  refine gf_X6_28 hC hH hv6.1 hv6.2.1 dX6_factors_13 ?_
  refine lv_aload_n hx hb dX6_factors_16 rfl (lv_at hl 2 rfl) ?_
  refine lv_iload hx hb dX6_factors_17 (lv_at hl 1 rfl) ?_
  refine lv_iload_n hx hb dX6_factors_19 rfl (lv_at hl 5 rfl) ?_
  refine cl_X6_42 hC hD hH hv6.2.2.2 hv6.2.2.1 ⟨Nat.le_of_ble_eq_true rfl, Nat.le_of_ble_eq_true rfl⟩ ⟨(Nat.le_of_ble_eq_true rfl), (Nat.le_of_ble_eq_true rfl)⟩ ⟨(Nat.le_of_ble_eq_true rfl), (Nat.le_of_ble_eq_true rfl)⟩ hl.1 (Nat.le_of_ble_eq_true rfl) dX6_factors_20 (fun r7 w8 H locs hH hv9 => ?_)
  refine lv_iload hx hb dX6_factors_23 (lv_at hl 0 rfl) ?_
  refine cl_X6_151 hC hD hH hv9.2 hv9.1 ⟨Nat.le_of_ble_eq_true rfl, Nat.le_of_ble_eq_true rfl⟩ ⟨(Nat.le_of_ble_eq_true rfl), (Nat.le_of_ble_eq_true rfl)⟩ ⟨(Nat.le_of_ble_eq_true rfl), (Nat.le_of_ble_eq_true rfl)⟩ hl.1 (Nat.le_of_ble_eq_true rfl) dX6_factors_25 (fun w11 H locs hH hv12 => ?_)
  refine lv_aload_n hx hb dX6_factors_28 rfl (lv_at hl 2 rfl) ?_
  refine gf_X6_28 hC hH hv12.1 hv12.2.1 dX6_factors_29 ?_
  refine cl_X6_180 hC hD hH hv12.2.2.2 hv12.2.2.1 ⟨Nat.le_of_ble_eq_true rfl, Nat.le_of_ble_eq_true rfl⟩ ⟨(Nat.le_of_ble_eq_true rfl), (Nat.le_of_ble_eq_true rfl)⟩ ⟨(Nat.le_of_ble_eq_true rfl), (Nat.le_of_ble_eq_true rfl)⟩ hl.1 (Nat.le_of_ble_eq_true rfl) dX6_factors_32 (fun w14 H locs hH hv15 => ?_)
  refine lv_aload_n hx hb dX6_factors_35 rfl (lv_at hl 2 rfl) ?_
  refine gf_X6_28 hC hH hv15.1 hv15.2.1 dX6_factors_36 ?_
  refine gf_X6_183 hC hH hv15.2.2.1 dX6_factors_39 ?_
  exact sj_retI hC hD.2 hH hr rfl hv15.2.2.2 ⟨(Nat.le_of_ble_eq_true rfl), (Nat.le_of_ble_eq_true rfl)⟩ dX6_factors_42
section SJL_X6_factors
variable {p : Program} {l : Launch} {e : Env} {R : Room} {s : State} {m : MethodId} {args : Array Value} {below : List Frame} {meth : Method} {c : Code} {H : Heap} {locs : List Loc} {cells slots : Nat} {Q : State → Prop} {cc : ByteArray} {pc : Nat} {ls : Array Slot} {rest : List Value} {G : sj_G} {nL : Nat} {w : sj_W}
theorem cx_L_112 {QX : String → sj_W → Prop} {b : Nat} {b0 : Int32} {b1 : Int32} {b2 : Int32} {Qi : Int32 → sj_W → Prop} (hC : sj_C G p l s m args c cc RL nL) (hH : sj_H G s w H locs) (hv : vc_X6_factors b b0 b1 b2 w Qi QX) (hT : sj_T w b = 5) (hR : rm_X6_factors.frames + 1 ≤ R.frames ∧ 8 + (6 + 11) + rm_X6_factors.locals ≤ R.locals) (hf : cells + 3 ≤ R.cells ∧ slots + 18 ≤ R.slots) (hls : ls.size = nL) (hW : (rest.map fun v => v.category).sum ≤ 8) (hdg : decode cc pc = .ok (.invokevirtual 112, 3)) (kx : ∀ (E : String) (ce : Cell) (q9 : Addr) (w1 : sj_W) (H1 : Heap) (locs1 : List Loc), sj_H G s w1 H1 locs1 → QX E w1 → H1[q9]? = some ce → ce.vm = .none → s.vm.findClass E = some ce.cls → vx_W p l e R s m args below meth c H1 locs1 (cells + 3) (slots + 18) Q (F0 m pc ls rest) q9) (kk : ∀ (r : Int32) (w1 : sj_W) (H : Heap) (locs : List Loc), sj_H G s w1 H locs → Qi r w1 → W p l e R s m args below meth c H locs (cells + 3) (slots + 18) Q (F0 m (pc + 3) ls (.int r :: rest))) : W p l e R s m args below meth c H locs cells slots Q (F0 m pc ls (.int b2 :: .int b1 :: .int b0 :: .ref b :: rest)) :=
  sj_xI hH (sj_runV (n := 3) hC hH (As := [.int b0, .int b1, .int b2]) (wk_X6_factors G l hC.2.2.2.2.2.2 b b0 b1 b2 w Qi QX hv) (ci := 4) rfl (by decide) hT mb_575 mb_576 mb_577 mb_1 mb_578 (by decide +kernel) hR hf rfl hls hW hdg) kx kk
end SJL_X6_factors
abbrev rm_X6_fits : Room := { frames := 7, cells := 2, slots := 12, locals := 103 }
def vc_X6_fits (self : Nat) (a1 : Int32) (a2 : Int32) (w : sj_W) (Q : Int32 → sj_W → Prop) (QX : String → sj_W → Prop) : Prop := vc_X6_kindOf a1 w (fun r1 w2 => sj_T w2 self = 5 ∧ vc_X6_spanOf self a2 w2 (fun r4 w5 => sj_T w5 self = 5 ∧ vc_X6_isFitting self r1 r4 w5 (fun r7 w8 => (r7 = 0 ∨ r7 = 1) ∧ Q r7 w8)) QX) QX
set_option maxHeartbeats 4000000 in
set_option maxRecDepth 100000 in
theorem wk_X6_fits (G : sj_G) (l : Launch) (hlt : l.stackTraces = false) (self : Nat) (a1 : Int32) (a2 : Int32) (w : sj_W) (Q : Int32 → sj_W → Prop) (QX : String → sj_W → Prop) (hv : vc_X6_fits self a1 a2 w Q QX) : sj_MI G l yX6_fits (sj_ws yX6_fits cX6_fits 4 (some .boolean)) rm_X6_fits [.ref self, .int a1, .int a2] w Q QX := by
  refine sj_of (by decide +kernel) (Nat.le_of_ble_eq_true rfl) hlt ?_
  intro p e s m args below meth c ls hC hD hr hin hH hl
  have hx := hC.1
  have hb := hC.2.1
  have hl : lv_has ls 4 [(0, .ref self), (1, .int a1), (2, .int a2)] := hl
  refine lv_iload_n hx hb dX6_fits_0 rfl (lv_at hl 1 rfl) ?_
  refine cl_X6_34 hC hD hH hv ⟨Nat.le_of_ble_eq_true rfl, Nat.le_of_ble_eq_true rfl⟩ ⟨(Nat.le_of_ble_eq_true rfl), (Nat.le_of_ble_eq_true rfl)⟩ ⟨(Nat.le_of_ble_eq_true rfl), (Nat.le_of_ble_eq_true rfl)⟩ hl.1 (Nat.le_of_ble_eq_true rfl) dX6_fits_1 (fun r1 w2 H locs hH hv3 => ?_)
  refine lv_istore_n (lv' := [(3, .int r1), (0, .ref self), (1, .int a1), (2, .int a2)]) hx hb dX6_fits_4 rfl hl (by decide) rfl (fun ls hl => ?_)
  refine lv_aload_n hx hb dX6_fits_5 rfl (lv_at hl 1 rfl) ?_
  refine lv_iload_n hx hb dX6_fits_6 rfl (lv_at hl 0 rfl) ?_
  refine lv_aload_n hx hb dX6_fits_7 rfl (lv_at hl 1 rfl) ?_
  refine lv_iload_n hx hb dX6_fits_8 rfl (lv_at hl 3 rfl) ?_
  refine cl_X6_89 hC hD hH hv3.2 hv3.1 ⟨Nat.le_of_ble_eq_true rfl, Nat.le_of_ble_eq_true rfl⟩ ⟨(Nat.le_of_ble_eq_true rfl), (Nat.le_of_ble_eq_true rfl)⟩ ⟨(Nat.le_of_ble_eq_true rfl), (Nat.le_of_ble_eq_true rfl)⟩ hl.1 (Nat.le_of_ble_eq_true rfl) dX6_fits_9 (fun r4 w5 H locs hH hv6 => ?_)
  refine cl_X6_108 hC hD hH hv6.2 hv6.1 ⟨Nat.le_of_ble_eq_true rfl, Nat.le_of_ble_eq_true rfl⟩ ⟨(Nat.le_of_ble_eq_true rfl), (Nat.le_of_ble_eq_true rfl)⟩ ⟨(Nat.le_of_ble_eq_true rfl), (Nat.le_of_ble_eq_true rfl)⟩ hl.1 (Nat.le_of_ble_eq_true rfl) dX6_fits_12 (fun r7 w8 H locs hH hv9 => ?_)
  exact sj_retI hC hD.2 hH hr (sj_nz hv9.1).1 hv9.2 ⟨(Nat.le_of_ble_eq_true rfl), (Nat.le_of_ble_eq_true rfl)⟩ dX6_fits_15
section SJL_X6_fits
variable {p : Program} {l : Launch} {e : Env} {R : Room} {s : State} {m : MethodId} {args : Array Value} {below : List Frame} {meth : Method} {c : Code} {H : Heap} {locs : List Loc} {cells slots : Nat} {Q : State → Prop} {cc : ByteArray} {pc : Nat} {ls : Array Slot} {rest : List Value} {G : sj_G} {nL : Nat} {w : sj_W}
theorem cx_L_57 {QX : String → sj_W → Prop} {b : Nat} {b0 : Int32} {b1 : Int32} {Qi : Int32 → sj_W → Prop} (hC : sj_C G p l s m args c cc RL nL) (hH : sj_H G s w H locs) (hv : vc_X6_fits b b0 b1 w Qi QX) (hT : sj_T w b = 5) (hR : rm_X6_fits.frames + 1 ≤ R.frames ∧ 8 + (4 + 11) + rm_X6_fits.locals ≤ R.locals) (hf : cells + 2 ≤ R.cells ∧ slots + 12 ≤ R.slots) (hls : ls.size = nL) (hW : (rest.map fun v => v.category).sum ≤ 8) (hdg : decode cc pc = .ok (.invokevirtual 57, 3)) (kx : ∀ (E : String) (ce : Cell) (q9 : Addr) (w1 : sj_W) (H1 : Heap) (locs1 : List Loc), sj_H G s w1 H1 locs1 → QX E w1 → H1[q9]? = some ce → ce.vm = .none → s.vm.findClass E = some ce.cls → vx_W p l e R s m args below meth c H1 locs1 (cells + 2) (slots + 12) Q (F0 m pc ls rest) q9) (kk : ∀ (r : Int32) (w1 : sj_W) (H : Heap) (locs : List Loc), sj_H G s w1 H locs → Qi r w1 → W p l e R s m args below meth c H locs (cells + 2) (slots + 12) Q (F0 m (pc + 3) ls (.int r :: rest))) : W p l e R s m args below meth c H locs cells slots Q (F0 m pc ls (.int b1 :: .int b0 :: .ref b :: rest)) :=
  sj_xI hH (sj_runV (n := 2) hC hH (As := [.int b0, .int b1]) (wk_X6_fits G l hC.2.2.2.2.2.2 b b0 b1 w Qi QX hv) (ci := 4) rfl (by decide) hT mb_350 mb_351 mb_352 mb_1 mb_353 (by decide +kernel) hR hf rfl hls hW hdg) kx kk
end SJL_X6_fits
abbrev rm_X1_hasPeriod : Room := { frames := 0, cells := 0, slots := 0, locals := 0 }
def vb_X1_hasPeriod_2 (f0 : Nat) (f1 : Int32) (Q : Int32 → sj_W → Prop) (E : sj_W → Prop) (K : Int32 → sj_W → Prop) (v2 : Int32) (w : sj_W) : Prop := sj_T w f0 = 2 ∧ (((sj_I w 9 f0) ≤ v2 → E w) ∧ (¬ (sj_I w 9 f0) ≤ v2 → sj_T w f0 = 2 ∧ sj_A w 8 f0 ≠ 0 ∧ sj_T w (sj_A w 8 f0) = 8 ∧ vp_in v2 (sj_N w (sj_A w 8 f0)) ∧ sj_T w f0 = 2 ∧ sj_A w 8 f0 ≠ 0 ∧ sj_T w (sj_A w 8 f0) = 8 ∧ vp_in (v2 - f1) (sj_N w (sj_A w 8 f0)) ∧ (((lg_cmp (sj_l w (sj_A w 8 f0) v2.toNatClampNeg) (sj_l w (sj_A w 8 f0) (v2 - f1).toNatClampNeg)) = 0 → K (v2 + 1) w) ∧ (¬ (lg_cmp (sj_l w (sj_A w 8 f0) v2.toNatClampNeg) (sj_l w (sj_A w 8 f0) (v2 - f1).toNatClampNeg)) = 0 → Q 0 w))))
def vc_X1_hasPeriod (self : Nat) (a1 : Int32) (w : sj_W) (Q : Int32 → sj_W → Prop) : Prop := sj_lp1 (vb_X1_hasPeriod_2 self a1 Q (fun w_2 => Q 1 w_2)) 64 a1 w
set_option maxHeartbeats 4000000 in
set_option maxRecDepth 100000 in
theorem wl_X1_hasPeriod_2 {p : Program} {l : Launch} {e : Env} {s : State} {m : MethodId} {args : Array Value} {below : List Frame} {meth : Method} {c : Code} {G : sj_G} {f0 : Nat} {f1 : Int32} {Q : Int32 → sj_W → Prop} {QX : String → sj_W → Prop} {E : sj_W → Prop} (hC : sj_C G p l s m args c cX1_hasPeriod RX1 3) (hD : sj_D meth c) (hr : meth.sig.returnType = (some .boolean)) (hin : meth.name = "hasPeriod") (hE : ∀ (w : sj_W) (H : Heap) (locs : List Loc) (ls : Array Slot), lv_has ls 3 [] → sj_H G s w H locs → E w → W p l e rm_X1_hasPeriod s m args below meth c H locs 0 0 (sj_MQ G below (va_Qi Q (sj_B G) (sj_F G)) QX args s rm_X1_hasPeriod) (F0 m 36 ls [])) : ∀ (n : Nat) (v2 : Int32) (w : sj_W) (H : Heap) (locs : List Loc) (ls : Array Slot), lv_has ls 3 [(0, .ref f0), (1, .int f1), (2, .int v2)] → sj_H G s w H locs → sj_lp1 (vb_X1_hasPeriod_2 f0 f1 Q E) n v2 w → W p l e rm_X1_hasPeriod s m args below meth c H locs 0 0 (sj_MQ G below (va_Qi Q (sj_B G) (sj_F G)) QX args s rm_X1_hasPeriod) (F0 m 2 ls []) := by
  have hx := hC.1
  have hb := hC.2.1
  intro n
  induction n with
  | zero =>
    intro v2 w H locs ls _ _ hv
    exact hv.elim
  | succ n ih =>
    intro v2 w H locs ls hl hH hv
    have hv : vb_X1_hasPeriod_2 f0 f1 Q E (sj_lp1 (vb_X1_hasPeriod_2 f0 f1 Q E) n) v2 w := hv
    have hc1 : rm_X1_hasPeriod.cells = 0 := rfl
    have hc2 : rm_X1_hasPeriod.slots = 0 := rfl
    refine lv_iload_n hx hb dX1_hasPeriod_2 rfl (lv_at hl 2 rfl) ?_
    refine lv_aload_n hx hb dX1_hasPeriod_3 rfl (lv_at hl 0 rfl) ?_
    refine gf_X1_15 hC hH hv.1 dX1_hasPeriod_4 ?_
    refine lv_icmp_ge (tgt := 36) hx hb dX1_hasPeriod_7 (by decide) (fun hc => ?_) (fun hc => ?_)
    · have hv1 := hv.2.1 hc
      exact hE  w _ _ _ (lv_sub hl [] rfl) hH hv1
    · have hv2 := hv.2.2 hc
      refine lv_aload_n hx hb dX1_hasPeriod_10 rfl (lv_at hl 0 rfl) ?_
      refine gf_X1_9 hC hH hv2.1 hv2.2.1 dX1_hasPeriod_11 ?_
      refine lv_iload_n hx hb dX1_hasPeriod_14 rfl (lv_at hl 2 rfl) ?_
      refine sj_lald hC hH hv2.2.2.1 hv2.2.2.2.1 dX1_hasPeriod_15 ?_
      refine lv_aload_n hx hb dX1_hasPeriod_16 rfl (lv_at hl 0 rfl) ?_
      refine gf_X1_9 hC hH hv2.2.2.2.2.1 hv2.2.2.2.2.2.1 dX1_hasPeriod_17 ?_
      refine lv_iload_n hx hb dX1_hasPeriod_20 rfl (lv_at hl 2 rfl) ?_
      refine lv_iload_n hx hb dX1_hasPeriod_21 rfl (lv_at hl 1 rfl) ?_
      refine lv_isub hx hb dX1_hasPeriod_22 ?_
      refine sj_lald hC hH hv2.2.2.2.2.2.2.1 hv2.2.2.2.2.2.2.2.1 dX1_hasPeriod_23 ?_
      refine W.lcmp hx hb dX1_hasPeriod_24 ?_
      refine lv_if_eq (tgt := 30) hx hb dX1_hasPeriod_25 (by decide) (fun hc => ?_) (fun hc => ?_)
      · have hv3 := hv2.2.2.2.2.2.2.2.2.1 hc
        refine lv_iinc (v := (v2 + 1)) (lv' := [(2, .int (v2 + 1)), (0, .ref f0), (1, .int f1)]) hx hb dX1_hasPeriod_30 hl (k := 2) rfl rfl (by decide) rfl (fun ls hl => ?_)
        refine lv_goto (tgt := 2) hx hb dX1_hasPeriod_33 (by decide) ?_
        exact ih (v2 + 1) w _ _ _ (lv_sub hl [1, 2, 0] rfl) hH hv3
      · have hv4 := hv2.2.2.2.2.2.2.2.2.2 hc
        refine lv_iconst (v := 0) hx hb dX1_hasPeriod_28 (by decide) ?_
        exact sj_retI hC hD.2 hH hr rfl hv4 ⟨(Nat.le_of_ble_eq_true rfl), (Nat.le_of_ble_eq_true rfl)⟩ dX1_hasPeriod_29
set_option maxHeartbeats 4000000 in
set_option maxRecDepth 100000 in
theorem wk_X1_hasPeriod (G : sj_G) (l : Launch) (hlt : l.stackTraces = false) (self : Nat) (a1 : Int32) (w : sj_W) (Q : Int32 → sj_W → Prop) (QX : String → sj_W → Prop) (hv : vc_X1_hasPeriod self a1 w Q) : sj_MI G l yX1_hasPeriod (sj_ws yX1_hasPeriod cX1_hasPeriod 3 (some .boolean)) rm_X1_hasPeriod [.ref self, .int a1] w Q QX := by
  refine sj_of (by decide +kernel) (Nat.le_of_ble_eq_true rfl) hlt ?_
  intro p e s m args below meth c ls hC hD hr hin hH hl
  have hx := hC.1
  have hb := hC.2.1
  have hl : lv_has ls 3 [(0, .ref self), (1, .int a1)] := hl
  refine lv_iload_n hx hb dX1_hasPeriod_0 rfl (lv_at hl 1 rfl) ?_
  refine lv_istore_n (lv' := [(2, .int a1), (0, .ref self), (1, .int a1)]) hx hb dX1_hasPeriod_1 rfl hl (by decide) rfl (fun ls hl => ?_)
  refine wl_X1_hasPeriod_2 hC hD hr hin (fun w_2 H locs ls hl hH hv5 => ?_) 64 a1 w _ _ _ (lv_sub hl [1, 2, 0] rfl) hH hv
  refine lv_iconst (v := 1) hx hb dX1_hasPeriod_36 (by decide) ?_
  exact sj_retI hC hD.2 hH hr rfl hv5 ⟨(Nat.le_of_ble_eq_true rfl), (Nat.le_of_ble_eq_true rfl)⟩ dX1_hasPeriod_37
section SJL_X1_hasPeriod
variable {p : Program} {l : Launch} {e : Env} {R : Room} {s : State} {m : MethodId} {args : Array Value} {below : List Frame} {meth : Method} {c : Code} {H : Heap} {locs : List Loc} {cells slots : Nat} {Q : State → Prop} {cc : ByteArray} {pc : Nat} {ls : Array Slot} {rest : List Value} {G : sj_G} {nL : Nat} {w : sj_W}
theorem cl_X6_172 {rmM : Room} {QcM : Array Value → State → Outcome → State → Prop} {QX : String → sj_W → Prop} {b : Nat} {b0 : Int32} {Qi : Int32 → sj_W → Prop} (hC : sj_C G p l s m args c cc RX6 nL) (hD : sj_D meth c) (hH : sj_H G s w H locs) (hv : vc_X1_hasPeriod b b0 w Qi) (hT : sj_T w b = 2) (hR : rm_X1_hasPeriod.frames + 1 ≤ R.frames ∧ 8 + (3 + 11) + rm_X1_hasPeriod.locals ≤ R.locals) (hf : cells + 0 ≤ R.cells ∧ slots + 0 ≤ R.slots) (hfM : cells + 0 ≤ rmM.cells ∧ slots + 0 ≤ rmM.slots) (hls : ls.size = nL) (hW : (rest.map fun v => v.category).sum ≤ 8) (hdg : decode cc pc = .ok (.invokevirtual 172, 3)) (kk : ∀ (r : Int32) (w1 : sj_W) (H : Heap) (locs : List Loc), sj_H G s w1 H locs → Qi r w1 → W p l e R s m args below meth c H locs (cells + 0) (slots + 0) (sj_MQ G below QcM QX args s rmM) (F0 m (pc + 3) ls (.int r :: rest))) : W p l e R s m args below meth c H locs cells slots (sj_MQ G below QcM QX args s rmM) (F0 m pc ls (.int b0 :: .ref b :: rest)) :=
  sj_cI hD hH (sj_runVN (n := 1) hC hH (As := [.int b0]) (wk_X1_hasPeriod G l hC.2.2.2.2.2.2 b b0 w Qi QX hv) (ci := 1) rfl (by decide) hT mb_538 mb_540 mb_s15 mb_3 mb_541 (by decide +kernel) hR hf rfl hls hW hdg) hfM kk
theorem cl_X2_32 {rmM : Room} {QcM : Array Value → State → Outcome → State → Prop} {QX : String → sj_W → Prop} {b : Nat} {b0 : Int32} {Qi : Int32 → sj_W → Prop} (hC : sj_C G p l s m args c cc RX2 nL) (hD : sj_D meth c) (hH : sj_H G s w H locs) (hv : vc_X1_hasPeriod b b0 w Qi) (hT : sj_T w b = 2) (hR : rm_X1_hasPeriod.frames + 1 ≤ R.frames ∧ 8 + (3 + 11) + rm_X1_hasPeriod.locals ≤ R.locals) (hf : cells + 0 ≤ R.cells ∧ slots + 0 ≤ R.slots) (hfM : cells + 0 ≤ rmM.cells ∧ slots + 0 ≤ rmM.slots) (hls : ls.size = nL) (hW : (rest.map fun v => v.category).sum ≤ 8) (hdg : decode cc pc = .ok (.invokevirtual 32, 3)) (kk : ∀ (r : Int32) (w1 : sj_W) (H : Heap) (locs : List Loc), sj_H G s w1 H locs → Qi r w1 → W p l e R s m args below meth c H locs (cells + 0) (slots + 0) (sj_MQ G below QcM QX args s rmM) (F0 m (pc + 3) ls (.int r :: rest))) : W p l e R s m args below meth c H locs cells slots (sj_MQ G below QcM QX args s rmM) (F0 m pc ls (.int b0 :: .ref b :: rest)) :=
  sj_cI hD hH (sj_runVN (n := 1) hC hH (As := [.int b0]) (wk_X1_hasPeriod G l hC.2.2.2.2.2.2 b b0 w Qi QX hv) (ci := 1) rfl (by decide) hT mb_676 mb_540 mb_s15 mb_3 mb_541 (by decide +kernel) hR hf rfl hls hW hdg) hfM kk
end SJL_X1_hasPeriod
abbrev rm_X6_isPeriod : Room := { frames := 8, cells := 3, slots := 18, locals := 124 }
def vc_X6_isPeriod (self : Nat) (a1 : Int32) (a2 : Int32) (a3 : Int32) (w : sj_W) (Q : Int32 → sj_W → Prop) (QX : String → sj_W → Prop) : Prop := vc_X6_kindOf a1 w (fun r1 w2 => sj_T w2 self = 5 ∧ vc_X6_rowOf self r1 a2 w2 (fun r4 w5 => ((a3 < 1 → QX "java/lang/IndexOutOfBoundsException" w5) ∧ (¬ a3 < 1 → sj_T w5 r4 = 2 ∧ ((a3 ≤ (sj_I w5 9 r4) → sj_T w5 r4 = 2 ∧ vc_X1_hasPeriod r4 a3 w5 (fun r10 w11 => (r10 = 0 ∨ r10 = 1) ∧ Q r10 w11)) ∧ (¬ a3 ≤ (sj_I w5 9 r4) → QX "java/lang/IndexOutOfBoundsException" w5))))) QX) QX
set_option maxHeartbeats 4000000 in
set_option maxRecDepth 100000 in
theorem wk_X6_isPeriod (G : sj_G) (l : Launch) (hlt : l.stackTraces = false) (self : Nat) (a1 : Int32) (a2 : Int32) (a3 : Int32) (w : sj_W) (Q : Int32 → sj_W → Prop) (QX : String → sj_W → Prop) (hv : vc_X6_isPeriod self a1 a2 a3 w Q QX) : sj_MI G l yX6_isPeriod (sj_ws yX6_isPeriod cX6_isPeriod 5 (some .boolean)) rm_X6_isPeriod [.ref self, .int a1, .int a2, .int a3] w Q QX := by
  refine sj_of (by decide +kernel) (Nat.le_of_ble_eq_true rfl) hlt ?_
  intro p e s m args below meth c ls hC hD hr hin hH hl
  have hx := hC.1
  have hb := hC.2.1
  have hl : lv_has ls 5 [(0, .ref self), (1, .int a1), (2, .int a2), (3, .int a3)] := hl
  refine lv_aload_n hx hb dX6_isPeriod_0 rfl (lv_at hl 0 rfl) ?_
  refine lv_iload_n hx hb dX6_isPeriod_1 rfl (lv_at hl 1 rfl) ?_
  refine cl_X6_34 hC hD hH hv ⟨Nat.le_of_ble_eq_true rfl, Nat.le_of_ble_eq_true rfl⟩ ⟨(Nat.le_of_ble_eq_true rfl), (Nat.le_of_ble_eq_true rfl)⟩ ⟨(Nat.le_of_ble_eq_true rfl), (Nat.le_of_ble_eq_true rfl)⟩ hl.1 (Nat.le_of_ble_eq_true rfl) dX6_isPeriod_2 (fun r1 w2 H locs hH hv3 => ?_)
  refine lv_iload_n hx hb dX6_isPeriod_5 rfl (lv_at hl 2 rfl) ?_
  refine cl_X6_42 hC hD hH hv3.2 hv3.1 ⟨Nat.le_of_ble_eq_true rfl, Nat.le_of_ble_eq_true rfl⟩ ⟨(Nat.le_of_ble_eq_true rfl), (Nat.le_of_ble_eq_true rfl)⟩ ⟨(Nat.le_of_ble_eq_true rfl), (Nat.le_of_ble_eq_true rfl)⟩ hl.1 (Nat.le_of_ble_eq_true rfl) dX6_isPeriod_6 (fun r4 w5 H locs hH hv6 => ?_)
  refine lv_astore (lv' := [(4, .ref r4), (0, .ref self), (1, .int a1), (2, .int a2), (3, .int a3)]) hx hb dX6_isPeriod_9 hl (by decide) rfl (fun ls hl => ?_)
  refine lv_iload_n hx hb dX6_isPeriod_11 rfl (lv_at hl 4 rfl) ?_
  refine lv_iconst (v := 1) hx hb dX6_isPeriod_12 (by decide) ?_
  refine lv_icmp_lt (tgt := 25) hx hb dX6_isPeriod_13 (by decide) (fun hc => ?_) (fun hc => ?_)
  · have hv7 := hv6.1 hc
    exact th_X6_170_76 hC hD hH hl.1 dX6_isPeriod_25 dX6_isPeriod_28 dX6_isPeriod_29 dX6_isPeriod_31 dX6_isPeriod_34 ⟨Nat.le_of_ble_eq_true rfl, Nat.le_of_ble_eq_true rfl⟩ ⟨(Nat.le_of_ble_eq_true rfl), (Nat.le_of_ble_eq_true rfl)⟩ ⟨(Nat.le_of_ble_eq_true rfl), (Nat.le_of_ble_eq_true rfl)⟩ hv7
  · have hv8 := hv6.2 hc
    refine lv_iload_n hx hb dX6_isPeriod_16 rfl (lv_at hl 4 rfl) ?_
    refine lv_aload hx hb dX6_isPeriod_17 (lv_at hl 0 rfl) ?_
    refine gf_X6_46 hC hH hv8.1 dX6_isPeriod_19 ?_
    refine lv_icmp_le (tgt := 35) hx hb dX6_isPeriod_22 (by decide) (fun hc => ?_) (fun hc => ?_)
    · have hv9 := hv8.2.1 hc
      refine lv_aload hx hb dX6_isPeriod_35 (lv_at hl 0 rfl) ?_
      refine lv_iload_n hx hb dX6_isPeriod_37 rfl (lv_at hl 4 rfl) ?_
      refine cl_X6_172 hC hD hH hv9.2 hv9.1 ⟨Nat.le_of_ble_eq_true rfl, Nat.le_of_ble_eq_true rfl⟩ ⟨(Nat.le_of_ble_eq_true rfl), (Nat.le_of_ble_eq_true rfl)⟩ ⟨(Nat.le_of_ble_eq_true rfl), (Nat.le_of_ble_eq_true rfl)⟩ hl.1 (Nat.le_of_ble_eq_true rfl) dX6_isPeriod_38 (fun r10 w11 H locs hH hv12 => ?_)
      exact sj_retI hC hD.2 hH hr (sj_nz hv12.1).1 hv12.2 ⟨(Nat.le_of_ble_eq_true rfl), (Nat.le_of_ble_eq_true rfl)⟩ dX6_isPeriod_41
    · have hv13 := hv8.2.2 hc
      exact th_X6_170_76 hC hD hH hl.1 dX6_isPeriod_25 dX6_isPeriod_28 dX6_isPeriod_29 dX6_isPeriod_31 dX6_isPeriod_34 ⟨Nat.le_of_ble_eq_true rfl, Nat.le_of_ble_eq_true rfl⟩ ⟨(Nat.le_of_ble_eq_true rfl), (Nat.le_of_ble_eq_true rfl)⟩ ⟨(Nat.le_of_ble_eq_true rfl), (Nat.le_of_ble_eq_true rfl)⟩ hv13
section SJL_X6_isPeriod
variable {p : Program} {l : Launch} {e : Env} {R : Room} {s : State} {m : MethodId} {args : Array Value} {below : List Frame} {meth : Method} {c : Code} {H : Heap} {locs : List Loc} {cells slots : Nat} {Q : State → Prop} {cc : ByteArray} {pc : Nat} {ls : Array Slot} {rest : List Value} {G : sj_G} {nL : Nat} {w : sj_W}
theorem cx_L_99 {QX : String → sj_W → Prop} {b : Nat} {b0 : Int32} {b1 : Int32} {b2 : Int32} {Qi : Int32 → sj_W → Prop} (hC : sj_C G p l s m args c cc RL nL) (hH : sj_H G s w H locs) (hv : vc_X6_isPeriod b b0 b1 b2 w Qi QX) (hT : sj_T w b = 5) (hR : rm_X6_isPeriod.frames + 1 ≤ R.frames ∧ 8 + (5 + 11) + rm_X6_isPeriod.locals ≤ R.locals) (hf : cells + 3 ≤ R.cells ∧ slots + 18 ≤ R.slots) (hls : ls.size = nL) (hW : (rest.map fun v => v.category).sum ≤ 8) (hdg : decode cc pc = .ok (.invokevirtual 99, 3)) (kx : ∀ (E : String) (ce : Cell) (q9 : Addr) (w1 : sj_W) (H1 : Heap) (locs1 : List Loc), sj_H G s w1 H1 locs1 → QX E w1 → H1[q9]? = some ce → ce.vm = .none → s.vm.findClass E = some ce.cls → vx_W p l e R s m args below meth c H1 locs1 (cells + 3) (slots + 18) Q (F0 m pc ls rest) q9) (kk : ∀ (r : Int32) (w1 : sj_W) (H : Heap) (locs : List Loc), sj_H G s w1 H locs → Qi r w1 → W p l e R s m args below meth c H locs (cells + 3) (slots + 18) Q (F0 m (pc + 3) ls (.int r :: rest))) : W p l e R s m args below meth c H locs cells slots Q (F0 m pc ls (.int b2 :: .int b1 :: .int b0 :: .ref b :: rest)) :=
  sj_xI hH (sj_runV (n := 3) hC hH (As := [.int b0, .int b1, .int b2]) (wk_X6_isPeriod G l hC.2.2.2.2.2.2 b b0 b1 b2 w Qi QX hv) (ci := 4) rfl (by decide) hT mb_533 mb_534 mb_535 mb_1 mb_536 (by decide +kernel) hR hf rfl hls hW hdg) kx kk
end SJL_X6_isPeriod

abbrev rm_X6_init : Room := { frames := 2, cells := 136, slots := 3131, locals := 32 }
def vb_X6_init_43 (f0 : Nat) (Q : sj_W → Prop) (E : sj_W → Prop) (K : Int32 → sj_W → Prop) (v1 : Int32) (w : sj_W) : Prop := sj_T w f0 = 5 ∧ sj_A w 32 f0 ≠ 0 ∧ (7 ≤ sj_T w (sj_A w 32 f0) ∧ sj_T w (sj_A w 32 f0) ≤ 13) ∧ (((nI (sj_N w (sj_A w 32 f0))) ≤ v1 → E w) ∧ (¬ (nI (sj_N w (sj_A w 32 f0))) ≤ v1 → sj_T w f0 = 5 ∧ sj_A w 32 f0 ≠ 0 ∧ ∀ q34 : Nat, q34 ≠ 0 → sj_T w q34 = 0 → ∀ w35 : sj_W, w35 = sj_nw w q34 2 0 → vc_X1_init q34 w35 (fun w40 => sj_T w40 (sj_A w 32 f0) = 10 ∧ sj_T w40 q34 = 2 ∧ vp_in v1 (sj_N w40 (sj_A w 32 f0)) ∧ q34 ≠ 0 ∧ ∀ w42 : sj_W, w42 = sj_sr w40 (sj_A w 32 f0) v1.toNatClampNeg q34 → K (v1 + 1) w42)))
def vb_X6_init_73 (f0 : Nat) (Q : sj_W → Prop) (E : sj_W → Prop) (K : Int32 → sj_W → Prop) (v1 : Int32) (w : sj_W) : Prop := sj_T w f0 = 5 ∧ sj_A w 33 f0 ≠ 0 ∧ (7 ≤ sj_T w (sj_A w 33 f0) ∧ sj_T w (sj_A w 33 f0) ≤ 13) ∧ (((nI (sj_N w (sj_A w 33 f0))) ≤ v1 → E w) ∧ (¬ (nI (sj_N w (sj_A w 33 f0))) ≤ v1 → sj_T w f0 = 5 ∧ sj_A w 33 f0 ≠ 0 ∧ ∀ q47 : Nat, q47 ≠ 0 → sj_T w q47 = 0 → ∀ w48 : sj_W, w48 = sj_nw w q47 3 0 → vc_X3_init q47 w48 (fun w53 => sj_T w53 (sj_A w 33 f0) = 11 ∧ sj_T w53 q47 = 3 ∧ vp_in v1 (sj_N w53 (sj_A w 33 f0)) ∧ q47 ≠ 0 ∧ ∀ w55 : sj_W, w55 = sj_sr w53 (sj_A w 33 f0) v1.toNatClampNeg q47 → K (v1 + 1) w55)))
def vc_X6_init (self : Nat) (w : sj_W) (Q : sj_W → Prop) : Prop := ∀ q1 : Nat, q1 ≠ 0 → sj_T w q1 = 0 → ∀ w2 : sj_W, w2 = sj_nw w q1 10 16 → sj_T w2 self = 5 ∧ q1 ≠ 0 ∧ ∀ w6 : sj_W, w6 = sj_sA w2 32 self q1 → ∀ q8 : Nat, q8 ≠ 0 → sj_T w6 q8 = 0 → ∀ w9 : sj_W, w9 = sj_nw w6 q8 11 12 → sj_T w9 self = 5 ∧ q8 ≠ 0 ∧ ∀ w13 : sj_W, w13 = sj_sA w9 33 self q8 → ∀ q15 : Nat, q15 ≠ 0 → sj_T w13 q15 = 0 → ∀ w16 : sj_W, w16 = sj_nw w13 q15 7 12 → sj_T w16 self = 5 ∧ q15 ≠ 0 ∧ ∀ w20 : sj_W, w20 = sj_sA w16 34 self q15 → ∀ q22 : Nat, q22 ≠ 0 → sj_T w20 q22 = 0 → ∀ w23 : sj_W, w23 = sj_nw w20 q22 1 0 → vc_X0_init q22 w23 (fun w28 => sj_T w28 self = 5 ∧ q22 ≠ 0 ∧ ∀ w30 : sj_W, w30 = sj_sA w28 35 self q22 → sj_lp1 (vb_X6_init_43 self Q (fun w_43 => sj_lp1 (vb_X6_init_73 self Q (fun w_73 => Q w_73)) 20 0 w_43)) 20 0 w30)
set_option maxHeartbeats 4000000 in
set_option maxRecDepth 100000 in
theorem wl_X6_init_43 {p : Program} {l : Launch} {e : Env} {s : State} {m : MethodId} {args : Array Value} {below : List Frame} {meth : Method} {c : Code} {G : sj_G} {f0 : Nat} {Q : sj_W → Prop} {QX : String → sj_W → Prop} {E : sj_W → Prop} (hC : sj_C G p l s m args c cX6_init RX6 2) (hD : sj_D meth c) (hr : meth.sig.returnType = none) (hin : meth.name = "<init>") (hE : ∀ (w : sj_W) (H : Heap) (locs : List Loc) (ls : Array Slot), lv_has ls 2 [(0, .ref f0)] → sj_H G s w H locs → E w → W p l e rm_X6_init s m args below meth c H locs 115 3068 (sj_MQ G below (va_Qv Q (sj_B G) (sj_F G)) QX args s rm_X6_init) (F0 m 71 ls [])) : ∀ (n : Nat) (v1 : Int32) (w : sj_W) (H : Heap) (locs : List Loc) (ls : Array Slot) (cells slots : Nat), cells + n * 2 ≤ 115 → slots + n * 34 ≤ 3068 → lv_has ls 2 [(0, .ref f0), (1, .int v1)] → sj_H G s w H locs → sj_lp1 (vb_X6_init_43 f0 Q E) n v1 w → W p l e rm_X6_init s m args below meth c H locs cells slots (sj_MQ G below (va_Qv Q (sj_B G) (sj_F G)) QX args s rm_X6_init) (F0 m 43 ls []) := by
  have hx := hC.1
  have hb := hC.2.1
  intro n
  induction n with
  | zero =>
    intro v1 w H locs ls cells slots _ _ _ _ hv
    exact hv.elim
  | succ n ih =>
    intro v1 w H locs ls cells slots hcc hcs hl hH hv
    have hv : vb_X6_init_43 f0 Q E (sj_lp1 (vb_X6_init_43 f0 Q E) n) v1 w := hv
    have hc1 : rm_X6_init.cells = 136 := rfl
    have hc2 : rm_X6_init.slots = 3131 := rfl
    refine lv_iload_n hx hb dX6_init_43 rfl (lv_at hl 1 rfl) ?_
    refine lv_aload_n hx hb dX6_init_44 rfl (lv_at hl 0 rfl) ?_
    refine gf_X6_11 hC hH hv.1 hv.2.1 dX6_init_45 ?_
    refine sj_alen hC hH hv.2.2.1 dX6_init_48 ?_
    refine lv_icmp_ge (tgt := 71) hx hb dX6_init_49 (by decide) (fun hc => ?_) (fun hc => ?_)
    · have hv32 := hv.2.2.2.1 hc
      refine W.widen (k := 115) (n := 3068) (by omega) (by omega) ?_
      exact hE  w _ _ _ (lv_sub hl [0] rfl) hH hv32
    · have hv33 := hv.2.2.2.2 hc
      refine lv_aload_n hx hb dX6_init_52 rfl (lv_at hl 0 rfl) ?_
      refine gf_X6_11 hC hH hv33.1 hv33.2.1 dX6_init_53 ?_
      refine lv_iload_n hx hb dX6_init_56 rfl (lv_at hl 1 rfl) ?_
      refine nw_X6_9 hC hH (by have hc1 : rm_X6_init.cells = 136 := rfl; omega) (by have hc1 : rm_X6_init.slots = 3131 := rfl; omega) dX6_init_57 (fun q34 w35 H h37 h38 e36 hH => ?_)
      refine lv_dup hx hb dX6_init_60 rfl ?_
      refine cl_X6_32 hC hD hH (hv33.2.2 q34 h37 h38 w35 e36) ⟨Nat.le_of_ble_eq_true rfl, Nat.le_of_ble_eq_true rfl⟩ ⟨(by have hc1 : rm_X6_init.cells = 136 := rfl; omega), (by have hc1 : rm_X6_init.slots = 3131 := rfl; omega)⟩ ⟨(by have hc1 : rm_X6_init.cells = 136 := rfl; omega), (by have hc1 : rm_X6_init.slots = 3131 := rfl; omega)⟩ hl.1 (Nat.le_of_ble_eq_true rfl) dX6_init_61 (fun w40 H locs hH hv41 => ?_)
      refine sj_aast (t := 3) (ci := 1) (r := (RX1, TX1, 2)) hC hH hv41.1 (by decide) rfl (by decide) rfl hv41.2.1 hv41.2.2.1 hv41.2.2.2.1 dX6_init_64 (fun w42 H locs e43 hH => ?_)
      refine lv_iinc (v := (v1 + 1)) (lv' := [(1, .int (v1 + 1)), (0, .ref f0)]) hx hb dX6_init_65 hl (k := 1) rfl rfl (by decide) rfl (fun ls hl => ?_)
      refine lv_goto (tgt := 43) hx hb dX6_init_68 (by decide) ?_
      refine W.widen (k := cells + 2) (n := slots + 34) (by omega) (by omega) ?_
      exact ih (v1 + 1) w42 _ _ _ _ _ (by omega) (by omega) (lv_sub hl [1, 0] rfl) hH (hv41.2.2.2.2 w42 e43)
set_option maxHeartbeats 4000000 in
set_option maxRecDepth 100000 in
theorem wl_X6_init_73 {p : Program} {l : Launch} {e : Env} {s : State} {m : MethodId} {args : Array Value} {below : List Frame} {meth : Method} {c : Code} {G : sj_G} {f0 : Nat} {Q : sj_W → Prop} {QX : String → sj_W → Prop} {E : sj_W → Prop} (hC : sj_C G p l s m args c cX6_init RX6 2) (hD : sj_D meth c) (hr : meth.sig.returnType = none) (hin : meth.name = "<init>") (hE : ∀ (w : sj_W) (H : Heap) (locs : List Loc) (ls : Array Slot), lv_has ls 2 [] → sj_H G s w H locs → E w → W p l e rm_X6_init s m args below meth c H locs 135 3128 (sj_MQ G below (va_Qv Q (sj_B G) (sj_F G)) QX args s rm_X6_init) (F0 m 101 ls [])) : ∀ (n : Nat) (v1 : Int32) (w : sj_W) (H : Heap) (locs : List Loc) (ls : Array Slot) (cells slots : Nat), cells + n * 1 ≤ 135 → slots + n * 3 ≤ 3128 → lv_has ls 2 [(0, .ref f0), (1, .int v1)] → sj_H G s w H locs → sj_lp1 (vb_X6_init_73 f0 Q E) n v1 w → W p l e rm_X6_init s m args below meth c H locs cells slots (sj_MQ G below (va_Qv Q (sj_B G) (sj_F G)) QX args s rm_X6_init) (F0 m 73 ls []) := by
  have hx := hC.1
  have hb := hC.2.1
  intro n
  induction n with
  | zero =>
    intro v1 w H locs ls cells slots _ _ _ _ hv
    exact hv.elim
  | succ n ih =>
    intro v1 w H locs ls cells slots hcc hcs hl hH hv
    have hv : vb_X6_init_73 f0 Q E (sj_lp1 (vb_X6_init_73 f0 Q E) n) v1 w := hv
    have hc1 : rm_X6_init.cells = 136 := rfl
    have hc2 : rm_X6_init.slots = 3131 := rfl
    refine lv_iload_n hx hb dX6_init_73 rfl (lv_at hl 1 rfl) ?_
    refine lv_aload_n hx hb dX6_init_74 rfl (lv_at hl 0 rfl) ?_
    refine gf_X6_17 hC hH hv.1 hv.2.1 dX6_init_75 ?_
    refine sj_alen hC hH hv.2.2.1 dX6_init_78 ?_
    refine lv_icmp_ge (tgt := 101) hx hb dX6_init_79 (by decide) (fun hc => ?_) (fun hc => ?_)
    · have hv45 := hv.2.2.2.1 hc
      refine W.widen (k := 135) (n := 3128) (by omega) (by omega) ?_
      exact hE  w _ _ _ (lv_sub hl [] rfl) hH hv45
    · have hv46 := hv.2.2.2.2 hc
      refine lv_aload_n hx hb dX6_init_82 rfl (lv_at hl 0 rfl) ?_
      refine gf_X6_17 hC hH hv46.1 hv46.2.1 dX6_init_83 ?_
      refine lv_iload_n hx hb dX6_init_86 rfl (lv_at hl 1 rfl) ?_
      refine nw_X6_15 hC hH (by have hc1 : rm_X6_init.cells = 136 := rfl; omega) (by have hc1 : rm_X6_init.slots = 3131 := rfl; omega) dX6_init_87 (fun q47 w48 H h50 h51 e49 hH => ?_)
      refine lv_dup hx hb dX6_init_90 rfl ?_
      refine cl_X6_33 hC hD hH (hv46.2.2 q47 h50 h51 w48 e49) ⟨Nat.le_of_ble_eq_true rfl, Nat.le_of_ble_eq_true rfl⟩ ⟨(by have hc1 : rm_X6_init.cells = 136 := rfl; omega), (by have hc1 : rm_X6_init.slots = 3131 := rfl; omega)⟩ ⟨(by have hc1 : rm_X6_init.cells = 136 := rfl; omega), (by have hc1 : rm_X6_init.slots = 3131 := rfl; omega)⟩ hl.1 (Nat.le_of_ble_eq_true rfl) dX6_init_91 (fun w53 H locs hH hv54 => ?_)
      refine sj_aast (t := 4) (ci := 2) (r := (RX3, TX3, 3)) hC hH hv54.1 (by decide) rfl (by decide) rfl hv54.2.1 hv54.2.2.1 hv54.2.2.2.1 dX6_init_94 (fun w55 H locs e56 hH => ?_)
      refine lv_iinc (v := (v1 + 1)) (lv' := [(1, .int (v1 + 1)), (0, .ref f0)]) hx hb dX6_init_95 hl (k := 1) rfl rfl (by decide) rfl (fun ls hl => ?_)
      refine lv_goto (tgt := 73) hx hb dX6_init_98 (by decide) ?_
      refine W.widen (k := cells + 1) (n := slots + 3) (by omega) (by omega) ?_
      exact ih (v1 + 1) w55 _ _ _ _ _ (by omega) (by omega) (lv_sub hl [1, 0] rfl) hH (hv54.2.2.2.2 w55 e56)
set_option maxHeartbeats 4000000 in
set_option maxRecDepth 100000 in
theorem wk_X6_init (G : sj_G) (l : Launch) (hlt : l.stackTraces = false) (self : Nat) (w : sj_W) (Q : sj_W → Prop) (QX : String → sj_W → Prop) (hv : vc_X6_init self w Q) : sj_MV G l yX6_init (sj_ws yX6_init cX6_init 2 none) rm_X6_init [.ref self] w Q QX := by
  refine sj_of (by decide +kernel) (Nat.le_of_ble_eq_true rfl) hlt ?_
  intro p e s m args below meth c ls hC hD hr hin hH hl
  have hx := hC.1
  have hb := hC.2.1
  have hl : lv_has ls 2 [(0, .ref self)] := hl
  refine lv_aload_n hx hb dX6_init_0 rfl (lv_at hl 0 rfl) ?_
  refine W.objInit hx hb hC.2.2.2.1 (hC.2.2.2.2.1 _ mb_21) (hC.2.2.2.2.1 _ mb_22) (hC.2.2.2.2.1 _ mb_23) rfl (by rw [hC.2.2.1]; exact hl.1) rfl dX6_init_1 (Nat.le_of_ble_eq_true rfl) (Nat.le_of_ble_eq_true rfl) ?_
  refine W.eq (g2 := F0 m 4 ls []) rfl ?_
  refine lv_aload_n hx hb dX6_init_4 rfl (lv_at hl 0 rfl) ?_
  refine lv_bipush (v := 16) hx hb dX6_init_5 (by decide) ?_
  refine sj_newQ (t := 3) hC hH (by decide) (by decide) mb_24 rfl (by decide) rfl (by decide) (Nat.le_of_ble_eq_true rfl) (Nat.le_of_ble_eq_true rfl) dX6_init_7 (fun q1 w2 H h4 h5 e3 hH => ?_)
  refine pf_X6_11 hC hH (hv q1 h4 h5 w2 e3).1 hin (hv q1 h4 h5 w2 e3).2.1 dX6_init_10 (fun w6 H locs e7 hH => ?_)
  refine lv_aload_n hx hb dX6_init_13 rfl (lv_at hl 0 rfl) ?_
  refine lv_bipush (v := 12) hx hb dX6_init_14 (by decide) ?_
  refine sj_newQ (t := 4) hC hH (by decide) (by decide) mb_26 rfl (by decide) rfl (by decide) (Nat.le_of_ble_eq_true rfl) (Nat.le_of_ble_eq_true rfl) dX6_init_16 (fun q8 w9 H h11 h12 e10 hH => ?_)
  refine pf_X6_17 hC hH (((hv q1 h4 h5 w2 e3).2.2 w6 e7) q8 h11 h12 w9 e10).1 hin (((hv q1 h4 h5 w2 e3).2.2 w6 e7) q8 h11 h12 w9 e10).2.1 dX6_init_19 (fun w13 H locs e14 hH => ?_)
  refine lv_aload_n hx hb dX6_init_22 rfl (lv_at hl 0 rfl) ?_
  refine lv_bipush (v := 12) hx hb dX6_init_23 (by decide) ?_
  refine sj_newI hC hH mb_69 (by decide) rfl (by decide) (Nat.le_of_ble_eq_true rfl) (Nat.le_of_ble_eq_true rfl) dX6_init_25 (fun q15 w16 H h18 h19 e17 hH => ?_)
  refine pf_X6_21 hC hH (((((hv q1 h4 h5 w2 e3).2.2 w6 e7) q8 h11 h12 w9 e10).2.2 w13 e14) q15 h18 h19 w16 e17).1 hin (((((hv q1 h4 h5 w2 e3).2.2 w6 e7) q8 h11 h12 w9 e10).2.2 w13 e14) q15 h18 h19 w16 e17).2.1 dX6_init_27 (fun w20 H locs e21 hH => ?_)
  refine lv_aload_n hx hb dX6_init_30 rfl (lv_at hl 0 rfl) ?_
  refine nw_X6_25 hC hH (Nat.le_of_ble_eq_true rfl) (Nat.le_of_ble_eq_true rfl) dX6_init_31 (fun q22 w23 H h25 h26 e24 hH => ?_)
  refine lv_dup hx hb dX6_init_34 rfl ?_
  refine cl_X6_27 hC hD hH (((((((hv q1 h4 h5 w2 e3).2.2 w6 e7) q8 h11 h12 w9 e10).2.2 w13 e14) q15 h18 h19 w16 e17).2.2 w20 e21) q22 h25 h26 w23 e24) ⟨Nat.le_of_ble_eq_true rfl, Nat.le_of_ble_eq_true rfl⟩ ⟨(Nat.le_of_ble_eq_true rfl), (Nat.le_of_ble_eq_true rfl)⟩ ⟨(Nat.le_of_ble_eq_true rfl), (Nat.le_of_ble_eq_true rfl)⟩ hl.1 (Nat.le_of_ble_eq_true rfl) dX6_init_35 (fun w28 H locs hH hv29 => ?_)
  refine pf_X6_28 hC hH hv29.1 hin hv29.2.1 dX6_init_38 (fun w30 H locs e31 hH => ?_)
  refine lv_iconst (v := 0) hx hb dX6_init_41 (by decide) ?_
  refine lv_istore_n (lv' := [(1, .int 0), (0, .ref self)]) hx hb dX6_init_42 rfl hl (by decide) rfl (fun ls hl => ?_)
  refine wl_X6_init_43 hC hD hr hin (fun w_43 H locs ls hl hH hv44 => ?_) 20 0 w30 _ _ _ 75 2388 (Nat.le_of_ble_eq_true rfl) (Nat.le_of_ble_eq_true rfl) (lv_sub hl [1, 0] rfl) hH (hv29.2.2 w30 e31)
  refine lv_iconst (v := 0) hx hb dX6_init_71 (by decide) ?_
  refine lv_istore_n (lv' := [(1, .int 0), (0, .ref self)]) hx hb dX6_init_72 rfl hl (by decide) rfl (fun ls hl => ?_)
  refine wl_X6_init_73 hC hD hr hin (fun w_73 H locs ls hl hH hv57 => ?_) 20 0 w_43 _ _ _ 115 3068 (Nat.le_of_ble_eq_true rfl) (Nat.le_of_ble_eq_true rfl) (lv_sub hl [1, 0] rfl) hH hv44
  exact sj_retV hC hD.2 hH hr hv57 ⟨(Nat.le_of_ble_eq_true rfl), (Nat.le_of_ble_eq_true rfl)⟩ dX6_init_101
section SJL_X6_init
variable {p : Program} {l : Launch} {e : Env} {R : Room} {s : State} {m : MethodId} {args : Array Value} {below : List Frame} {meth : Method} {c : Code} {H : Heap} {locs : List Loc} {cells slots : Nat} {Q : State → Prop} {cc : ByteArray} {pc : Nat} {ls : Array Slot} {rest : List Value} {G : sj_G} {nL : Nat} {w : sj_W}
theorem cg_L_134 {b : Nat} {Qi : sj_W → Prop} (hC : sj_C G p l s m args c cc RL nL) (hH : sj_H G s w H locs) (hv : vc_X6_init b w Qi) (hR : rm_X6_init.frames + 1 ≤ R.frames ∧ 8 + (2 + 11) + rm_X6_init.locals ≤ R.locals) (hf : cells + 136 ≤ R.cells ∧ slots + 3131 ≤ R.slots) (hls : ls.size = nL) (hW : (rest.map fun v => v.category).sum ≤ 8) (hdg : decode cc pc = .ok (.invokespecial 134, 3)) (kk : ∀ (w1 : sj_W) (H : Heap) (locs : List Loc), sj_H G s w1 H locs → Qi w1 → W p l e R s m args below meth c H locs (cells + 136) (slots + 3131) Q (F0 m (pc + 3) ls rest)) : W p l e R s m args below meth c H locs cells slots Q (F0 m pc ls (.ref b :: rest)) :=
  sj_xV hH (sj_runI (n := 0) hC hH (As := []) (wk_X6_init G l hC.2.2.2.2.2.2 b w Qi (fun _ _ => False) hv) mb_18 mb_19 mb_1 mb_20 rfl (by decide +kernel) hR hf rfl hls hW hdg) (fun _ _ _ _ _ _ _ h _ _ _ => h.elim) kk
end SJL_X6_init

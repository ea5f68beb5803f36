abbrev rm_X6_cut : Room := { frames := 8, cells := 3, slots := 18, locals := 124 }
def vb_X6_cut_53 (f3 : Int32) (f5 : Nat) (Q : Int32 → sj_W → Prop) (QX : String → sj_W → Prop) (E : sj_W → Prop) (K : Int32 → sj_W → Prop) (v6 : Int32) (w : sj_W) : Prop := sj_T w f5 = 2 ∧ (((sj_I w 9 f5) ≤ v6 → E w) ∧ (¬ (sj_I w 9 f5) ≤ v6 → sj_T w f5 = 2 ∧ sj_A w 8 f5 ≠ 0 ∧ sj_T w f5 = 2 ∧ sj_A w 8 f5 ≠ 0 ∧ sj_T w (sj_A w 8 f5) = 8 ∧ vp_in (f3 + v6) (sj_N w (sj_A w 8 f5)) ∧ sj_T w (sj_A w 8 f5) = 8 ∧ vp_in v6 (sj_N w (sj_A w 8 f5)) ∧ ∀ w16 : sj_W, w16 = sj_sl w (sj_A w 8 f5) v6.toNatClampNeg (sj_l w (sj_A w 8 f5) (f3 + v6).toNatClampNeg) → K (v6 + 1) w16))
def vc_X6_cut (self : Nat) (a1 : Int32) (a2 : Int32) (a3 : Int32) (a4 : Int32) (w : sj_W) (Q : Int32 → sj_W → Prop) (QX : String → sj_W → Prop) : Prop := vc_X6_kindOf a1 w (fun r1 w2 => sj_T w2 self = 5 ∧ vc_X6_rowOf self r1 a2 w2 (fun r4 w5 => ((a3 < 0 → QX "java/lang/IndexOutOfBoundsException" w5) ∧ (¬ a3 < 0 → ((a4 < a3 → QX "java/lang/IndexOutOfBoundsException" w5) ∧ (¬ a4 < a3 → sj_T w5 r4 = 2 ∧ ((a4 ≤ (sj_I w5 9 r4) → sj_T w5 r4 = 2 ∧ ∀ w12 : sj_W, w12 = sj_sI w5 9 r4 (a4 - a3) → sj_lp1 (vb_X6_cut_53 a3 r4 Q QX (fun w_53 => sj_T w_53 r4 = 2 ∧ Q (sj_I w_53 9 r4) w_53)) 64 0 w12) ∧ (¬ a4 ≤ (sj_I w5 9 r4) → QX "java/lang/IndexOutOfBoundsException" w5))))))) QX) QX
set_option maxHeartbeats 4000000 in
set_option maxRecDepth 100000 in
theorem wl_X6_cut_53 {p : Program} {l : Launch} {e : Env} {s : State} {m : MethodId} {args : Array Value} {below : List Frame} {meth : Method} {c : Code} {G : sj_G} {f3 : Int32} {f5 : Nat} {Q : Int32 → sj_W → Prop} {QX : String → sj_W → Prop} {E : sj_W → Prop} (hC : sj_C G p l s m args c cX6_cut RX6 7) (hD : sj_D meth c) (hr : meth.sig.returnType = (some .int)) (hin : meth.name = "cut") (hE : ∀ (w : sj_W) (H : Heap) (locs : List Loc) (ls : Array Slot), lv_has ls 7 [(5, .ref f5)] → sj_H G s w H locs → E w → W p l e rm_X6_cut s m args below meth c H locs 2 12 (sj_MQ G below (va_Qi Q (sj_B G) (sj_F G)) QX args s rm_X6_cut) (F0 m 87 ls [])) : ∀ (n : Nat) (v6 : Int32) (w : sj_W) (H : Heap) (locs : List Loc) (ls : Array Slot), lv_has ls 7 [(3, .int f3), (5, .ref f5), (6, .int v6)] → sj_H G s w H locs → sj_lp1 (vb_X6_cut_53 f3 f5 Q QX E) n v6 w → W p l e rm_X6_cut s m args below meth c H locs 2 12 (sj_MQ G below (va_Qi Q (sj_B G) (sj_F G)) QX args s rm_X6_cut) (F0 m 53 ls []) := by
  have hx := hC.1
  have hb := hC.2.1
  intro n
  induction n with
  | zero =>
    intro v6 w H locs ls _ _ hv
    exact hv.elim
  | succ n ih =>
    intro v6 w H locs ls hl hH hv
    have hv : vb_X6_cut_53 f3 f5 Q QX E (sj_lp1 (vb_X6_cut_53 f3 f5 Q QX E) n) v6 w := hv
    have hc1 : rm_X6_cut.cells = 3 := rfl
    have hc2 : rm_X6_cut.slots = 18 := rfl
    refine lv_iload hx hb dX6_cut_53 (lv_at hl 2 rfl) ?_
    refine lv_aload hx hb dX6_cut_55 (lv_at hl 1 rfl) ?_
    refine gf_X6_46 hC hH hv.1 dX6_cut_57 ?_
    refine lv_icmp_ge (tgt := 87) hx hb dX6_cut_60 (by decide) (fun hc => ?_) (fun hc => ?_)
    · have hv14 := hv.2.1 hc
      exact hE  w _ _ _ (lv_sub hl [1] rfl) hH hv14
    · have hv15 := hv.2.2 hc
      refine lv_aload hx hb dX6_cut_63 (lv_at hl 1 rfl) ?_
      refine gf_X6_57 hC hH hv15.1 hv15.2.1 dX6_cut_65 ?_
      refine lv_iload hx hb dX6_cut_68 (lv_at hl 2 rfl) ?_
      refine lv_aload hx hb dX6_cut_70 (lv_at hl 1 rfl) ?_
      refine gf_X6_57 hC hH hv15.2.2.1 hv15.2.2.2.1 dX6_cut_72 ?_
      refine lv_iload_n hx hb dX6_cut_75 rfl (lv_at hl 0 rfl) ?_
      refine lv_iload hx hb dX6_cut_76 (lv_at hl 2 rfl) ?_
      refine lv_iadd hx hb dX6_cut_78 ?_
      refine sj_lald hC hH hv15.2.2.2.2.1 hv15.2.2.2.2.2.1 dX6_cut_79 ?_
      refine sj_last hC hH hv15.2.2.2.2.2.2.1 hv15.2.2.2.2.2.2.2.1 dX6_cut_80 (fun w16 H locs e17 hH => ?_)
      refine lv_iinc (v := (v6 + 1)) (lv' := [(6, .int (v6 + 1)), (3, .int f3), (5, .ref f5)]) hx hb dX6_cut_81 hl (k := 2) rfl rfl (by decide) rfl (fun ls hl => ?_)
      refine lv_goto (tgt := 53) hx hb dX6_cut_84 (by decide) ?_
      exact ih (v6 + 1) w16 _ _ _ (lv_sub hl [1, 2, 0] rfl) hH (hv15.2.2.2.2.2.2.2.2 w16 e17)
set_option maxHeartbeats 4000000 in
set_option maxRecDepth 100000 in
theorem wk_X6_cut (G : sj_G) (l : Launch) (hlt : l.stackTraces = false) (self : Nat) (a1 : Int32) (a2 : Int32) (a3 : Int32) (a4 : Int32) (w : sj_W) (Q : Int32 → sj_W → Prop) (QX : String → sj_W → Prop) (hv : vc_X6_cut self a1 a2 a3 a4 w Q QX) : sj_MI G l yX6_cut (sj_ws yX6_cut cX6_cut 7 (some .int)) rm_X6_cut [.ref self, .int a1, .int a2, .int a3, .int a4] w Q QX := by
  refine sj_of (by decide +kernel) (Nat.le_of_ble_eq_true rfl) hlt ?_
  intro p e s m args below meth c ls hC hD hr hin hH hl
  have hx := hC.1
  have hb := hC.2.1
  have hl : lv_has ls 7 [(0, .ref self), (1, .int a1), (2, .int a2), (3, .int a3), (4, .int a4)] := hl
  refine lv_aload_n hx hb dX6_cut_0 rfl (lv_at hl 0 rfl) ?_
  refine lv_iload_n hx hb dX6_cut_1 rfl (lv_at hl 1 rfl) ?_
  refine cl_X6_34 hC hD hH hv ⟨Nat.le_of_ble_eq_true rfl, Nat.le_of_ble_eq_true rfl⟩ ⟨(Nat.le_of_ble_eq_true rfl), (Nat.le_of_ble_eq_true rfl)⟩ ⟨(Nat.le_of_ble_eq_true rfl), (Nat.le_of_ble_eq_true rfl)⟩ hl.1 (Nat.le_of_ble_eq_true rfl) dX6_cut_2 (fun r1 w2 H locs hH hv3 => ?_)
  refine lv_iload_n hx hb dX6_cut_5 rfl (lv_at hl 2 rfl) ?_
  refine cl_X6_42 hC hD hH hv3.2 hv3.1 ⟨Nat.le_of_ble_eq_true rfl, Nat.le_of_ble_eq_true rfl⟩ ⟨(Nat.le_of_ble_eq_true rfl), (Nat.le_of_ble_eq_true rfl)⟩ ⟨(Nat.le_of_ble_eq_true rfl), (Nat.le_of_ble_eq_true rfl)⟩ hl.1 (Nat.le_of_ble_eq_true rfl) dX6_cut_6 (fun r4 w5 H locs hH hv6 => ?_)
  refine lv_astore (lv' := [(5, .ref r4), (0, .ref self), (1, .int a1), (2, .int a2), (3, .int a3), (4, .int a4)]) hx hb dX6_cut_9 hl (by decide) rfl (fun ls hl => ?_)
  refine lv_iload_n hx hb dX6_cut_11 rfl (lv_at hl 4 rfl) ?_
  refine lv_if_lt (tgt := 31) hx hb dX6_cut_12 (by decide) (fun hc => ?_) (fun hc => ?_)
  · have hv7 := hv6.1 hc
    exact th_X6_74_76 hC hD hH hl.1 dX6_cut_31 dX6_cut_34 dX6_cut_35 dX6_cut_37 dX6_cut_40 ⟨Nat.le_of_ble_eq_true rfl, Nat.le_of_ble_eq_true rfl⟩ ⟨(Nat.le_of_ble_eq_true rfl), (Nat.le_of_ble_eq_true rfl)⟩ ⟨(Nat.le_of_ble_eq_true rfl), (Nat.le_of_ble_eq_true rfl)⟩ hv7
  · have hv8 := hv6.2 hc
    refine lv_iload hx hb dX6_cut_15 (lv_at hl 5 rfl) ?_
    refine lv_iload_n hx hb dX6_cut_17 rfl (lv_at hl 4 rfl) ?_
    refine lv_icmp_lt (tgt := 31) hx hb dX6_cut_18 (by decide) (fun hc => ?_) (fun hc => ?_)
    · have hv9 := hv8.1 hc
      exact th_X6_74_76 hC hD hH hl.1 dX6_cut_31 dX6_cut_34 dX6_cut_35 dX6_cut_37 dX6_cut_40 ⟨Nat.le_of_ble_eq_true rfl, Nat.le_of_ble_eq_true rfl⟩ ⟨(Nat.le_of_ble_eq_true rfl), (Nat.le_of_ble_eq_true rfl)⟩ ⟨(Nat.le_of_ble_eq_true rfl), (Nat.le_of_ble_eq_true rfl)⟩ hv9
    · have hv10 := hv8.2 hc
      refine lv_iload hx hb dX6_cut_21 (lv_at hl 5 rfl) ?_
      refine lv_aload hx hb dX6_cut_23 (lv_at hl 0 rfl) ?_
      refine gf_X6_46 hC hH hv10.1 dX6_cut_25 ?_
      refine lv_icmp_le (tgt := 41) hx hb dX6_cut_28 (by decide) (fun hc => ?_) (fun hc => ?_)
      · have hv11 := hv10.2.1 hc
        refine lv_aload hx hb dX6_cut_41 (lv_at hl 0 rfl) ?_
        refine lv_iload hx hb dX6_cut_43 (lv_at hl 5 rfl) ?_
        refine lv_iload_n hx hb dX6_cut_45 rfl (lv_at hl 4 rfl) ?_
        refine lv_isub hx hb dX6_cut_46 ?_
        refine pf_X6_46 hC hH hv11.1 dX6_cut_47 (fun w12 H locs e13 hH => ?_)
        refine lv_iconst (v := 0) hx hb dX6_cut_50 (by decide) ?_
        refine lv_istore (lv' := [(6, .int 0), (5, .ref r4), (0, .ref self), (1, .int a1), (2, .int a2), (3, .int a3), (4, .int a4)]) hx hb dX6_cut_51 hl (by decide) rfl (fun ls hl => ?_)
        refine wl_X6_cut_53 hC hD hr hin (fun w_53 H locs ls hl hH hv18 => ?_) 64 0 w12 _ _ _ (lv_sub hl [5, 1, 0] rfl) hH (hv11.2 w12 e13)
        refine lv_aload hx hb dX6_cut_87 (lv_at hl 0 rfl) ?_
        refine gf_X6_46 hC hH hv18.1 dX6_cut_89 ?_
        exact sj_retI hC hD hH hr rfl hv18.2 ⟨(Nat.le_of_ble_eq_true rfl), (Nat.le_of_ble_eq_true rfl)⟩ dX6_cut_92
      · have hv19 := hv10.2.2 hc
        exact th_X6_74_76 hC hD hH hl.1 dX6_cut_31 dX6_cut_34 dX6_cut_35 dX6_cut_37 dX6_cut_40 ⟨Nat.le_of_ble_eq_true rfl, Nat.le_of_ble_eq_true rfl⟩ ⟨(Nat.le_of_ble_eq_true rfl), (Nat.le_of_ble_eq_true rfl)⟩ ⟨(Nat.le_of_ble_eq_true rfl), (Nat.le_of_ble_eq_true rfl)⟩ hv19
abbrev rm_X0_take : Room := { frames := 0, cells := 0, slots := 0, locals := 0 }
def vb_X0_take_23 (f0 : Nat) (Q : sj_W → Prop) (E : sj_W → Prop) (K : Int32 → sj_W → Prop) (v3 : Int32) (w : sj_W) : Prop := sj_T w f0 = 1 ∧ (((sj_I w 6 f0) < v3 → E w) ∧ (¬ (sj_I w 6 f0) < v3 → sj_T w f0 = 1 ∧ sj_A w 0 f0 ≠ 0 ∧ sj_T w (sj_A w 0 f0) = 13 ∧ vp_in v3 (sj_N w (sj_A w 0 f0)) ∧ (sj_r w (sj_A w 0 f0) v3.toNatClampNeg) ≠ 0 ∧ sj_T w f0 = 1 ∧ sj_T w (sj_r w (sj_A w 0 f0) v3.toNatClampNeg) = 7 ∧ vp_in (sj_I w 6 f0) (sj_N w (sj_r w (sj_A w 0 f0) v3.toNatClampNeg)) ∧ ∀ w9 : sj_W, w9 = sj_si w (sj_r w (sj_A w 0 f0) v3.toNatClampNeg) (sj_I w 6 f0).toNatClampNeg 0 → sj_T w9 f0 = 1 ∧ sj_A w9 0 f0 ≠ 0 ∧ sj_T w9 f0 = 1 ∧ sj_T w9 (sj_A w9 0 f0) = 13 ∧ vp_in (sj_I w9 6 f0) (sj_N w9 (sj_A w9 0 f0)) ∧ (sj_r w9 (sj_A w9 0 f0) (sj_I w9 6 f0).toNatClampNeg) ≠ 0 ∧ sj_T w9 (sj_r w9 (sj_A w9 0 f0) (sj_I w9 6 f0).toNatClampNeg) = 7 ∧ vp_in v3 (sj_N w9 (sj_r w9 (sj_A w9 0 f0) (sj_I w9 6 f0).toNatClampNeg)) ∧ ∀ w11 : sj_W, w11 = sj_si w9 (sj_r w9 (sj_A w9 0 f0) (sj_I w9 6 f0).toNatClampNeg) v3.toNatClampNeg 0 → K (v3 + 1) w11))
def vb_X0_take_80 (f0 : Nat) (f3 : Int32) (Q : sj_W → Prop) (E : sj_W → Prop) (K : Int32 → sj_W → Prop) (v4 : Int32) (w : sj_W) : Prop := ((v4 < 0 → E w) ∧ (¬ v4 < 0 → sj_T w f0 = 1 ∧ sj_A w 5 f0 ≠ 0 ∧ sj_T w (sj_A w 5 f0) = 8 ∧ vp_in f3 (sj_N w (sj_A w 5 f0)) ∧ sj_T w f0 = 1 ∧ sj_A w 5 f0 ≠ 0 ∧ sj_T w (sj_A w 5 f0) = 8 ∧ vp_in v4 (sj_N w (sj_A w 5 f0)) ∧ sj_jn1 (fun (E18 : Int32 → sj_W → Prop) => ((¬ (lg_cmp (sj_l w (sj_A w 5 f0) f3.toNatClampNeg) (sj_l w (sj_A w 5 f0) v4.toNatClampNeg)) = 0 → E18 0 w) ∧ ((lg_cmp (sj_l w (sj_A w 5 f0) f3.toNatClampNeg) (sj_l w (sj_A w 5 f0) v4.toNatClampNeg)) = 0 → E18 1 w))) (fun (y0_107 : Int32) (w_107 : sj_W) => sj_T w_107 f0 = 1 ∧ sj_A w_107 0 f0 ≠ 0 ∧ sj_T w_107 (sj_A w_107 0 f0) = 13 ∧ vp_in f3 (sj_N w_107 (sj_A w_107 0 f0)) ∧ (sj_r w_107 (sj_A w_107 0 f0) f3.toNatClampNeg) ≠ 0 ∧ ((y0_107 = 0 → sj_T w_107 (sj_r w_107 (sj_A w_107 0 f0) f3.toNatClampNeg) = 7 ∧ vp_in v4 (sj_N w_107 (sj_r w_107 (sj_A w_107 0 f0) f3.toNatClampNeg)) ∧ ∀ w27 : sj_W, w27 = sj_si w_107 (sj_r w_107 (sj_A w_107 0 f0) f3.toNatClampNeg) v4.toNatClampNeg 0 → K (v4 + (-1)) w27) ∧ (¬ y0_107 = 0 → sj_T w_107 f0 = 1 ∧ sj_A w_107 0 f0 ≠ 0 ∧ sj_T w_107 (sj_A w_107 0 f0) = 13 ∧ vp_in (f3 + 1) (sj_N w_107 (sj_A w_107 0 f0)) ∧ (sj_r w_107 (sj_A w_107 0 f0) (f3 + 1).toNatClampNeg) ≠ 0 ∧ sj_T w_107 (sj_r w_107 (sj_A w_107 0 f0) (f3 + 1).toNatClampNeg) = 7 ∧ vp_in (v4 + 1) (sj_N w_107 (sj_r w_107 (sj_A w_107 0 f0) (f3 + 1).toNatClampNeg)) ∧ sj_T w_107 (sj_r w_107 (sj_A w_107 0 f0) f3.toNatClampNeg) = 7 ∧ vp_in v4 (sj_N w_107 (sj_r w_107 (sj_A w_107 0 f0) f3.toNatClampNeg)) ∧ ∀ w30 : sj_W, w30 = sj_si w_107 (sj_r w_107 (sj_A w_107 0 f0) f3.toNatClampNeg) v4.toNatClampNeg ((sj_i w_107 (sj_r w_107 (sj_A w_107 0 f0) (f3 + 1).toNatClampNeg) (v4 + 1).toNatClampNeg) + 1) → K (v4 + (-1)) w30)))))
def vb_X0_take_68 (f0 : Nat) (Q : sj_W → Prop) (E : sj_W → Prop) (K : Int32 → sj_W → Prop) (v3 : Int32) (w : sj_W) : Prop := ((v3 < 0 → E w) ∧ (¬ v3 < 0 → sj_T w f0 = 1 ∧ sj_lp1 (vb_X0_take_80 f0 v3 Q (fun w_80 => K (v3 + (-1)) w_80)) 64 ((sj_I w 6 f0) - 1) w))
def vc_X0_take (self : Nat) (a1 : Nat) (a2 : Int32) (w : sj_W) (Q : sj_W → Prop) : Prop := sj_T w a1 = 2 ∧ sj_A w 8 a1 ≠ 0 ∧ sj_T w self = 1 ∧ (sj_A w 8 a1) ≠ 0 ∧ ∀ w1 : sj_W, w1 = sj_sA w 5 self (sj_A w 8 a1) → sj_T w1 a1 = 2 ∧ sj_T w1 self = 1 ∧ ∀ w3 : sj_W, w3 = sj_sI w1 6 self (sj_I w1 9 a1) → sj_T w3 self = 1 ∧ (a2 = 0 ∨ a2 = 1) ∧ ∀ w5 : sj_W, w5 = sj_sI w3 7 self a2 → sj_lp1 (vb_X0_take_23 self Q (fun w_23 => sj_T w_23 self = 1 ∧ sj_lp1 (vb_X0_take_68 self Q (fun w_68 => Q w_68)) 64 ((sj_I w_23 6 self) - 1) w_23)) 64 0 w5
set_option maxHeartbeats 4000000 in
set_option maxRecDepth 100000 in
theorem wl_X0_take_23 {p : Program} {l : Launch} {e : Env} {s : State} {m : MethodId} {args : Array Value} {below : List Frame} {meth : Method} {c : Code} {G : sj_G} {f0 : Nat} {Q : sj_W → Prop} {QX : String → sj_W → Prop} {E : sj_W → Prop} (hC : sj_C G p l s m args c cX0_take RX0 6) (hD : sj_D meth c) (hr : meth.sig.returnType = none) (hin : meth.name = "take") (hE : ∀ (w : sj_W) (H : Heap) (locs : List Loc) (ls : Array Slot), lv_has ls 6 [(0, .ref f0)] → sj_H G s w H locs → E w → W p l e rm_X0_take s m args below meth c H locs 0 0 (sj_MQ G below (va_Qv Q (sj_B G) (sj_F G)) QX args s rm_X0_take) (F0 m 61 ls [])) : ∀ (n : Nat) (v3 : Int32) (w : sj_W) (H : Heap) (locs : List Loc) (ls : Array Slot), lv_has ls 6 [(0, .ref f0), (3, .int v3)] → sj_H G s w H locs → sj_lp1 (vb_X0_take_23 f0 Q E) n v3 w → W p l e rm_X0_take s m args below meth c H locs 0 0 (sj_MQ G below (va_Qv Q (sj_B G) (sj_F G)) QX args s rm_X0_take) (F0 m 23 ls []) := by
  have hx := hC.1
  have hb := hC.2.1
  intro n
  induction n with
  | zero =>
    intro v3 w H locs ls _ _ hv
    exact hv.elim
  | succ n ih =>
    intro v3 w H locs ls hl hH hv
    have hv : vb_X0_take_23 f0 Q E (sj_lp1 (vb_X0_take_23 f0 Q E) n) v3 w := hv
    have hc1 : rm_X0_take.cells = 0 := rfl
    have hc2 : rm_X0_take.slots = 0 := rfl
    refine lv_iload_n hx hb dX0_take_23 rfl (lv_at hl 1 rfl) ?_
    refine lv_aload_n hx hb dX0_take_24 rfl (lv_at hl 0 rfl) ?_
    refine gf_X0_37 hC hH hv.1 dX0_take_25 ?_
    refine lv_icmp_gt (tgt := 61) hx hb dX0_take_28 (by decide) (fun hc => ?_) (fun hc => ?_)
    · have hv7 := hv.2.1 hc
      exact hE  w _ _ _ (lv_sub hl [0] rfl) hH hv7
    · have hv8 := hv.2.2 hc
      refine lv_aload_n hx hb dX0_take_31 rfl (lv_at hl 0 rfl) ?_
      refine gf_X0_11 hC hH hv8.1 hv8.2.1 dX0_take_32 ?_
      refine lv_iload_n hx hb dX0_take_35 rfl (lv_at hl 1 rfl) ?_
      refine sj_aaldI hC hH hv8.2.2.1 hv8.2.2.2.1 hv8.2.2.2.2.1 dX0_take_36 ?_
      refine lv_aload_n hx hb dX0_take_37 rfl (lv_at hl 0 rfl) ?_
      refine gf_X0_37 hC hH hv8.2.2.2.2.2.1 dX0_take_38 ?_
      refine lv_iconst (v := 0) hx hb dX0_take_41 (by decide) ?_
      refine sj_iast hC hH hv8.2.2.2.2.2.2.1 hv8.2.2.2.2.2.2.2.1 dX0_take_42 (fun w9 H locs e10 hH => ?_)
      refine lv_aload_n hx hb dX0_take_43 rfl (lv_at hl 0 rfl) ?_
      refine gf_X0_11 hC hH (hv8.2.2.2.2.2.2.2.2 w9 e10).1 (hv8.2.2.2.2.2.2.2.2 w9 e10).2.1 dX0_take_44 ?_
      refine lv_aload_n hx hb dX0_take_47 rfl (lv_at hl 0 rfl) ?_
      refine gf_X0_37 hC hH (hv8.2.2.2.2.2.2.2.2 w9 e10).2.2.1 dX0_take_48 ?_
      refine sj_aaldI hC hH (hv8.2.2.2.2.2.2.2.2 w9 e10).2.2.2.1 (hv8.2.2.2.2.2.2.2.2 w9 e10).2.2.2.2.1 (hv8.2.2.2.2.2.2.2.2 w9 e10).2.2.2.2.2.1 dX0_take_51 ?_
      refine lv_iload_n hx hb dX0_take_52 rfl (lv_at hl 1 rfl) ?_
      refine lv_iconst (v := 0) hx hb dX0_take_53 (by decide) ?_
      refine sj_iast hC hH (hv8.2.2.2.2.2.2.2.2 w9 e10).2.2.2.2.2.2.1 (hv8.2.2.2.2.2.2.2.2 w9 e10).2.2.2.2.2.2.2.1 dX0_take_54 (fun w11 H locs e12 hH => ?_)
      refine lv_iinc (v := (v3 + 1)) (lv' := [(3, .int (v3 + 1)), (0, .ref f0)]) hx hb dX0_take_55 hl (k := 1) rfl rfl (by decide) rfl (fun ls hl => ?_)
      refine lv_goto (tgt := 23) hx hb dX0_take_58 (by decide) ?_
      exact ih (v3 + 1) w11 _ _ _ (lv_sub hl [1, 0] rfl) hH ((hv8.2.2.2.2.2.2.2.2 w9 e10).2.2.2.2.2.2.2.2 w11 e12)
set_option maxHeartbeats 4000000 in
set_option maxRecDepth 100000 in
theorem wl_X0_take_80 {p : Program} {l : Launch} {e : Env} {s : State} {m : MethodId} {args : Array Value} {below : List Frame} {meth : Method} {c : Code} {G : sj_G} {f0 : Nat} {f3 : Int32} {Q : sj_W → Prop} {QX : String → sj_W → Prop} {E : sj_W → Prop} (hC : sj_C G p l s m args c cX0_take RX0 6) (hD : sj_D meth c) (hr : meth.sig.returnType = none) (hin : meth.name = "take") (hE : ∀ (w : sj_W) (H : Heap) (locs : List Loc) (ls : Array Slot), lv_has ls 6 [(0, .ref f0), (3, .int f3)] → sj_H G s w H locs → E w → W p l e rm_X0_take s m args below meth c H locs 0 0 (sj_MQ G below (va_Qv Q (sj_B G) (sj_F G)) QX args s rm_X0_take) (F0 m 148 ls [])) : ∀ (n : Nat) (v4 : Int32) (w : sj_W) (H : Heap) (locs : List Loc) (ls : Array Slot), lv_has ls 6 [(0, .ref f0), (3, .int f3), (4, .int v4)] → sj_H G s w H locs → sj_lp1 (vb_X0_take_80 f0 f3 Q E) n v4 w → W p l e rm_X0_take s m args below meth c H locs 0 0 (sj_MQ G below (va_Qv Q (sj_B G) (sj_F G)) QX args s rm_X0_take) (F0 m 80 ls []) := by
  have hx := hC.1
  have hb := hC.2.1
  intro n
  induction n with
  | zero =>
    intro v4 w H locs ls _ _ hv
    exact hv.elim
  | succ n ih =>
    intro v4 w H locs ls hl hH hv
    have hv : vb_X0_take_80 f0 f3 Q E (sj_lp1 (vb_X0_take_80 f0 f3 Q E) n) v4 w := hv
    have hc1 : rm_X0_take.cells = 0 := rfl
    have hc2 : rm_X0_take.slots = 0 := rfl
    refine lv_iload hx hb dX0_take_80 (lv_at hl 2 rfl) ?_
    refine lv_if_lt (tgt := 148) hx hb dX0_take_82 (by decide) (fun hc => ?_) (fun hc => ?_)
    · have hv16 := hv.1 hc
      exact hE  w _ _ _ (lv_sub hl [0, 1] rfl) hH hv16
    · have hv17 := hv.2 hc
      refine lv_aload_n hx hb dX0_take_85 rfl (lv_at hl 0 rfl) ?_
      refine gf_X0_26 hC hH hv17.1 hv17.2.1 dX0_take_86 ?_
      refine lv_iload_n hx hb dX0_take_89 rfl (lv_at hl 1 rfl) ?_
      refine sj_lald hC hH hv17.2.2.1 hv17.2.2.2.1 dX0_take_90 ?_
      refine lv_aload_n hx hb dX0_take_91 rfl (lv_at hl 0 rfl) ?_
      refine gf_X0_26 hC hH hv17.2.2.2.2.1 hv17.2.2.2.2.2.1 dX0_take_92 ?_
      refine lv_iload hx hb dX0_take_95 (lv_at hl 2 rfl) ?_
      refine sj_lald hC hH hv17.2.2.2.2.2.2.1 hv17.2.2.2.2.2.2.2.1 dX0_take_97 ?_
      refine W.lcmp hx hb dX0_take_98 ?_
      obtain ⟨E18, hE19, hv22⟩ := sj_jn1_e hv17.2.2.2.2.2.2.2.2
      have hJ20 : ∀ (y0_107 : Int32) (w_107 : sj_W) (H : Heap) (locs : List Loc) (ls : Array Slot), lv_has ls 6 [(0, .ref f0), (3, .int f3), (4, .int v4)] → sj_H G s w_107 H locs → E18 y0_107 w_107 → W p l e rm_X0_take s m args below meth c H locs 0 0 (sj_MQ G below (va_Qv Q (sj_B G) (sj_F G)) QX args s rm_X0_take) (F0 m 107 ls [.int y0_107]) := by
        intro y0_107 w_107 H locs ls hl hH hv23
        rw [hE19] at hv23
        refine lv_istore (lv' := [(5, .int y0_107), (0, .ref f0), (3, .int f3), (4, .int v4)]) hx hb dX0_take_107 hl (by decide) rfl (fun ls hl => ?_)
        refine lv_aload_n hx hb dX0_take_109 rfl (lv_at hl 1 rfl) ?_
        refine gf_X0_11 hC hH hv23.1 hv23.2.1 dX0_take_110 ?_
        refine lv_iload_n hx hb dX0_take_113 rfl (lv_at hl 2 rfl) ?_
        refine sj_aaldI hC hH hv23.2.2.1 hv23.2.2.2.1 hv23.2.2.2.2.1 dX0_take_114 ?_
        refine lv_iload hx hb dX0_take_115 (lv_at hl 3 rfl) ?_
        refine lv_iload hx hb dX0_take_117 (lv_at hl 0 rfl) ?_
        refine lv_if_eq (tgt := 140) hx hb dX0_take_119 (by decide) (fun hc => ?_) (fun hc => ?_)
        · have hv26 := hv23.2.2.2.2.2.1 hc
          refine lv_iconst (v := 0) hx hb dX0_take_140 (by decide) ?_
          refine sj_iast hC hH hv26.1 hv26.2.1 dX0_take_141 (fun w27 H locs e28 hH => ?_)
          refine lv_iinc (v := (v4 + (-1))) (lv' := [(4, .int (v4 + (-1))), (5, .int y0_107), (0, .ref f0), (3, .int f3)]) hx hb dX0_take_142 hl (k := 3) rfl rfl (by decide) rfl (fun ls hl => ?_)
          refine lv_goto (tgt := 80) hx hb dX0_take_145 (by decide) ?_
          exact ih (v4 + (-1)) w27 _ _ _ (lv_sub hl [2, 3, 0] rfl) hH (hv26.2.2 w27 e28)
        · have hv29 := hv23.2.2.2.2.2.2 hc
          refine lv_aload_n hx hb dX0_take_122 rfl (lv_at hl 1 rfl) ?_
          refine gf_X0_11 hC hH hv29.1 hv29.2.1 dX0_take_123 ?_
          refine lv_iload_n hx hb dX0_take_126 rfl (lv_at hl 2 rfl) ?_
          refine lv_iconst (v := 1) hx hb dX0_take_127 (by decide) ?_
          refine lv_iadd hx hb dX0_take_128 ?_
          refine sj_aaldI hC hH hv29.2.2.1 hv29.2.2.2.1 hv29.2.2.2.2.1 dX0_take_129 ?_
          refine lv_iload hx hb dX0_take_130 (lv_at hl 3 rfl) ?_
          refine lv_iconst (v := 1) hx hb dX0_take_132 (by decide) ?_
          refine lv_iadd hx hb dX0_take_133 ?_
          refine sj_iald hC hH hv29.2.2.2.2.2.1 hv29.2.2.2.2.2.2.1 dX0_take_134 ?_
          refine lv_iconst (v := 1) hx hb dX0_take_135 (by decide) ?_
          refine lv_iadd hx hb dX0_take_136 ?_
          refine lv_goto (tgt := 141) hx hb dX0_take_137 (by decide) ?_
          refine sj_iast hC hH hv29.2.2.2.2.2.2.2.1 hv29.2.2.2.2.2.2.2.2.1 dX0_take_141 (fun w30 H locs e31 hH => ?_)
          refine lv_iinc (v := (v4 + (-1))) (lv' := [(4, .int (v4 + (-1))), (5, .int y0_107), (0, .ref f0), (3, .int f3)]) hx hb dX0_take_142 hl (k := 3) rfl rfl (by decide) rfl (fun ls hl => ?_)
          refine lv_goto (tgt := 80) hx hb dX0_take_145 (by decide) ?_
          exact ih (v4 + (-1)) w30 _ _ _ (lv_sub hl [2, 3, 0] rfl) hH (hv29.2.2.2.2.2.2.2.2.2 w30 e31)
      clear hE19
      refine lv_if_ne (tgt := 106) hx hb dX0_take_99 (by decide) (fun hc => ?_) (fun hc => ?_)
      · have hv24 := hv22.1 hc
        refine lv_iconst (v := 0) hx hb dX0_take_106 (by decide) ?_
        exact hJ20 0 w _ _ _ (lv_sub hl [0, 1, 2] rfl) hH hv24
      · have hv25 := hv22.2 hc
        refine lv_iconst (v := 1) hx hb dX0_take_102 (by decide) ?_
        refine lv_goto (tgt := 107) hx hb dX0_take_103 (by decide) ?_
        exact hJ20 1 w _ _ _ (lv_sub hl [0, 1, 2] rfl) hH hv25
set_option maxHeartbeats 4000000 in
set_option maxRecDepth 100000 in
theorem wl_X0_take_68 {p : Program} {l : Launch} {e : Env} {s : State} {m : MethodId} {args : Array Value} {below : List Frame} {meth : Method} {c : Code} {G : sj_G} {f0 : Nat} {Q : sj_W → Prop} {QX : String → sj_W → Prop} {E : sj_W → Prop} (hC : sj_C G p l s m args c cX0_take RX0 6) (hD : sj_D meth c) (hr : meth.sig.returnType = none) (hin : meth.name = "take") (hE : ∀ (w : sj_W) (H : Heap) (locs : List Loc) (ls : Array Slot), lv_has ls 6 [] → sj_H G s w H locs → E w → W p l e rm_X0_take s m args below meth c H locs 0 0 (sj_MQ G below (va_Qv Q (sj_B G) (sj_F G)) QX args s rm_X0_take) (F0 m 154 ls [])) : ∀ (n : Nat) (v3 : Int32) (w : sj_W) (H : Heap) (locs : List Loc) (ls : Array Slot), lv_has ls 6 [(0, .ref f0), (3, .int v3)] → sj_H G s w H locs → sj_lp1 (vb_X0_take_68 f0 Q E) n v3 w → W p l e rm_X0_take s m args below meth c H locs 0 0 (sj_MQ G below (va_Qv Q (sj_B G) (sj_F G)) QX args s rm_X0_take) (F0 m 68 ls []) := by
  have hx := hC.1
  have hb := hC.2.1
  intro n
  induction n with
  | zero =>
    intro v3 w H locs ls _ _ hv
    exact hv.elim
  | succ n ih =>
    intro v3 w H locs ls hl hH hv
    have hv : vb_X0_take_68 f0 Q E (sj_lp1 (vb_X0_take_68 f0 Q E) n) v3 w := hv
    have hc1 : rm_X0_take.cells = 0 := rfl
    have hc2 : rm_X0_take.slots = 0 := rfl
    refine lv_iload_n hx hb dX0_take_68 rfl (lv_at hl 1 rfl) ?_
    refine lv_if_lt (tgt := 154) hx hb dX0_take_69 (by decide) (fun hc => ?_) (fun hc => ?_)
    · have hv14 := hv.1 hc
      exact hE  w _ _ _ (lv_sub hl [] rfl) hH hv14
    · have hv15 := hv.2 hc
      refine lv_aload_n hx hb dX0_take_72 rfl (lv_at hl 0 rfl) ?_
      refine gf_X0_37 hC hH hv15.1 dX0_take_73 ?_
      refine lv_iconst (v := 1) hx hb dX0_take_76 (by decide) ?_
      refine lv_isub hx hb dX0_take_77 ?_
      refine lv_istore (lv' := [(4, .int ((sj_I w 6 f0) - 1)), (0, .ref f0), (3, .int v3)]) hx hb dX0_take_78 hl (by decide) rfl (fun ls hl => ?_)
      refine wl_X0_take_80 hC hD hr hin (fun w_80 H locs ls hl hH hv32 => ?_) 64 ((sj_I w 6 f0) - 1) w _ _ _ (lv_sub hl [1, 2, 0] rfl) hH hv15.2
      refine lv_iinc (v := (v3 + (-1))) (lv' := [(3, .int (v3 + (-1))), (0, .ref f0)]) hx hb dX0_take_148 hl (k := 1) rfl rfl (by decide) rfl (fun ls hl => ?_)
      refine lv_goto (tgt := 68) hx hb dX0_take_151 (by decide) ?_
      exact ih (v3 + (-1)) w_80 _ _ _ (lv_sub hl [1, 0] rfl) hH hv32
set_option maxHeartbeats 4000000 in
set_option maxRecDepth 100000 in
theorem wk_X0_take (G : sj_G) (l : Launch) (hlt : l.stackTraces = false) (self : Nat) (a1 : Nat) (a2 : Int32) (w : sj_W) (Q : sj_W → Prop) (QX : String → sj_W → Prop) (hv : vc_X0_take self a1 a2 w Q) : sj_MV G l yX0_take (sj_ws yX0_take cX0_take 6 none) rm_X0_take [.ref self, .ref a1, .int a2] w Q QX := by
  refine sj_of (by decide +kernel) (Nat.le_of_ble_eq_true rfl) hlt ?_
  intro p e s m args below meth c ls hC hD hr hin hH hl
  have hx := hC.1
  have hb := hC.2.1
  have hl : lv_has ls 6 [(0, .ref self), (1, .ref a1), (2, .int a2)] := hl
  refine lv_aload_n hx hb dX0_take_0 rfl (lv_at hl 0 rfl) ?_
  refine lv_aload_n hx hb dX0_take_1 rfl (lv_at hl 1 rfl) ?_
  refine gf_X0_30 hC hH hv.1 hv.2.1 dX0_take_2 ?_
  refine pf_X0_26 hC hH hv.2.2.1 hv.2.2.2.1 dX0_take_5 (fun w1 H locs e2 hH => ?_)
  refine lv_aload_n hx hb dX0_take_8 rfl (lv_at hl 0 rfl) ?_
  refine lv_aload_n hx hb dX0_take_9 rfl (lv_at hl 1 rfl) ?_
  refine gf_X0_33 hC hH (hv.2.2.2.2 w1 e2).1 dX0_take_10 ?_
  refine pf_X0_37 hC hH (hv.2.2.2.2 w1 e2).2.1 dX0_take_13 (fun w3 H locs e4 hH => ?_)
  refine lv_aload_n hx hb dX0_take_16 rfl (lv_at hl 0 rfl) ?_
  refine lv_iload_n hx hb dX0_take_17 rfl (lv_at hl 2 rfl) ?_
  refine pf_X0_38 hC hH ((hv.2.2.2.2 w1 e2).2.2 w3 e4).1 ((hv.2.2.2.2 w1 e2).2.2 w3 e4).2.1 dX0_take_18 (fun w5 H locs e6 hH => ?_)
  refine lv_iconst (v := 0) hx hb dX0_take_21 (by decide) ?_
  refine lv_istore_n (lv' := [(3, .int 0), (0, .ref self), (1, .ref a1), (2, .int a2)]) hx hb dX0_take_22 rfl hl (by decide) rfl (fun ls hl => ?_)
  refine wl_X0_take_23 hC hD hr hin (fun w_23 H locs ls hl hH hv13 => ?_) 64 0 w5 _ _ _ (lv_sub hl [1, 0] rfl) hH (((hv.2.2.2.2 w1 e2).2.2 w3 e4).2.2 w5 e6)
  refine lv_aload_n hx hb dX0_take_61 rfl (lv_at hl 0 rfl) ?_
  refine gf_X0_37 hC hH hv13.1 dX0_take_62 ?_
  refine lv_iconst (v := 1) hx hb dX0_take_65 (by decide) ?_
  refine lv_isub hx hb dX0_take_66 ?_
  refine lv_istore_n (lv' := [(3, .int ((sj_I w_23 6 self) - 1)), (0, .ref self)]) hx hb dX0_take_67 rfl hl (by decide) rfl (fun ls hl => ?_)
  refine wl_X0_take_68 hC hD hr hin (fun w_68 H locs ls hl hH hv33 => ?_) 64 ((sj_I w_23 6 self) - 1) w_23 _ _ _ (lv_sub hl [1, 0] rfl) hH hv13.2
  exact sj_retV hC hD hH hr hv33 ⟨(Nat.le_of_ble_eq_true rfl), (Nat.le_of_ble_eq_true rfl)⟩ dX0_take_154
section SJL_X0_take
variable {p : Program} {l : Launch} {e : Env} {R : Room} {s : State} {m : MethodId} {args : Array Value} {below : List Frame} {meth : Method} {c : Code} {H : Heap} {locs : List Loc} {cells slots : Nat} {Q : State → Prop} {cc : ByteArray} {pc : Nat} {ls : Array Slot} {rest : List Value} {G : sj_G} {nL : Nat} {w : sj_W}
theorem cl_X6_151 {rmM : Room} {QcM : Array Value → State → Outcome → State → Prop} {QX : String → sj_W → Prop} {b : Nat} {b0 : Nat} {b1 : Int32} {Qi : sj_W → Prop} (hC : sj_C G p l s m args c cc RX6 nL) (hD : sj_D meth c) (hH : sj_H G s w H locs) (hv : vc_X0_take b b0 b1 w Qi) (hT : sj_T w b = 1) (hR : rm_X0_take.frames + 1 ≤ R.frames ∧ 8 + (6 + 11) + rm_X0_take.locals ≤ R.locals) (hf : cells + 0 ≤ R.cells ∧ slots + 0 ≤ R.slots) (hfM : cells + 0 ≤ rmM.cells ∧ slots + 0 ≤ rmM.slots) (hls : ls.size = nL) (hW : (rest.map fun v => v.category).sum ≤ 8) (hdg : decode cc pc = .ok (.invokevirtual 151, 3)) (kk : ∀ (w1 : sj_W) (H : Heap) (locs : List Loc), sj_H G s w1 H locs → Qi w1 → W p l e R s m args below meth c H locs (cells + 0) (slots + 0) (sj_MQ G below QcM QX args s rmM) (F0 m (pc + 3) ls rest)) : W p l e R s m args below meth c H locs cells slots (sj_MQ G below QcM QX args s rmM) (F0 m pc ls (.int b1 :: .ref b0 :: .ref b :: rest)) :=
  sj_cV hD hH (sj_runVN (n := 2) hC hH (As := [.ref b0, .int b1]) (wk_X0_take G l hC.2.2.2.2.2.2 b b0 b1 w Qi QX hv) (ci := 0) rfl (by decide) hT mb_481 mb_483 mb_s9 mb_2 mb_484 (by decide +kernel) hR hf rfl hls hW hdg) hfM kk
end SJL_X0_take
abbrev rm_X0_mostAlikeAhead : Room := { frames := 1, cells := 0, slots := 0, locals := 13 }
def vb_X0_mostAlikeAhead_4 (f0 : Nat) (f1 : Int32) (Q : Int32 → sj_W → Prop) (E : Int32 → sj_W → Prop) (K : Int32 → Int32 → sj_W → Prop) (v2 : Int32) (v3 : Int32) (w : sj_W) : Prop := ((f1 ≤ v3 → E v2 w) ∧ (¬ f1 ≤ v3 → sj_T w f0 = 1 ∧ sj_A w 0 f0 ≠ 0 ∧ sj_T w (sj_A w 0 f0) = 13 ∧ vp_in v3 (sj_N w (sj_A w 0 f0)) ∧ (sj_r w (sj_A w 0 f0) v3.toNatClampNeg) ≠ 0 ∧ sj_T w (sj_r w (sj_A w 0 f0) v3.toNatClampNeg) = 7 ∧ vp_in f1 (sj_N w (sj_r w (sj_A w 0 f0) v3.toNatClampNeg)) ∧ K (if v2 < (sj_i w (sj_r w (sj_A w 0 f0) v3.toNatClampNeg) f1.toNatClampNeg) then (sj_i w (sj_r w (sj_A w 0 f0) v3.toNatClampNeg) f1.toNatClampNeg) else v2) (v3 + 1) w))
def vc_X0_mostAlikeAhead (self : Nat) (a1 : Int32) (w : sj_W) (Q : Int32 → sj_W → Prop) : Prop := sj_lp2 (vb_X0_mostAlikeAhead_4 self a1 Q (fun z2_4 w_4 => Q z2_4 w_4)) 64 0 0 w
set_option maxHeartbeats 4000000 in
set_option maxRecDepth 100000 in
theorem wl_X0_mostAlikeAhead_4 {p : Program} {l : Launch} {e : Env} {s : State} {m : MethodId} {args : Array Value} {below : List Frame} {meth : Method} {c : Code} {G : sj_G} {f0 : Nat} {f1 : Int32} {Q : Int32 → sj_W → Prop} {QX : String → sj_W → Prop} {E : Int32 → sj_W → Prop} (hC : sj_C G p l s m args c cX0_mostAlikeAhead RX0 4) (hD : sj_D meth c) (hr : meth.sig.returnType = (some .int)) (hin : meth.name = "mostAlikeAhead") (hE : ∀ (v2 : Int32) (w : sj_W) (H : Heap) (locs : List Loc) (ls : Array Slot), lv_has ls 4 [(2, .int v2)] → sj_H G s w H locs → E v2 w → W p l e rm_X0_mostAlikeAhead s m args below meth c H locs 0 0 (sj_MQ G below (va_Qi Q (sj_B G) (sj_F G)) QX args s rm_X0_mostAlikeAhead) (F0 m 28 ls [])) : ∀ (n : Nat) (v2 : Int32) (v3 : Int32) (w : sj_W) (H : Heap) (locs : List Loc) (ls : Array Slot), lv_has ls 4 [(0, .ref f0), (1, .int f1), (2, .int v2), (3, .int v3)] → sj_H G s w H locs → sj_lp2 (vb_X0_mostAlikeAhead_4 f0 f1 Q E) n v2 v3 w → W p l e rm_X0_mostAlikeAhead s m args below meth c H locs 0 0 (sj_MQ G below (va_Qi Q (sj_B G) (sj_F G)) QX args s rm_X0_mostAlikeAhead) (F0 m 4 ls []) := by
  have hx := hC.1
  have hb := hC.2.1
  intro n
  induction n with
  | zero =>
    intro v2 v3 w H locs ls _ _ hv
    exact hv.elim
  | succ n ih =>
    intro v2 v3 w H locs ls hl hH hv
    have hv : vb_X0_mostAlikeAhead_4 f0 f1 Q E (sj_lp2 (vb_X0_mostAlikeAhead_4 f0 f1 Q E) n) v2 v3 w := hv
    have hc1 : rm_X0_mostAlikeAhead.cells = 0 := rfl
    have hc2 : rm_X0_mostAlikeAhead.slots = 0 := rfl
    refine lv_iload_n hx hb dX0_mostAlikeAhead_4 rfl (lv_at hl 3 rfl) ?_
    refine lv_iload_n hx hb dX0_mostAlikeAhead_5 rfl (lv_at hl 1 rfl) ?_
    refine lv_icmp_ge (tgt := 28) hx hb dX0_mostAlikeAhead_6 (by decide) (fun hc => ?_) (fun hc => ?_)
    · have hv1 := hv.1 hc
      exact hE v2 w _ _ _ (lv_sub hl [2] rfl) hH hv1
    · have hv2 := hv.2 hc
      refine lv_iload_n hx hb dX0_mostAlikeAhead_9 rfl (lv_at hl 2 rfl) ?_
      refine lv_aload_n hx hb dX0_mostAlikeAhead_10 rfl (lv_at hl 0 rfl) ?_
      refine gf_X0_11 hC hH hv2.1 hv2.2.1 dX0_mostAlikeAhead_11 ?_
      refine lv_iload_n hx hb dX0_mostAlikeAhead_14 rfl (lv_at hl 3 rfl) ?_
      refine sj_aaldI hC hH hv2.2.2.1 hv2.2.2.2.1 hv2.2.2.2.2.1 dX0_mostAlikeAhead_15 ?_
      refine lv_iload_n hx hb dX0_mostAlikeAhead_16 rfl (lv_at hl 1 rfl) ?_
      refine sj_iald hC hH hv2.2.2.2.2.2.1 hv2.2.2.2.2.2.2.1 dX0_mostAlikeAhead_17 ?_
      refine va_mmax hx hb (hC.2.2.1.trans hl.1.symm) hC.2.2.2.1 (hC.2.2.2.2.1 _ mb_509) (hC.2.2.2.2.1 _ mb_510) (hC.2.2.2.2.1 _ mb_13) (hC.2.2.2.2.1 _ mb_511) (Nat.le_of_ble_eq_true rfl) (Nat.le_of_ble_eq_true rfl) (Nat.le_of_ble_eq_true rfl) (Nat.le_of_ble_eq_true rfl) dX0_mostAlikeAhead_18 ?_
      refine lv_istore_n (lv' := [(2, .int (if v2 < (sj_i w (sj_r w (sj_A w 0 f0) v3.toNatClampNeg) f1.toNatClampNeg) then (sj_i w (sj_r w (sj_A w 0 f0) v3.toNatClampNeg) f1.toNatClampNeg) else v2)), (0, .ref f0), (1, .int f1), (3, .int v3)]) hx hb dX0_mostAlikeAhead_21 rfl hl (by decide) rfl (fun ls hl => ?_)
      refine lv_iinc (v := (v3 + 1)) (lv' := [(3, .int (v3 + 1)), (2, .int (if v2 < (sj_i w (sj_r w (sj_A w 0 f0) v3.toNatClampNeg) f1.toNatClampNeg) then (sj_i w (sj_r w (sj_A w 0 f0) v3.toNatClampNeg) f1.toNatClampNeg) else v2)), (0, .ref f0), (1, .int f1)]) hx hb dX0_mostAlikeAhead_22 hl (k := 3) rfl rfl (by decide) rfl (fun ls hl => ?_)
      refine lv_goto (tgt := 4) hx hb dX0_mostAlikeAhead_25 (by decide) ?_
      exact ih (if v2 < (sj_i w (sj_r w (sj_A w 0 f0) v3.toNatClampNeg) f1.toNatClampNeg) then (sj_i w (sj_r w (sj_A w 0 f0) v3.toNatClampNeg) f1.toNatClampNeg) else v2) (v3 + 1) w _ _ _ (lv_sub hl [2, 3, 1, 0] rfl) hH hv2.2.2.2.2.2.2.2
set_option maxHeartbeats 4000000 in
set_option maxRecDepth 100000 in
theorem wk_X0_mostAlikeAhead (G : sj_G) (l : Launch) (hlt : l.stackTraces = false) (self : Nat) (a1 : Int32) (w : sj_W) (Q : Int32 → sj_W → Prop) (QX : String → sj_W → Prop) (hv : vc_X0_mostAlikeAhead self a1 w Q) : sj_MI G l yX0_mostAlikeAhead (sj_ws yX0_mostAlikeAhead cX0_mostAlikeAhead 4 (some .int)) rm_X0_mostAlikeAhead [.ref self, .int a1] w Q QX := by
  refine sj_of (by decide +kernel) (Nat.le_of_ble_eq_true rfl) hlt ?_
  intro p e s m args below meth c ls hC hD hr hin hH hl
  have hx := hC.1
  have hb := hC.2.1
  have hl : lv_has ls 4 [(0, .ref self), (1, .int a1)] := hl
  refine lv_iconst (v := 0) hx hb dX0_mostAlikeAhead_0 (by decide) ?_
  refine lv_istore_n (lv' := [(2, .int 0), (0, .ref self), (1, .int a1)]) hx hb dX0_mostAlikeAhead_1 rfl hl (by decide) rfl (fun ls hl => ?_)
  refine lv_iconst (v := 0) hx hb dX0_mostAlikeAhead_2 (by decide) ?_
  refine lv_istore_n (lv' := [(3, .int 0), (2, .int 0), (0, .ref self), (1, .int a1)]) hx hb dX0_mostAlikeAhead_3 rfl hl (by decide) rfl (fun ls hl => ?_)
  refine wl_X0_mostAlikeAhead_4 hC hD hr hin (fun z2_4 w_4 H locs ls hl hH hv3 => ?_) 64 0 0 w _ _ _ (lv_sub hl [2, 3, 1, 0] rfl) hH hv
  refine lv_iload_n hx hb dX0_mostAlikeAhead_28 rfl (lv_at hl 0 rfl) ?_
  exact sj_retI hC hD hH hr rfl hv3 ⟨(Nat.le_of_ble_eq_true rfl), (Nat.le_of_ble_eq_true rfl)⟩ dX0_mostAlikeAhead_29
section SJL_X0_mostAlikeAhead
variable {p : Program} {l : Launch} {e : Env} {R : Room} {s : State} {m : MethodId} {args : Array Value} {below : List Frame} {meth : Method} {c : Code} {H : Heap} {locs : List Loc} {cells slots : Nat} {Q : State → Prop} {cc : ByteArray} {pc : Nat} {ls : Array Slot} {rest : List Value} {G : sj_G} {nL : Nat} {w : sj_W}
theorem cl_X0_50 {rmM : Room} {QcM : Array Value → State → Outcome → State → Prop} {QX : String → sj_W → Prop} {b : Nat} {b0 : Int32} {Qi : Int32 → sj_W → Prop} (hC : sj_C G p l s m args c cc RX0 nL) (hD : sj_D meth c) (hH : sj_H G s w H locs) (hv : vc_X0_mostAlikeAhead b b0 w Qi) (hT : sj_T w b = 1) (hR : rm_X0_mostAlikeAhead.frames + 1 ≤ R.frames ∧ 8 + (4 + 11) + rm_X0_mostAlikeAhead.locals ≤ R.locals) (hf : cells + 0 ≤ R.cells ∧ slots + 0 ≤ R.slots) (hfM : cells + 0 ≤ rmM.cells ∧ slots + 0 ≤ rmM.slots) (hls : ls.size = nL) (hW : (rest.map fun v => v.category).sum ≤ 8) (hdg : decode cc pc = .ok (.invokevirtual 50, 3)) (kk : ∀ (r : Int32) (w1 : sj_W) (H : Heap) (locs : List Loc), sj_H G s w1 H locs → Qi r w1 → W p l e R s m args below meth c H locs (cells + 0) (slots + 0) (sj_MQ G below QcM QX args s rmM) (F0 m (pc + 3) ls (.int r :: rest))) : W p l e R s m args below meth c H locs cells slots (sj_MQ G below QcM QX args s rmM) (F0 m pc ls (.int b0 :: .ref b :: rest)) :=
  sj_cI hD hH (sj_runV (n := 1) hC hH (As := [.int b0]) (wk_X0_mostAlikeAhead G l hC.2.2.2.2.2.2 b b0 w Qi QX hv) (ci := 0) rfl (by decide) hT mb_505 mb_507 mb_s13 mb_2 mb_508 (by decide +kernel) hR hf rfl hls hW hdg) hfM kk
end SJL_X0_mostAlikeAhead
abbrev rm_X0_countWords : Room := { frames := 2, cells := 0, slots := 0, locals := 36 }
def vb_X0_countWords_4 (f0 : Nat) (Q : Int32 → sj_W → Prop) (E : Int32 → sj_W → Prop) (K : Int32 → Int32 → sj_W → Prop) (v1 : Int32) (v2 : Int32) (w : sj_W) : Prop := sj_T w f0 = 1 ∧ (((sj_I w 6 f0) ≤ v2 → E v1 w) ∧ (¬ (sj_I w 6 f0) ≤ v2 → sj_T w f0 = 1 ∧ sj_T w f0 = 1 ∧ vc_X0_mostAlikeAhead f0 v2 w (fun r3 w4 => K (v1 + (((sj_I w 6 f0) - v2) - r3)) (v2 + 1) w4)))
def vc_X0_countWords (self : Nat) (w : sj_W) (Q : Int32 → sj_W → Prop) : Prop := sj_lp2 (vb_X0_countWords_4 self Q (fun z1_4 w_4 => Q z1_4 w_4)) 64 0 0 w
set_option maxHeartbeats 4000000 in
set_option maxRecDepth 100000 in
theorem wl_X0_countWords_4 {p : Program} {l : Launch} {e : Env} {s : State} {m : MethodId} {args : Array Value} {below : List Frame} {meth : Method} {c : Code} {G : sj_G} {f0 : Nat} {Q : Int32 → sj_W → Prop} {QX : String → sj_W → Prop} {E : Int32 → sj_W → Prop} (hC : sj_C G p l s m args c cX0_countWords RX0 3) (hD : sj_D meth c) (hr : meth.sig.returnType = (some .int)) (hin : meth.name = "countWords") (hE : ∀ (v1 : Int32) (w : sj_W) (H : Heap) (locs : List Loc) (ls : Array Slot), lv_has ls 3 [(1, .int v1)] → sj_H G s w H locs → E v1 w → W p l e rm_X0_countWords s m args below meth c H locs 0 0 (sj_MQ G below (va_Qi Q (sj_B G) (sj_F G)) QX args s rm_X0_countWords) (F0 m 33 ls [])) : ∀ (n : Nat) (v1 : Int32) (v2 : Int32) (w : sj_W) (H : Heap) (locs : List Loc) (ls : Array Slot), lv_has ls 3 [(0, .ref f0), (1, .int v1), (2, .int v2)] → sj_H G s w H locs → sj_lp2 (vb_X0_countWords_4 f0 Q E) n v1 v2 w → W p l e rm_X0_countWords s m args below meth c H locs 0 0 (sj_MQ G below (va_Qi Q (sj_B G) (sj_F G)) QX args s rm_X0_countWords) (F0 m 4 ls []) := by
  have hx := hC.1
  have hb := hC.2.1
  intro n
  induction n with
  | zero =>
    intro v1 v2 w H locs ls _ _ hv
    exact hv.elim
  | succ n ih =>
    intro v1 v2 w H locs ls hl hH hv
    have hv : vb_X0_countWords_4 f0 Q E (sj_lp2 (vb_X0_countWords_4 f0 Q E) n) v1 v2 w := hv
    have hc1 : rm_X0_countWords.cells = 0 := rfl
    have hc2 : rm_X0_countWords.slots = 0 := rfl
    refine lv_iload_n hx hb dX0_countWords_4 rfl (lv_at hl 2 rfl) ?_
    refine lv_aload_n hx hb dX0_countWords_5 rfl (lv_at hl 0 rfl) ?_
    refine gf_X0_37 hC hH hv.1 dX0_countWords_6 ?_
    refine lv_icmp_ge (tgt := 33) hx hb dX0_countWords_9 (by decide) (fun hc => ?_) (fun hc => ?_)
    · have hv1 := hv.2.1 hc
      exact hE v1 w _ _ _ (lv_sub hl [1] rfl) hH hv1
    · have hv2 := hv.2.2 hc
      refine lv_iload_n hx hb dX0_countWords_12 rfl (lv_at hl 1 rfl) ?_
      refine lv_aload_n hx hb dX0_countWords_13 rfl (lv_at hl 0 rfl) ?_
      refine gf_X0_37 hC hH hv2.1 dX0_countWords_14 ?_
      refine lv_iload_n hx hb dX0_countWords_17 rfl (lv_at hl 2 rfl) ?_
      refine lv_isub hx hb dX0_countWords_18 ?_
      refine lv_aload_n hx hb dX0_countWords_19 rfl (lv_at hl 0 rfl) ?_
      refine lv_iload_n hx hb dX0_countWords_20 rfl (lv_at hl 2 rfl) ?_
      refine cl_X0_50 hC hD hH hv2.2.2 hv2.2.1 ⟨Nat.le_of_ble_eq_true rfl, Nat.le_of_ble_eq_true rfl⟩ ⟨(Nat.le_of_ble_eq_true rfl), (Nat.le_of_ble_eq_true rfl)⟩ ⟨(Nat.le_of_ble_eq_true rfl), (Nat.le_of_ble_eq_true rfl)⟩ hl.1 (Nat.le_of_ble_eq_true rfl) dX0_countWords_21 (fun r3 w4 H locs hH hv5 => ?_)
      refine lv_isub hx hb dX0_countWords_24 ?_
      refine lv_iadd hx hb dX0_countWords_25 ?_
      refine lv_istore_n (lv' := [(1, .int (v1 + (((sj_I w 6 f0) - v2) - r3))), (0, .ref f0), (2, .int v2)]) hx hb dX0_countWords_26 rfl hl (by decide) rfl (fun ls hl => ?_)
      refine lv_iinc (v := (v2 + 1)) (lv' := [(2, .int (v2 + 1)), (1, .int (v1 + (((sj_I w 6 f0) - v2) - r3))), (0, .ref f0)]) hx hb dX0_countWords_27 hl (k := 2) rfl rfl (by decide) rfl (fun ls hl => ?_)
      refine lv_goto (tgt := 4) hx hb dX0_countWords_30 (by decide) ?_
      exact ih (v1 + (((sj_I w 6 f0) - v2) - r3)) (v2 + 1) w4 _ _ _ (lv_sub hl [2, 1, 0] rfl) hH hv5
set_option maxHeartbeats 4000000 in
set_option maxRecDepth 100000 in
theorem wk_X0_countWords (G : sj_G) (l : Launch) (hlt : l.stackTraces = false) (self : Nat) (w : sj_W) (Q : Int32 → sj_W → Prop) (QX : String → sj_W → Prop) (hv : vc_X0_countWords self w Q) : sj_MI G l yX0_countWords (sj_ws yX0_countWords cX0_countWords 3 (some .int)) rm_X0_countWords [.ref self] w Q QX := by
  refine sj_of (by decide +kernel) (Nat.le_of_ble_eq_true rfl) hlt ?_
  intro p e s m args below meth c ls hC hD hr hin hH hl
  have hx := hC.1
  have hb := hC.2.1
  have hl : lv_has ls 3 [(0, .ref self)] := hl
  refine lv_iconst (v := 0) hx hb dX0_countWords_0 (by decide) ?_
  refine lv_istore_n (lv' := [(1, .int 0), (0, .ref self)]) hx hb dX0_countWords_1 rfl hl (by decide) rfl (fun ls hl => ?_)
  refine lv_iconst (v := 0) hx hb dX0_countWords_2 (by decide) ?_
  refine lv_istore_n (lv' := [(2, .int 0), (1, .int 0), (0, .ref self)]) hx hb dX0_countWords_3 rfl hl (by decide) rfl (fun ls hl => ?_)
  refine wl_X0_countWords_4 hC hD hr hin (fun z1_4 w_4 H locs ls hl hH hv6 => ?_) 64 0 0 w _ _ _ (lv_sub hl [2, 1, 0] rfl) hH hv
  refine lv_iload_n hx hb dX0_countWords_33 rfl (lv_at hl 0 rfl) ?_
  exact sj_retI hC hD hH hr rfl hv6 ⟨(Nat.le_of_ble_eq_true rfl), (Nat.le_of_ble_eq_true rfl)⟩ dX0_countWords_34
section SJL_X0_countWords
variable {p : Program} {l : Launch} {e : Env} {R : Room} {s : State} {m : MethodId} {args : Array Value} {below : List Frame} {meth : Method} {c : Code} {H : Heap} {locs : List Loc} {cells slots : Nat} {Q : State → Prop} {cc : ByteArray} {pc : Nat} {ls : Array Slot} {rest : List Value} {G : sj_G} {nL : Nat} {w : sj_W}
theorem cl_X6_161 {rmM : Room} {QcM : Array Value → State → Outcome → State → Prop} {QX : String → sj_W → Prop} {b : Nat} {Qi : Int32 → sj_W → Prop} (hC : sj_C G p l s m args c cc RX6 nL) (hD : sj_D meth c) (hH : sj_H G s w H locs) (hv : vc_X0_countWords b w Qi) (hT : sj_T w b = 1) (hR : rm_X0_countWords.frames + 1 ≤ R.frames ∧ 8 + (3 + 11) + rm_X0_countWords.locals ≤ R.locals) (hf : cells + 0 ≤ R.cells ∧ slots + 0 ≤ R.slots) (hfM : cells + 0 ≤ rmM.cells ∧ slots + 0 ≤ rmM.slots) (hls : ls.size = nL) (hW : (rest.map fun v => v.category).sum ≤ 8) (hdg : decode cc pc = .ok (.invokevirtual 161, 3)) (kk : ∀ (r : Int32) (w1 : sj_W) (H : Heap) (locs : List Loc), sj_H G s w1 H locs → Qi r w1 → W p l e R s m args below meth c H locs (cells + 0) (slots + 0) (sj_MQ G below QcM QX args s rmM) (F0 m (pc + 3) ls (.int r :: rest))) : W p l e R s m args below meth c H locs cells slots (sj_MQ G below QcM QX args s rmM) (F0 m pc ls (.ref b :: rest)) :=
  sj_cI hD hH (sj_runVN (n := 0) hC hH (As := []) (wk_X0_countWords G l hC.2.2.2.2.2.2 b w Qi QX hv) (ci := 0) rfl (by decide) hT mb_501 mb_503 mb_s12 mb_2 mb_504 (by decide +kernel) hR hf rfl hls hW hdg) hfM kk
theorem cl_X2_21 {rmM : Room} {QcM : Array Value → State → Outcome → State → Prop} {QX : String → sj_W → Prop} {b : Nat} {Qi : Int32 → sj_W → Prop} (hC : sj_C G p l s m args c cc RX2 nL) (hD : sj_D meth c) (hH : sj_H G s w H locs) (hv : vc_X0_countWords b w Qi) (hT : sj_T w b = 1) (hR : rm_X0_countWords.frames + 1 ≤ R.frames ∧ 8 + (3 + 11) + rm_X0_countWords.locals ≤ R.locals) (hf : cells + 0 ≤ R.cells ∧ slots + 0 ≤ R.slots) (hfM : cells + 0 ≤ rmM.cells ∧ slots + 0 ≤ rmM.slots) (hls : ls.size = nL) (hW : (rest.map fun v => v.category).sum ≤ 8) (hdg : decode cc pc = .ok (.invokevirtual 21, 3)) (kk : ∀ (r : Int32) (w1 : sj_W) (H : Heap) (locs : List Loc), sj_H G s w1 H locs → Qi r w1 → W p l e R s m args below meth c H locs (cells + 0) (slots + 0) (sj_MQ G below QcM QX args s rmM) (F0 m (pc + 3) ls (.int r :: rest))) : W p l e R s m args below meth c H locs cells slots (sj_MQ G below QcM QX args s rmM) (F0 m pc ls (.ref b :: rest)) :=
  sj_cI hD hH (sj_runVN (n := 0) hC hH (As := []) (wk_X0_countWords G l hC.2.2.2.2.2.2 b w Qi QX hv) (ci := 0) rfl (by decide) hT mb_671 mb_503 mb_s12 mb_2 mb_504 (by decide +kernel) hR hf rfl hls hW hdg) hfM kk
end SJL_X0_countWords
abbrev rm_X6_distinct : Room := { frames := 8, cells := 2, slots := 12, locals := 124 }
def vc_X6_distinct (self : Nat) (a1 : Int32) (a2 : Int32) (w : sj_W) (Q : Int32 → sj_W → Prop) (QX : String → sj_W → Prop) : Prop := sj_T w self = 5 ∧ sj_A w 35 self ≠ 0 ∧ vc_X6_kindOf a1 w (fun r1 w2 => sj_T w2 self = 5 ∧ vc_X6_rowOf self r1 a2 w2 (fun r4 w5 => sj_T w5 (sj_A w 35 self) = 1 ∧ vc_X0_take (sj_A w 35 self) r4 0 w5 (fun w8 => sj_T w8 self = 5 ∧ sj_A w8 35 self ≠ 0 ∧ sj_T w8 (sj_A w8 35 self) = 1 ∧ vc_X0_countWords (sj_A w8 35 self) w8 (fun r10 w11 => Q r10 w11))) QX) QX
set_option maxHeartbeats 4000000 in
set_option maxRecDepth 100000 in
theorem wk_X6_distinct (G : sj_G) (l : Launch) (hlt : l.stackTraces = false) (self : Nat) (a1 : Int32) (a2 : Int32) (w : sj_W) (Q : Int32 → sj_W → Prop) (QX : String → sj_W → Prop) (hv : vc_X6_distinct self a1 a2 w Q QX) : sj_MI G l yX6_distinct (sj_ws yX6_distinct cX6_distinct 3 (some .int)) rm_X6_distinct [.ref self, .int a1, .int a2] w Q QX := by
  refine sj_of (by decide +kernel) (Nat.le_of_ble_eq_true rfl) hlt ?_
  intro p e s m args below meth c ls hC hD hr hin hH hl
  have hx := hC.1
  have hb := hC.2.1
  have hl : lv_has ls 3 [(0, .ref self), (1, .int a1), (2, .int a2)] := hl
  refine lv_aload_n hx hb dX6_distinct_0 rfl (lv_at hl 0 rfl) ?_
  refine gf_X6_28 hC hH hv.1 hv.2.1 dX6_distinct_1 ?_
  refine lv_aload_n hx hb dX6_distinct_4 rfl (lv_at hl 0 rfl) ?_
  refine lv_iload_n hx hb dX6_distinct_5 rfl (lv_at hl 1 rfl) ?_
  refine cl_X6_34 hC hD hH hv.2.2 ⟨Nat.le_of_ble_eq_true rfl, Nat.le_of_ble_eq_true rfl⟩ ⟨(Nat.le_of_ble_eq_true rfl), (Nat.le_of_ble_eq_true rfl)⟩ ⟨(Nat.le_of_ble_eq_true rfl), (Nat.le_of_ble_eq_true rfl)⟩ hl.1 (Nat.le_of_ble_eq_true rfl) dX6_distinct_6 (fun r1 w2 H locs hH hv3 => ?_)
  refine lv_iload_n hx hb dX6_distinct_9 rfl (lv_at hl 2 rfl) ?_
  refine cl_X6_42 hC hD hH hv3.2 hv3.1 ⟨Nat.le_of_ble_eq_true rfl, Nat.le_of_ble_eq_true rfl⟩ ⟨(Nat.le_of_ble_eq_true rfl), (Nat.le_of_ble_eq_true rfl)⟩ ⟨(Nat.le_of_ble_eq_true rfl), (Nat.le_of_ble_eq_true rfl)⟩ hl.1 (Nat.le_of_ble_eq_true rfl) dX6_distinct_10 (fun r4 w5 H locs hH hv6 => ?_)
  refine lv_iconst (v := 0) hx hb dX6_distinct_13 (by decide) ?_
  refine cl_X6_151 hC hD hH hv6.2 hv6.1 ⟨Nat.le_of_ble_eq_true rfl, Nat.le_of_ble_eq_true rfl⟩ ⟨(Nat.le_of_ble_eq_true rfl), (Nat.le_of_ble_eq_true rfl)⟩ ⟨(Nat.le_of_ble_eq_true rfl), (Nat.le_of_ble_eq_true rfl)⟩ hl.1 (Nat.le_of_ble_eq_true rfl) dX6_distinct_14 (fun w8 H locs hH hv9 => ?_)
  refine lv_aload_n hx hb dX6_distinct_17 rfl (lv_at hl 0 rfl) ?_
  refine gf_X6_28 hC hH hv9.1 hv9.2.1 dX6_distinct_18 ?_
  refine cl_X6_161 hC hD hH hv9.2.2.2 hv9.2.2.1 ⟨Nat.le_of_ble_eq_true rfl, Nat.le_of_ble_eq_true rfl⟩ ⟨(Nat.le_of_ble_eq_true rfl), (Nat.le_of_ble_eq_true rfl)⟩ ⟨(Nat.le_of_ble_eq_true rfl), (Nat.le_of_ble_eq_true rfl)⟩ hl.1 (Nat.le_of_ble_eq_true rfl) dX6_distinct_21 (fun r10 w11 H locs hH hv12 => ?_)
  exact sj_retI hC hD hH hr rfl hv12 ⟨(Nat.le_of_ble_eq_true rfl), (Nat.le_of_ble_eq_true rfl)⟩ dX6_distinct_24
abbrev rm_X6_isUnsigned : Room := { frames := 6, cells := 1, slots := 6, locals := 82 }
def vc_X6_isUnsigned (a1 : Int32) (w : sj_W) (Q : Int32 → sj_W → Prop) (QX : String → sj_W → Prop) : Prop := ((a1 = 115 → ((¬ a1 = 117 → Q 0 w) ∧ (a1 = 117 → Q 1 w))) ∧ (¬ a1 = 115 → ((a1 = 117 → ((¬ a1 = 117 → Q 0 w) ∧ (a1 = 117 → Q 1 w))) ∧ (¬ a1 = 117 → QX "java/lang/IllegalArgumentException" w))))
set_option maxHeartbeats 4000000 in
set_option maxRecDepth 100000 in
theorem wk_X6_isUnsigned (G : sj_G) (l : Launch) (hlt : l.stackTraces = false) (a1 : Int32) (w : sj_W) (Q : Int32 → sj_W → Prop) (QX : String → sj_W → Prop) (hv : vc_X6_isUnsigned a1 w Q QX) : sj_MI G l yX6_isUnsigned (sj_ws yX6_isUnsigned cX6_isUnsigned 1 (some .boolean)) rm_X6_isUnsigned [.int a1] w Q QX := by
  refine sj_of (by decide +kernel) (Nat.le_of_ble_eq_true rfl) hlt ?_
  intro p e s m args below meth c ls hC hD hr hin hH hl
  have hx := hC.1
  have hb := hC.2.1
  have hl : lv_has ls 1 [(0, .int a1)] := hl
  refine lv_iload_n hx hb dX6_isUnsigned_0 rfl (lv_at hl 0 rfl) ?_
  refine lv_bipush (v := 115) hx hb dX6_isUnsigned_1 (by decide) ?_
  refine lv_icmp_eq (tgt := 22) hx hb dX6_isUnsigned_3 (by decide) (fun hc => ?_) (fun hc => ?_)
  · have hv1 := hv.1 hc
    refine lv_iload_n hx hb dX6_isUnsigned_22 rfl (lv_at hl 0 rfl) ?_
    refine lv_bipush (v := 117) hx hb dX6_isUnsigned_23 (by decide) ?_
    refine lv_icmp_ne (tgt := 32) hx hb dX6_isUnsigned_25 (by decide) (fun hc => ?_) (fun hc => ?_)
    · have hv2 := hv1.1 hc
      refine lv_iconst (v := 0) hx hb dX6_isUnsigned_32 (by decide) ?_
      exact sj_retI hC hD hH hr rfl hv2 ⟨(Nat.le_of_ble_eq_true rfl), (Nat.le_of_ble_eq_true rfl)⟩ dX6_isUnsigned_33
    · have hv3 := hv1.2 hc
      refine lv_iconst (v := 1) hx hb dX6_isUnsigned_28 (by decide) ?_
      refine lv_goto (tgt := 33) hx hb dX6_isUnsigned_29 (by decide) ?_
      exact sj_retI hC hD hH hr rfl hv3 ⟨(Nat.le_of_ble_eq_true rfl), (Nat.le_of_ble_eq_true rfl)⟩ dX6_isUnsigned_33
  · have hv4 := hv.2 hc
    refine lv_iload_n hx hb dX6_isUnsigned_6 rfl (lv_at hl 0 rfl) ?_
    refine lv_bipush (v := 117) hx hb dX6_isUnsigned_7 (by decide) ?_
    refine lv_icmp_eq (tgt := 22) hx hb dX6_isUnsigned_9 (by decide) (fun hc => ?_) (fun hc => ?_)
    · have hv5 := hv4.1 hc
      refine lv_iload_n hx hb dX6_isUnsigned_22 rfl (lv_at hl 0 rfl) ?_
      refine lv_bipush (v := 117) hx hb dX6_isUnsigned_23 (by decide) ?_
      refine lv_icmp_ne (tgt := 32) hx hb dX6_isUnsigned_25 (by decide) (fun hc => ?_) (fun hc => ?_)
      · have hv6 := hv5.1 hc
        refine lv_iconst (v := 0) hx hb dX6_isUnsigned_32 (by decide) ?_
        exact sj_retI hC hD hH hr rfl hv6 ⟨(Nat.le_of_ble_eq_true rfl), (Nat.le_of_ble_eq_true rfl)⟩ dX6_isUnsigned_33
      · have hv7 := hv5.2 hc
        refine lv_iconst (v := 1) hx hb dX6_isUnsigned_28 (by decide) ?_
        refine lv_goto (tgt := 33) hx hb dX6_isUnsigned_29 (by decide) ?_
        exact sj_retI hC hD hH hr rfl hv7 ⟨(Nat.le_of_ble_eq_true rfl), (Nat.le_of_ble_eq_true rfl)⟩ dX6_isUnsigned_33
    · have hv8 := hv4.2 hc
      exact th_X6_225_69 hC hD hH hl.1 dX6_isUnsigned_12 dX6_isUnsigned_15 dX6_isUnsigned_16 dX6_isUnsigned_18 dX6_isUnsigned_21 ⟨Nat.le_of_ble_eq_true rfl, Nat.le_of_ble_eq_true rfl⟩ ⟨(Nat.le_of_ble_eq_true rfl), (Nat.le_of_ble_eq_true rfl)⟩ ⟨(Nat.le_of_ble_eq_true rfl), (Nat.le_of_ble_eq_true rfl)⟩ hv8
section SJL_X6_isUnsigned
variable {p : Program} {l : Launch} {e : Env} {R : Room} {s : State} {m : MethodId} {args : Array Value} {below : List Frame} {meth : Method} {c : Code} {H : Heap} {locs : List Loc} {cells slots : Nat} {Q : State → Prop} {cc : ByteArray} {pc : Nat} {ls : Array Slot} {rest : List Value} {G : sj_G} {nL : Nat} {w : sj_W}
theorem cl_X6_133 {rmM : Room} {QcM : Array Value → State → Outcome → State → Prop} {QX : String → sj_W → Prop} {b0 : Int32} {Qi : Int32 → sj_W → Prop} (hC : sj_C G p l s m args c cc RX6 nL) (hD : sj_D meth c) (hH : sj_H G s w H locs) (hv : vc_X6_isUnsigned b0 w Qi QX) (hR : rm_X6_isUnsigned.frames + 1 ≤ R.frames ∧ 8 + (1 + 11) + rm_X6_isUnsigned.locals ≤ R.locals) (hf : cells + 1 ≤ R.cells ∧ slots + 6 ≤ R.slots) (hfM : cells + 1 ≤ rmM.cells ∧ slots + 6 ≤ rmM.slots) (hls : ls.size = nL) (hW : (rest.map fun v => v.category).sum ≤ 8) (hdg : decode cc pc = .ok (.invokestatic 133, 3)) (kk : ∀ (r : Int32) (w1 : sj_W) (H : Heap) (locs : List Loc), sj_H G s w1 H locs → Qi r w1 → W p l e R s m args below meth c H locs (cells + 1) (slots + 6) (sj_MQ G below QcM QX args s rmM) (F0 m (pc + 3) ls (.int r :: rest))) : W p l e R s m args below meth c H locs cells slots (sj_MQ G below QcM QX args s rmM) (F0 m pc ls (.int b0 :: rest)) :=
  sj_cI hD hH (sj_runS (n := 1) hC hH (As := [.int b0]) (wk_X6_isUnsigned G l hC.2.2.2.2.2.2 b0 w Qi QX hv) mb_452 mb_453 mb_1 mb_454 (by decide +kernel) hR hf rfl hls hW hdg) hfM kk
end SJL_X6_isUnsigned
abbrev rm_X6_wantPlace : Room := { frames := 6, cells := 1, slots := 6, locals := 82 }
def vc_X6_wantPlace (a1 : Int32) (a2 : Int32) (w : sj_W) (Q : sj_W → Prop) (QX : String → sj_W → Prop) : Prop := ((a1 < 0 → QX "java/lang/IndexOutOfBoundsException" w) ∧ (¬ a1 < 0 → ((a1 < a2 → Q w) ∧ (¬ a1 < a2 → QX "java/lang/IndexOutOfBoundsException" w))))
set_option maxHeartbeats 4000000 in
set_option maxRecDepth 100000 in
theorem wk_X6_wantPlace (G : sj_G) (l : Launch) (hlt : l.stackTraces = false) (a1 : Int32) (a2 : Int32) (w : sj_W) (Q : sj_W → Prop) (QX : String → sj_W → Prop) (hv : vc_X6_wantPlace a1 a2 w Q QX) : sj_MV G l yX6_wantPlace (sj_ws yX6_wantPlace cX6_wantPlace 2 none) rm_X6_wantPlace [.int a1, .int a2] w Q QX := by
  refine sj_of (by decide +kernel) (Nat.le_of_ble_eq_true rfl) hlt ?_
  intro p e s m args below meth c ls hC hD hr hin hH hl
  have hx := hC.1
  have hb := hC.2.1
  have hl : lv_has ls 2 [(0, .int a1), (1, .int a2)] := hl
  refine lv_iload_n hx hb dX6_wantPlace_0 rfl (lv_at hl 0 rfl) ?_
  refine lv_if_lt (tgt := 9) hx hb dX6_wantPlace_1 (by decide) (fun hc => ?_) (fun hc => ?_)
  · have hv1 := hv.1 hc
    exact th_X6_237_76 hC hD hH hl.1 dX6_wantPlace_9 dX6_wantPlace_12 dX6_wantPlace_13 dX6_wantPlace_15 dX6_wantPlace_18 ⟨Nat.le_of_ble_eq_true rfl, Nat.le_of_ble_eq_true rfl⟩ ⟨(Nat.le_of_ble_eq_true rfl), (Nat.le_of_ble_eq_true rfl)⟩ ⟨(Nat.le_of_ble_eq_true rfl), (Nat.le_of_ble_eq_true rfl)⟩ hv1
  · have hv2 := hv.2 hc
    refine lv_iload_n hx hb dX6_wantPlace_4 rfl (lv_at hl 0 rfl) ?_
    refine lv_iload_n hx hb dX6_wantPlace_5 rfl (lv_at hl 1 rfl) ?_
    refine lv_icmp_lt (tgt := 19) hx hb dX6_wantPlace_6 (by decide) (fun hc => ?_) (fun hc => ?_)
    · have hv3 := hv2.1 hc
      exact sj_retV hC hD hH hr hv3 ⟨(Nat.le_of_ble_eq_true rfl), (Nat.le_of_ble_eq_true rfl)⟩ dX6_wantPlace_19
    · have hv4 := hv2.2 hc
      exact th_X6_237_76 hC hD hH hl.1 dX6_wantPlace_9 dX6_wantPlace_12 dX6_wantPlace_13 dX6_wantPlace_15 dX6_wantPlace_18 ⟨Nat.le_of_ble_eq_true rfl, Nat.le_of_ble_eq_true rfl⟩ ⟨(Nat.le_of_ble_eq_true rfl), (Nat.le_of_ble_eq_true rfl)⟩ ⟨(Nat.le_of_ble_eq_true rfl), (Nat.le_of_ble_eq_true rfl)⟩ hv4
section SJL_X6_wantPlace
variable {p : Program} {l : Launch} {e : Env} {R : Room} {s : State} {m : MethodId} {args : Array Value} {below : List Frame} {meth : Method} {c : Code} {H : Heap} {locs : List Loc} {cells slots : Nat} {Q : State → Prop} {cc : ByteArray} {pc : Nat} {ls : Array Slot} {rest : List Value} {G : sj_G} {nL : Nat} {w : sj_W}
theorem cl_X6_61 {rmM : Room} {QcM : Array Value → State → Outcome → State → Prop} {QX : String → sj_W → Prop} {b0 : Int32} {b1 : Int32} {Qi : sj_W → Prop} (hC : sj_C G p l s m args c cc RX6 nL) (hD : sj_D meth c) (hH : sj_H G s w H locs) (hv : vc_X6_wantPlace b0 b1 w Qi QX) (hR : rm_X6_wantPlace.frames + 1 ≤ R.frames ∧ 8 + (2 + 11) + rm_X6_wantPlace.locals ≤ R.locals) (hf : cells + 1 ≤ R.cells ∧ slots + 6 ≤ R.slots) (hfM : cells + 1 ≤ rmM.cells ∧ slots + 6 ≤ rmM.slots) (hls : ls.size = nL) (hW : (rest.map fun v => v.category).sum ≤ 8) (hdg : decode cc pc = .ok (.invokestatic 61, 3)) (kk : ∀ (w1 : sj_W) (H : Heap) (locs : List Loc), sj_H G s w1 H locs → Qi w1 → W p l e R s m args below meth c H locs (cells + 1) (slots + 6) (sj_MQ G below QcM QX args s rmM) (F0 m (pc + 3) ls rest)) : W p l e R s m args below meth c H locs cells slots (sj_MQ G below QcM QX args s rmM) (F0 m pc ls (.int b1 :: .int b0 :: rest)) :=
  sj_cV hD hH (sj_runS (n := 2) hC hH (As := [.int b0, .int b1]) (wk_X6_wantPlace G l hC.2.2.2.2.2.2 b0 b1 w Qi QX hv) mb_262 mb_263 mb_1 mb_264 (by decide +kernel) hR hf rfl hls hW hdg) hfM kk
end SJL_X6_wantPlace
abbrev rm_X0_compareParts : Room := { frames := 1, cells := 0, slots := 0, locals := 28 }
def vc_X0_compareParts (self : Nat) (a1 : Int32) (a2 : Int32) (a3 : Int32) (a4 : Int32) (w : sj_W) (Q : Int32 → sj_W → Prop) : Prop := sj_T w self = 1 ∧ sj_A w 0 self ≠ 0 ∧ sj_T w (sj_A w 0 self) = 13 ∧ vp_in a1 (sj_N w (sj_A w 0 self)) ∧ (sj_r w (sj_A w 0 self) a1.toNatClampNeg) ≠ 0 ∧ sj_T w (sj_r w (sj_A w 0 self) a1.toNatClampNeg) = 7 ∧ vp_in a3 (sj_N w (sj_r w (sj_A w 0 self) a1.toNatClampNeg)) ∧ (((a2 - a1) ≤ (sj_i w (sj_r w (sj_A w 0 self) a1.toNatClampNeg) a3.toNatClampNeg) → vc_X6_compareNumbers ((a2 - a1).toInt64) ((a4 - a3).toInt64) 0 w (fun r2 w3 => Q r2 w3)) ∧ (¬ (a2 - a1) ≤ (sj_i w (sj_r w (sj_A w 0 self) a1.toNatClampNeg) a3.toNatClampNeg) → (((a4 - a3) ≤ (sj_i w (sj_r w (sj_A w 0 self) a1.toNatClampNeg) a3.toNatClampNeg) → vc_X6_compareNumbers ((a2 - a1).toInt64) ((a4 - a3).toInt64) 0 w (fun r7 w8 => Q r7 w8)) ∧ (¬ (a4 - a3) ≤ (sj_i w (sj_r w (sj_A w 0 self) a1.toNatClampNeg) a3.toNatClampNeg) → sj_T w self = 1 ∧ sj_A w 5 self ≠ 0 ∧ sj_T w (sj_A w 5 self) = 8 ∧ vp_in (a1 + (sj_i w (sj_r w (sj_A w 0 self) a1.toNatClampNeg) a3.toNatClampNeg)) (sj_N w (sj_A w 5 self)) ∧ sj_T w self = 1 ∧ sj_A w 5 self ≠ 0 ∧ sj_T w (sj_A w 5 self) = 8 ∧ vp_in (a3 + (sj_i w (sj_r w (sj_A w 0 self) a1.toNatClampNeg) a3.toNatClampNeg)) (sj_N w (sj_A w 5 self)) ∧ sj_T w self = 1 ∧ vc_X6_compareNumbers (sj_l w (sj_A w 5 self) (a1 + (sj_i w (sj_r w (sj_A w 0 self) a1.toNatClampNeg) a3.toNatClampNeg)).toNatClampNeg) (sj_l w (sj_A w 5 self) (a3 + (sj_i w (sj_r w (sj_A w 0 self) a1.toNatClampNeg) a3.toNatClampNeg)).toNatClampNeg) (sj_I w 7 self) w (fun r11 w12 => Q r11 w12)))))
set_option maxHeartbeats 4000000 in
set_option maxRecDepth 100000 in
theorem wk_X0_compareParts (G : sj_G) (l : Launch) (hlt : l.stackTraces = false) (self : Nat) (a1 : Int32) (a2 : Int32) (a3 : Int32) (a4 : Int32) (w : sj_W) (Q : Int32 → sj_W → Prop) (QX : String → sj_W → Prop) (hv : vc_X0_compareParts self a1 a2 a3 a4 w Q) : sj_MI G l yX0_compareParts (sj_ws yX0_compareParts cX0_compareParts 8 (some .int)) rm_X0_compareParts [.ref self, .int a1, .int a2, .int a3, .int a4] w Q QX := by
  refine sj_of (by decide +kernel) (Nat.le_of_ble_eq_true rfl) hlt ?_
  intro p e s m args below meth c ls hC hD hr hin hH hl
  have hx := hC.1
  have hb := hC.2.1
  have hl : lv_has ls 8 [(0, .ref self), (1, .int a1), (2, .int a2), (3, .int a3), (4, .int a4)] := hl
  refine lv_iload_n hx hb dX0_compareParts_0 rfl (lv_at hl 2 rfl) ?_
  refine lv_iload_n hx hb dX0_compareParts_1 rfl (lv_at hl 1 rfl) ?_
  refine lv_isub hx hb dX0_compareParts_2 ?_
  refine lv_istore (lv' := [(5, .int (a2 - a1)), (0, .ref self), (1, .int a1), (2, .int a2), (3, .int a3), (4, .int a4)]) hx hb dX0_compareParts_3 hl (by decide) rfl (fun ls hl => ?_)
  refine lv_iload hx hb dX0_compareParts_5 (lv_at hl 5 rfl) ?_
  refine lv_iload_n hx hb dX0_compareParts_7 rfl (lv_at hl 4 rfl) ?_
  refine lv_isub hx hb dX0_compareParts_8 ?_
  refine lv_istore (lv' := [(6, .int (a4 - a3)), (5, .int (a2 - a1)), (0, .ref self), (1, .int a1), (2, .int a2), (3, .int a3), (4, .int a4)]) hx hb dX0_compareParts_9 hl (by decide) rfl (fun ls hl => ?_)
  refine lv_aload_n hx hb dX0_compareParts_11 rfl (lv_at hl 2 rfl) ?_
  refine gf_X0_11 hC hH hv.1 hv.2.1 dX0_compareParts_12 ?_
  refine lv_iload_n hx hb dX0_compareParts_15 rfl (lv_at hl 3 rfl) ?_
  refine sj_aaldI hC hH hv.2.2.1 hv.2.2.2.1 hv.2.2.2.2.1 dX0_compareParts_16 ?_
  refine lv_iload_n hx hb dX0_compareParts_17 rfl (lv_at hl 5 rfl) ?_
  refine sj_iald hC hH hv.2.2.2.2.2.1 hv.2.2.2.2.2.2.1 dX0_compareParts_18 ?_
  refine lv_istore (lv' := [(7, .int (sj_i w (sj_r w (sj_A w 0 self) a1.toNatClampNeg) a3.toNatClampNeg)), (6, .int (a4 - a3)), (5, .int (a2 - a1)), (0, .ref self), (1, .int a1), (2, .int a2), (3, .int a3), (4, .int a4)]) hx hb dX0_compareParts_19 hl (by decide) rfl (fun ls hl => ?_)
  refine lv_iload hx hb dX0_compareParts_21 (lv_at hl 0 rfl) ?_
  refine lv_iload hx hb dX0_compareParts_23 (lv_at hl 2 rfl) ?_
  refine lv_icmp_ge (tgt := 61) hx hb dX0_compareParts_25 (by decide) (fun hc => ?_) (fun hc => ?_)
  · have hv1 := hv.2.2.2.2.2.2.2.1 hc
    refine lv_iload hx hb dX0_compareParts_61 (lv_at hl 2 rfl) ?_
    refine lv_i2l hx hb dX0_compareParts_63 rfl ?_
    refine lv_iload hx hb dX0_compareParts_64 (lv_at hl 1 rfl) ?_
    refine lv_i2l hx hb dX0_compareParts_66 rfl ?_
    refine lv_iconst (v := 0) hx hb dX0_compareParts_67 (by decide) ?_
    refine cl_X0_42 hC hD hH hv1 ⟨Nat.le_of_ble_eq_true rfl, Nat.le_of_ble_eq_true rfl⟩ ⟨(Nat.le_of_ble_eq_true rfl), (Nat.le_of_ble_eq_true rfl)⟩ ⟨(Nat.le_of_ble_eq_true rfl), (Nat.le_of_ble_eq_true rfl)⟩ hl.1 (Nat.le_of_ble_eq_true rfl) dX0_compareParts_68 (fun r2 w3 H locs hH hv4 => ?_)
    exact sj_retI hC hD hH hr rfl hv4 ⟨(Nat.le_of_ble_eq_true rfl), (Nat.le_of_ble_eq_true rfl)⟩ dX0_compareParts_71
  · have hv5 := hv.2.2.2.2.2.2.2.2 hc
    refine lv_iload hx hb dX0_compareParts_28 (lv_at hl 0 rfl) ?_
    refine lv_iload hx hb dX0_compareParts_30 (lv_at hl 1 rfl) ?_
    refine lv_icmp_ge (tgt := 61) hx hb dX0_compareParts_32 (by decide) (fun hc => ?_) (fun hc => ?_)
    · have hv6 := hv5.1 hc
      refine lv_iload hx hb dX0_compareParts_61 (lv_at hl 2 rfl) ?_
      refine lv_i2l hx hb dX0_compareParts_63 rfl ?_
      refine lv_iload hx hb dX0_compareParts_64 (lv_at hl 1 rfl) ?_
      refine lv_i2l hx hb dX0_compareParts_66 rfl ?_
      refine lv_iconst (v := 0) hx hb dX0_compareParts_67 (by decide) ?_
      refine cl_X0_42 hC hD hH hv6 ⟨Nat.le_of_ble_eq_true rfl, Nat.le_of_ble_eq_true rfl⟩ ⟨(Nat.le_of_ble_eq_true rfl), (Nat.le_of_ble_eq_true rfl)⟩ ⟨(Nat.le_of_ble_eq_true rfl), (Nat.le_of_ble_eq_true rfl)⟩ hl.1 (Nat.le_of_ble_eq_true rfl) dX0_compareParts_68 (fun r7 w8 H locs hH hv9 => ?_)
      exact sj_retI hC hD hH hr rfl hv9 ⟨(Nat.le_of_ble_eq_true rfl), (Nat.le_of_ble_eq_true rfl)⟩ dX0_compareParts_71
    · have hv10 := hv5.2 hc
      refine lv_aload_n hx hb dX0_compareParts_35 rfl (lv_at hl 3 rfl) ?_
      refine gf_X0_26 hC hH hv10.1 hv10.2.1 dX0_compareParts_36 ?_
      refine lv_iload_n hx hb dX0_compareParts_39 rfl (lv_at hl 4 rfl) ?_
      refine lv_iload hx hb dX0_compareParts_40 (lv_at hl 0 rfl) ?_
      refine lv_iadd hx hb dX0_compareParts_42 ?_
      refine sj_lald hC hH hv10.2.2.1 hv10.2.2.2.1 dX0_compareParts_43 ?_
      refine lv_aload_n hx hb dX0_compareParts_44 rfl (lv_at hl 3 rfl) ?_
      refine gf_X0_26 hC hH hv10.2.2.2.2.1 hv10.2.2.2.2.2.1 dX0_compareParts_45 ?_
      refine lv_iload_n hx hb dX0_compareParts_48 rfl (lv_at hl 6 rfl) ?_
      refine lv_iload hx hb dX0_compareParts_49 (lv_at hl 0 rfl) ?_
      refine lv_iadd hx hb dX0_compareParts_51 ?_
      refine sj_lald hC hH hv10.2.2.2.2.2.2.1 hv10.2.2.2.2.2.2.2.1 dX0_compareParts_52 ?_
      refine lv_aload_n hx hb dX0_compareParts_53 rfl (lv_at hl 3 rfl) ?_
      refine gf_X0_38 hC hH hv10.2.2.2.2.2.2.2.2.1 dX0_compareParts_54 ?_
      refine cl_X0_42 hC hD hH hv10.2.2.2.2.2.2.2.2.2 ⟨Nat.le_of_ble_eq_true rfl, Nat.le_of_ble_eq_true rfl⟩ ⟨(Nat.le_of_ble_eq_true rfl), (Nat.le_of_ble_eq_true rfl)⟩ ⟨(Nat.le_of_ble_eq_true rfl), (Nat.le_of_ble_eq_true rfl)⟩ hl.1 (Nat.le_of_ble_eq_true rfl) dX0_compareParts_57 (fun r11 w12 H locs hH hv13 => ?_)
      exact sj_retI hC hD hH hr rfl hv13 ⟨(Nat.le_of_ble_eq_true rfl), (Nat.le_of_ble_eq_true rfl)⟩ dX0_compareParts_60
section SJL_X0_compareParts
variable {p : Program} {l : Launch} {e : Env} {R : Room} {s : State} {m : MethodId} {args : Array Value} {below : List Frame} {meth : Method} {c : Code} {H : Heap} {locs : List Loc} {cells slots : Nat} {Q : State → Prop} {cc : ByteArray} {pc : Nat} {ls : Array Slot} {rest : List Value} {G : sj_G} {nL : Nat} {w : sj_W}
theorem cl_X0_46 {rmM : Room} {QcM : Array Value → State → Outcome → State → Prop} {QX : String → sj_W → Prop} {b : Nat} {b0 : Int32} {b1 : Int32} {b2 : Int32} {b3 : Int32} {Qi : Int32 → sj_W → Prop} (hC : sj_C G p l s m args c cc RX0 nL) (hD : sj_D meth c) (hH : sj_H G s w H locs) (hv : vc_X0_compareParts b b0 b1 b2 b3 w Qi) (hT : sj_T w b = 1) (hR : rm_X0_compareParts.frames + 1 ≤ R.frames ∧ 8 + (8 + 11) + rm_X0_compareParts.locals ≤ R.locals) (hf : cells + 0 ≤ R.cells ∧ slots + 0 ≤ R.slots) (hfM : cells + 0 ≤ rmM.cells ∧ slots + 0 ≤ rmM.slots) (hls : ls.size = nL) (hW : (rest.map fun v => v.category).sum ≤ 8) (hdg : decode cc pc = .ok (.invokevirtual 46, 3)) (kk : ∀ (r : Int32) (w1 : sj_W) (H : Heap) (locs : List Loc), sj_H G s w1 H locs → Qi r w1 → W p l e R s m args below meth c H locs (cells + 0) (slots + 0) (sj_MQ G below QcM QX args s rmM) (F0 m (pc + 3) ls (.int r :: rest))) : W p l e R s m args below meth c H locs cells slots (sj_MQ G below QcM QX args s rmM) (F0 m pc ls (.int b3 :: .int b2 :: .int b1 :: .int b0 :: .ref b :: rest)) :=
  sj_cI hD hH (sj_runV (n := 4) hC hH (As := [.int b0, .int b1, .int b2, .int b3]) (wk_X0_compareParts G l hC.2.2.2.2.2.2 b b0 b1 b2 b3 w Qi QX hv) (ci := 0) rfl (by decide) hT mb_489 mb_491 mb_s11 mb_2 mb_492 (by decide +kernel) hR hf rfl hls hW hdg) hfM kk
theorem cl_X2_28 {rmM : Room} {QcM : Array Value → State → Outcome → State → Prop} {QX : String → sj_W → Prop} {b : Nat} {b0 : Int32} {b1 : Int32} {b2 : Int32} {b3 : Int32} {Qi : Int32 → sj_W → Prop} (hC : sj_C G p l s m args c cc RX2 nL) (hD : sj_D meth c) (hH : sj_H G s w H locs) (hv : vc_X0_compareParts b b0 b1 b2 b3 w Qi) (hT : sj_T w b = 1) (hR : rm_X0_compareParts.frames + 1 ≤ R.frames ∧ 8 + (8 + 11) + rm_X0_compareParts.locals ≤ R.locals) (hf : cells + 0 ≤ R.cells ∧ slots + 0 ≤ R.slots) (hfM : cells + 0 ≤ rmM.cells ∧ slots + 0 ≤ rmM.slots) (hls : ls.size = nL) (hW : (rest.map fun v => v.category).sum ≤ 8) (hdg : decode cc pc = .ok (.invokevirtual 28, 3)) (kk : ∀ (r : Int32) (w1 : sj_W) (H : Heap) (locs : List Loc), sj_H G s w1 H locs → Qi r w1 → W p l e R s m args below meth c H locs (cells + 0) (slots + 0) (sj_MQ G below QcM QX args s rmM) (F0 m (pc + 3) ls (.int r :: rest))) : W p l e R s m args below meth c H locs cells slots (sj_MQ G below QcM QX args s rmM) (F0 m pc ls (.int b3 :: .int b2 :: .int b1 :: .int b0 :: .ref b :: rest)) :=
  sj_cI hD hH (sj_runVN (n := 4) hC hH (As := [.int b0, .int b1, .int b2, .int b3]) (wk_X0_compareParts G l hC.2.2.2.2.2.2 b b0 b1 b2 b3 w Qi QX hv) (ci := 0) rfl (by decide) hT mb_675 mb_491 mb_s11 mb_2 mb_492 (by decide +kernel) hR hf rfl hls hW hdg) hfM kk
end SJL_X0_compareParts
abbrev rm_X0_putInOrder : Room := { frames := 2, cells := 0, slots := 0, locals := 55 }
def vb_X0_putInOrder_12 (f0 : Nat) (f1 : Int32) (Q : sj_W → Prop) (E : Int32 → sj_W → Prop) (K : Int32 → sj_W → Prop) (v2 : Int32) (w : sj_W) : Prop := ((v2 ≤ 0 → E v2 w) ∧ (¬ v2 ≤ 0 → sj_T w f0 = 1 ∧ sj_A w 2 f0 ≠ 0 ∧ sj_T w (sj_A w 2 f0) = 7 ∧ vp_in (v2 - 1) (sj_N w (sj_A w 2 f0)) ∧ sj_T w f0 = 1 ∧ sj_T w f0 = 1 ∧ sj_T w f0 = 1 ∧ vc_X0_compareParts f0 (sj_i w (sj_A w 2 f0) (v2 - 1).toNatClampNeg) (sj_I w 6 f0) f1 (sj_I w 6 f0) w (fun r5 w6 => ((r5 ≤ 0 → E v2 w6) ∧ (¬ r5 ≤ 0 → sj_T w6 f0 = 1 ∧ sj_A w6 2 f0 ≠ 0 ∧ sj_T w6 f0 = 1 ∧ sj_A w6 2 f0 ≠ 0 ∧ sj_T w6 (sj_A w6 2 f0) = 7 ∧ vp_in (v2 - 1) (sj_N w6 (sj_A w6 2 f0)) ∧ sj_T w6 (sj_A w6 2 f0) = 7 ∧ vp_in v2 (sj_N w6 (sj_A w6 2 f0)) ∧ ∀ w10 : sj_W, w10 = sj_si w6 (sj_A w6 2 f0) v2.toNatClampNeg (sj_i w6 (sj_A w6 2 f0) (v2 - 1).toNatClampNeg) → K (v2 + (-1)) w10)))))
def vb_X0_putInOrder_2 (f0 : Nat) (Q : sj_W → Prop) (E : sj_W → Prop) (K : Int32 → sj_W → Prop) (v1 : Int32) (w : sj_W) : Prop := sj_T w f0 = 1 ∧ (((sj_I w 6 f0) ≤ v1 → E w) ∧ (¬ (sj_I w 6 f0) ≤ v1 → sj_lp1 (vb_X0_putInOrder_12 f0 v1 Q (fun z2_12 w_12 => sj_T w_12 f0 = 1 ∧ sj_A w_12 2 f0 ≠ 0 ∧ sj_T w_12 (sj_A w_12 2 f0) = 7 ∧ vp_in z2_12 (sj_N w_12 (sj_A w_12 2 f0)) ∧ ∀ w13 : sj_W, w13 = sj_si w_12 (sj_A w_12 2 f0) z2_12.toNatClampNeg v1 → K (v1 + 1) w13)) 64 v1 w))
def vc_X0_putInOrder (self : Nat) (w : sj_W) (Q : sj_W → Prop) : Prop := sj_lp1 (vb_X0_putInOrder_2 self Q (fun w_2 => Q w_2)) 64 0 w
set_option maxHeartbeats 4000000 in
set_option maxRecDepth 100000 in
theorem wl_X0_putInOrder_12 {p : Program} {l : Launch} {e : Env} {s : State} {m : MethodId} {args : Array Value} {below : List Frame} {meth : Method} {c : Code} {G : sj_G} {f0 : Nat} {f1 : Int32} {Q : sj_W → Prop} {QX : String → sj_W → Prop} {E : Int32 → sj_W → Prop} (hC : sj_C G p l s m args c cX0_putInOrder RX0 3) (hD : sj_D meth c) (hr : meth.sig.returnType = none) (hin : meth.name = "putInOrder") (hE : ∀ (v2 : Int32) (w : sj_W) (H : Heap) (locs : List Loc) (ls : Array Slot), lv_has ls 3 [(0, .ref f0), (1, .int f1), (2, .int v2)] → sj_H G s w H locs → E v2 w → W p l e rm_X0_putInOrder s m args below meth c H locs 0 0 (sj_MQ G below (va_Qv Q (sj_B G) (sj_F G)) QX args s rm_X0_putInOrder) (F0 m 60 ls [])) : ∀ (n : Nat) (v2 : Int32) (w : sj_W) (H : Heap) (locs : List Loc) (ls : Array Slot), lv_has ls 3 [(0, .ref f0), (1, .int f1), (2, .int v2)] → sj_H G s w H locs → sj_lp1 (vb_X0_putInOrder_12 f0 f1 Q E) n v2 w → W p l e rm_X0_putInOrder s m args below meth c H locs 0 0 (sj_MQ G below (va_Qv Q (sj_B G) (sj_F G)) QX args s rm_X0_putInOrder) (F0 m 12 ls []) := by
  have hx := hC.1
  have hb := hC.2.1
  intro n
  induction n with
  | zero =>
    intro v2 w H locs ls _ _ hv
    exact hv.elim
  | succ n ih =>
    intro v2 w H locs ls hl hH hv
    have hv : vb_X0_putInOrder_12 f0 f1 Q E (sj_lp1 (vb_X0_putInOrder_12 f0 f1 Q E) n) v2 w := hv
    have hc1 : rm_X0_putInOrder.cells = 0 := rfl
    have hc2 : rm_X0_putInOrder.slots = 0 := rfl
    refine lv_iload_n hx hb dX0_putInOrder_12 rfl (lv_at hl 2 rfl) ?_
    refine lv_if_le (tgt := 60) hx hb dX0_putInOrder_13 (by decide) (fun hc => ?_) (fun hc => ?_)
    · have hv3 := hv.1 hc
      exact hE v2 w _ _ _ (lv_sub hl [0, 1, 2] rfl) hH hv3
    · have hv4 := hv.2 hc
      refine lv_aload_n hx hb dX0_putInOrder_16 rfl (lv_at hl 0 rfl) ?_
      refine lv_aload_n hx hb dX0_putInOrder_17 rfl (lv_at hl 0 rfl) ?_
      refine gf_X0_19 hC hH hv4.1 hv4.2.1 dX0_putInOrder_18 ?_
      refine lv_iload_n hx hb dX0_putInOrder_21 rfl (lv_at hl 2 rfl) ?_
      refine lv_iconst (v := 1) hx hb dX0_putInOrder_22 (by decide) ?_
      refine lv_isub hx hb dX0_putInOrder_23 ?_
      refine sj_iald hC hH hv4.2.2.1 hv4.2.2.2.1 dX0_putInOrder_24 ?_
      refine lv_aload_n hx hb dX0_putInOrder_25 rfl (lv_at hl 0 rfl) ?_
      refine gf_X0_37 hC hH hv4.2.2.2.2.1 dX0_putInOrder_26 ?_
      refine lv_iload_n hx hb dX0_putInOrder_29 rfl (lv_at hl 1 rfl) ?_
      refine lv_aload_n hx hb dX0_putInOrder_30 rfl (lv_at hl 0 rfl) ?_
      refine gf_X0_37 hC hH hv4.2.2.2.2.2.1 dX0_putInOrder_31 ?_
      refine cl_X0_46 hC hD hH hv4.2.2.2.2.2.2.2 hv4.2.2.2.2.2.2.1 ⟨Nat.le_of_ble_eq_true rfl, Nat.le_of_ble_eq_true rfl⟩ ⟨(Nat.le_of_ble_eq_true rfl), (Nat.le_of_ble_eq_true rfl)⟩ ⟨(Nat.le_of_ble_eq_true rfl), (Nat.le_of_ble_eq_true rfl)⟩ hl.1 (Nat.le_of_ble_eq_true rfl) dX0_putInOrder_34 (fun r5 w6 H locs hH hv7 => ?_)
      refine lv_if_le (tgt := 60) hx hb dX0_putInOrder_37 (by decide) (fun hc => ?_) (fun hc => ?_)
      · have hv8 := hv7.1 hc
        exact hE v2 w6 _ _ _ (lv_sub hl [0, 1, 2] rfl) hH hv8
      · have hv9 := hv7.2 hc
        refine lv_aload_n hx hb dX0_putInOrder_40 rfl (lv_at hl 0 rfl) ?_
        refine gf_X0_19 hC hH hv9.1 hv9.2.1 dX0_putInOrder_41 ?_
        refine lv_iload_n hx hb dX0_putInOrder_44 rfl (lv_at hl 2 rfl) ?_
        refine lv_aload_n hx hb dX0_putInOrder_45 rfl (lv_at hl 0 rfl) ?_
        refine gf_X0_19 hC hH hv9.2.2.1 hv9.2.2.2.1 dX0_putInOrder_46 ?_
        refine lv_iload_n hx hb dX0_putInOrder_49 rfl (lv_at hl 2 rfl) ?_
        refine lv_iconst (v := 1) hx hb dX0_putInOrder_50 (by decide) ?_
        refine lv_isub hx hb dX0_putInOrder_51 ?_
        refine sj_iald hC hH hv9.2.2.2.2.1 hv9.2.2.2.2.2.1 dX0_putInOrder_52 ?_
        refine sj_iast hC hH hv9.2.2.2.2.2.2.1 hv9.2.2.2.2.2.2.2.1 dX0_putInOrder_53 (fun w10 H locs e11 hH => ?_)
        refine lv_iinc (v := (v2 + (-1))) (lv' := [(2, .int (v2 + (-1))), (0, .ref f0), (1, .int f1)]) hx hb dX0_putInOrder_54 hl (k := 2) rfl rfl (by decide) rfl (fun ls hl => ?_)
        refine lv_goto (tgt := 12) hx hb dX0_putInOrder_57 (by decide) ?_
        exact ih (v2 + (-1)) w10 _ _ _ (lv_sub hl [1, 2, 0] rfl) hH (hv9.2.2.2.2.2.2.2.2 w10 e11)
set_option maxHeartbeats 4000000 in
set_option maxRecDepth 100000 in
theorem wl_X0_putInOrder_2 {p : Program} {l : Launch} {e : Env} {s : State} {m : MethodId} {args : Array Value} {below : List Frame} {meth : Method} {c : Code} {G : sj_G} {f0 : Nat} {Q : sj_W → Prop} {QX : String → sj_W → Prop} {E : sj_W → Prop} (hC : sj_C G p l s m args c cX0_putInOrder RX0 3) (hD : sj_D meth c) (hr : meth.sig.returnType = none) (hin : meth.name = "putInOrder") (hE : ∀ (w : sj_W) (H : Heap) (locs : List Loc) (ls : Array Slot), lv_has ls 3 [] → sj_H G s w H locs → E w → W p l e rm_X0_putInOrder s m args below meth c H locs 0 0 (sj_MQ G below (va_Qv Q (sj_B G) (sj_F G)) QX args s rm_X0_putInOrder) (F0 m 73 ls [])) : ∀ (n : Nat) (v1 : Int32) (w : sj_W) (H : Heap) (locs : List Loc) (ls : Array Slot), lv_has ls 3 [(0, .ref f0), (1, .int v1)] → sj_H G s w H locs → sj_lp1 (vb_X0_putInOrder_2 f0 Q E) n v1 w → W p l e rm_X0_putInOrder s m args below meth c H locs 0 0 (sj_MQ G below (va_Qv Q (sj_B G) (sj_F G)) QX args s rm_X0_putInOrder) (F0 m 2 ls []) := by
  have hx := hC.1
  have hb := hC.2.1
  intro n
  induction n with
  | zero =>
    intro v1 w H locs ls _ _ hv
    exact hv.elim
  | succ n ih =>
    intro v1 w H locs ls hl hH hv
    have hv : vb_X0_putInOrder_2 f0 Q E (sj_lp1 (vb_X0_putInOrder_2 f0 Q E) n) v1 w := hv
    have hc1 : rm_X0_putInOrder.cells = 0 := rfl
    have hc2 : rm_X0_putInOrder.slots = 0 := rfl
    refine lv_iload_n hx hb dX0_putInOrder_2 rfl (lv_at hl 1 rfl) ?_
    refine lv_aload_n hx hb dX0_putInOrder_3 rfl (lv_at hl 0 rfl) ?_
    refine gf_X0_37 hC hH hv.1 dX0_putInOrder_4 ?_
    refine lv_icmp_ge (tgt := 73) hx hb dX0_putInOrder_7 (by decide) (fun hc => ?_) (fun hc => ?_)
    · have hv1 := hv.2.1 hc
      exact hE  w _ _ _ (lv_sub hl [] rfl) hH hv1
    · have hv2 := hv.2.2 hc
      refine lv_iload_n hx hb dX0_putInOrder_10 rfl (lv_at hl 1 rfl) ?_
      refine lv_istore_n (lv' := [(2, .int v1), (0, .ref f0), (1, .int v1)]) hx hb dX0_putInOrder_11 rfl hl (by decide) rfl (fun ls hl => ?_)
      refine wl_X0_putInOrder_12 hC hD hr hin (fun z2_12 w_12 H locs ls hl hH hv12 => ?_) 64 v1 w _ _ _ (lv_sub hl [1, 2, 0] rfl) hH hv2
      refine lv_aload_n hx hb dX0_putInOrder_60 rfl (lv_at hl 0 rfl) ?_
      refine gf_X0_19 hC hH hv12.1 hv12.2.1 dX0_putInOrder_61 ?_
      refine lv_iload_n hx hb dX0_putInOrder_64 rfl (lv_at hl 2 rfl) ?_
      refine lv_iload_n hx hb dX0_putInOrder_65 rfl (lv_at hl 1 rfl) ?_
      refine sj_iast hC hH hv12.2.2.1 hv12.2.2.2.1 dX0_putInOrder_66 (fun w13 H locs e14 hH => ?_)
      refine lv_iinc (v := (v1 + 1)) (lv' := [(1, .int (v1 + 1)), (0, .ref f0), (2, .int z2_12)]) hx hb dX0_putInOrder_67 hl (k := 1) rfl rfl (by decide) rfl (fun ls hl => ?_)
      refine lv_goto (tgt := 2) hx hb dX0_putInOrder_70 (by decide) ?_
      exact ih (v1 + 1) w13 _ _ _ (lv_sub hl [1, 0] rfl) hH (hv12.2.2.2.2 w13 e14)
set_option maxHeartbeats 4000000 in
set_option maxRecDepth 100000 in
theorem wk_X0_putInOrder (G : sj_G) (l : Launch) (hlt : l.stackTraces = false) (self : Nat) (w : sj_W) (Q : sj_W → Prop) (QX : String → sj_W → Prop) (hv : vc_X0_putInOrder self w Q) : sj_MV G l yX0_putInOrder (sj_ws yX0_putInOrder cX0_putInOrder 3 none) rm_X0_putInOrder [.ref self] w Q QX := by
  refine sj_of (by decide +kernel) (Nat.le_of_ble_eq_true rfl) hlt ?_
  intro p e s m args below meth c ls hC hD hr hin hH hl
  have hx := hC.1
  have hb := hC.2.1
  have hl : lv_has ls 3 [(0, .ref self)] := hl
  refine lv_iconst (v := 0) hx hb dX0_putInOrder_0 (by decide) ?_
  refine lv_istore_n (lv' := [(1, .int 0), (0, .ref self)]) hx hb dX0_putInOrder_1 rfl hl (by decide) rfl (fun ls hl => ?_)
  refine wl_X0_putInOrder_2 hC hD hr hin (fun w_2 H locs ls hl hH hv15 => ?_) 64 0 w _ _ _ (lv_sub hl [1, 0] rfl) hH hv
  exact sj_retV hC hD hH hr hv15 ⟨(Nat.le_of_ble_eq_true rfl), (Nat.le_of_ble_eq_true rfl)⟩ dX0_putInOrder_73
section SJL_X0_putInOrder
variable {p : Program} {l : Launch} {e : Env} {R : Room} {s : State} {m : MethodId} {args : Array Value} {below : List Frame} {meth : Method} {c : Code} {H : Heap} {locs : List Loc} {cells slots : Nat} {Q : State → Prop} {cc : ByteArray} {pc : Nat} {ls : Array Slot} {rest : List Value} {G : sj_G} {nL : Nat} {w : sj_W}
theorem cl_X6_155 {rmM : Room} {QcM : Array Value → State → Outcome → State → Prop} {QX : String → sj_W → Prop} {b : Nat} {Qi : sj_W → Prop} (hC : sj_C G p l s m args c cc RX6 nL) (hD : sj_D meth c) (hH : sj_H G s w H locs) (hv : vc_X0_putInOrder b w Qi) (hT : sj_T w b = 1) (hR : rm_X0_putInOrder.frames + 1 ≤ R.frames ∧ 8 + (3 + 11) + rm_X0_putInOrder.locals ≤ R.locals) (hf : cells + 0 ≤ R.cells ∧ slots + 0 ≤ R.slots) (hfM : cells + 0 ≤ rmM.cells ∧ slots + 0 ≤ rmM.slots) (hls : ls.size = nL) (hW : (rest.map fun v => v.category).sum ≤ 8) (hdg : decode cc pc = .ok (.invokevirtual 155, 3)) (kk : ∀ (w1 : sj_W) (H : Heap) (locs : List Loc), sj_H G s w1 H locs → Qi w1 → W p l e R s m args below meth c H locs (cells + 0) (slots + 0) (sj_MQ G below QcM QX args s rmM) (F0 m (pc + 3) ls rest)) : W p l e R s m args below meth c H locs cells slots (sj_MQ G below QcM QX args s rmM) (F0 m pc ls (.ref b :: rest)) :=
  sj_cV hD hH (sj_runVN (n := 0) hC hH (As := []) (wk_X0_putInOrder G l hC.2.2.2.2.2.2 b w Qi QX hv) (ci := 0) rfl (by decide) hT mb_485 mb_487 mb_s10 mb_2 mb_488 (by decide +kernel) hR hf rfl hls hW hdg) hfM kk
end SJL_X0_putInOrder
abbrev rm_X6_ending : Room := { frames := 8, cells := 4, slots := 24, locals := 124 }
def vc_X6_ending (self : Nat) (a1 : Int32) (a2 : Int32) (a3 : Int32) (a4 : Int32) (w : sj_W) (Q : Int32 → sj_W → Prop) (QX : String → sj_W → Prop) : Prop := vc_X6_kindOf a1 w (fun r1 w2 => vc_X6_isUnsigned a2 w2 (fun r4 w5 => sj_T w5 self = 5 ∧ vc_X6_rowOf self r1 a3 w5 (fun r7 w8 => sj_T w8 r7 = 2 ∧ vc_X6_wantPlace a4 (sj_I w8 9 r7) w8 (fun w11 => sj_T w11 self = 5 ∧ sj_A w11 35 self ≠ 0 ∧ sj_T w11 (sj_A w11 35 self) = 1 ∧ vc_X0_take (sj_A w11 35 self) r7 r4 w11 (fun w14 => sj_T w14 self = 5 ∧ sj_A w14 35 self ≠ 0 ∧ sj_T w14 (sj_A w14 35 self) = 1 ∧ vc_X0_putInOrder (sj_A w14 35 self) w14 (fun w17 => sj_T w17 self = 5 ∧ sj_A w17 35 self ≠ 0 ∧ sj_T w17 (sj_A w17 35 self) = 1 ∧ sj_A w17 2 (sj_A w17 35 self) ≠ 0 ∧ sj_T w17 (sj_A w17 2 (sj_A w17 35 self)) = 7 ∧ vp_in a4 (sj_N w17 (sj_A w17 2 (sj_A w17 35 self))) ∧ Q (sj_i w17 (sj_A w17 2 (sj_A w17 35 self)) a4.toNatClampNeg) w17))) QX) QX) QX) QX
set_option maxHeartbeats 4000000 in
set_option maxRecDepth 100000 in
theorem wk_X6_ending (G : sj_G) (l : Launch) (hlt : l.stackTraces = false) (self : Nat) (a1 : Int32) (a2 : Int32) (a3 : Int32) (a4 : Int32) (w : sj_W) (Q : Int32 → sj_W → Prop) (QX : String → sj_W → Prop) (hv : vc_X6_ending self a1 a2 a3 a4 w Q QX) : sj_MI G l yX6_ending (sj_ws yX6_ending cX6_ending 8 (some .int)) rm_X6_ending [.ref self, .int a1, .int a2, .int a3, .int a4] w Q QX := by
  refine sj_of (by decide +kernel) (Nat.le_of_ble_eq_true rfl) hlt ?_
  intro p e s m args below meth c ls hC hD hr hin hH hl
  have hx := hC.1
  have hb := hC.2.1
  have hl : lv_has ls 8 [(0, .ref self), (1, .int a1), (2, .int a2), (3, .int a3), (4, .int a4)] := hl
  refine lv_iload_n hx hb dX6_ending_0 rfl (lv_at hl 1 rfl) ?_
  refine cl_X6_34 hC hD hH hv ⟨Nat.le_of_ble_eq_true rfl, Nat.le_of_ble_eq_true rfl⟩ ⟨(Nat.le_of_ble_eq_true rfl), (Nat.le_of_ble_eq_true rfl)⟩ ⟨(Nat.le_of_ble_eq_true rfl), (Nat.le_of_ble_eq_true rfl)⟩ hl.1 (Nat.le_of_ble_eq_true rfl) dX6_ending_1 (fun r1 w2 H locs hH hv3 => ?_)
  refine lv_istore (lv' := [(5, .int r1), (0, .ref self), (1, .int a1), (2, .int a2), (3, .int a3), (4, .int a4)]) hx hb dX6_ending_4 hl (by decide) rfl (fun ls hl => ?_)
  refine lv_iload_n hx hb dX6_ending_6 rfl (lv_at hl 3 rfl) ?_
  refine cl_X6_133 hC hD hH hv3 ⟨Nat.le_of_ble_eq_true rfl, Nat.le_of_ble_eq_true rfl⟩ ⟨(Nat.le_of_ble_eq_true rfl), (Nat.le_of_ble_eq_true rfl)⟩ ⟨(Nat.le_of_ble_eq_true rfl), (Nat.le_of_ble_eq_true rfl)⟩ hl.1 (Nat.le_of_ble_eq_true rfl) dX6_ending_7 (fun r4 w5 H locs hH hv6 => ?_)
  refine lv_istore (lv' := [(6, .int r4), (5, .int r1), (0, .ref self), (1, .int a1), (2, .int a2), (3, .int a3), (4, .int a4)]) hx hb dX6_ending_10 hl (by decide) rfl (fun ls hl => ?_)
  refine lv_aload_n hx hb dX6_ending_12 rfl (lv_at hl 2 rfl) ?_
  refine lv_iload hx hb dX6_ending_13 (lv_at hl 1 rfl) ?_
  refine lv_iload_n hx hb dX6_ending_15 rfl (lv_at hl 5 rfl) ?_
  refine cl_X6_42 hC hD hH hv6.2 hv6.1 ⟨Nat.le_of_ble_eq_true rfl, Nat.le_of_ble_eq_true rfl⟩ ⟨(Nat.le_of_ble_eq_true rfl), (Nat.le_of_ble_eq_true rfl)⟩ ⟨(Nat.le_of_ble_eq_true rfl), (Nat.le_of_ble_eq_true rfl)⟩ hl.1 (Nat.le_of_ble_eq_true rfl) dX6_ending_16 (fun r7 w8 H locs hH hv9 => ?_)
  refine lv_astore (lv' := [(7, .ref r7), (6, .int r4), (5, .int r1), (0, .ref self), (1, .int a1), (2, .int a2), (3, .int a3), (4, .int a4)]) hx hb dX6_ending_19 hl (by decide) rfl (fun ls hl => ?_)
  refine lv_iload hx hb dX6_ending_21 (lv_at hl 7 rfl) ?_
  refine lv_aload hx hb dX6_ending_23 (lv_at hl 0 rfl) ?_
  refine gf_X6_46 hC hH hv9.1 dX6_ending_25 ?_
  refine cl_X6_61 hC hD hH hv9.2 ⟨Nat.le_of_ble_eq_true rfl, Nat.le_of_ble_eq_true rfl⟩ ⟨(Nat.le_of_ble_eq_true rfl), (Nat.le_of_ble_eq_true rfl)⟩ ⟨(Nat.le_of_ble_eq_true rfl), (Nat.le_of_ble_eq_true rfl)⟩ hl.1 (Nat.le_of_ble_eq_true rfl) dX6_ending_28 (fun w11 H locs hH hv12 => ?_)
  refine lv_aload_n hx hb dX6_ending_31 rfl (lv_at hl 3 rfl) ?_
  refine gf_X6_28 hC hH hv12.1 hv12.2.1 dX6_ending_32 ?_
  refine lv_aload hx hb dX6_ending_35 (lv_at hl 0 rfl) ?_
  refine lv_iload hx hb dX6_ending_37 (lv_at hl 1 rfl) ?_
  refine cl_X6_151 hC hD hH hv12.2.2.2 hv12.2.2.1 ⟨Nat.le_of_ble_eq_true rfl, Nat.le_of_ble_eq_true rfl⟩ ⟨(Nat.le_of_ble_eq_true rfl), (Nat.le_of_ble_eq_true rfl)⟩ ⟨(Nat.le_of_ble_eq_true rfl), (Nat.le_of_ble_eq_true rfl)⟩ hl.1 (Nat.le_of_ble_eq_true rfl) dX6_ending_39 (fun w14 H locs hH hv15 => ?_)
  refine lv_aload_n hx hb dX6_ending_42 rfl (lv_at hl 3 rfl) ?_
  refine gf_X6_28 hC hH hv15.1 hv15.2.1 dX6_ending_43 ?_
  refine cl_X6_155 hC hD hH hv15.2.2.2 hv15.2.2.1 ⟨Nat.le_of_ble_eq_true rfl, Nat.le_of_ble_eq_true rfl⟩ ⟨(Nat.le_of_ble_eq_true rfl), (Nat.le_of_ble_eq_true rfl)⟩ ⟨(Nat.le_of_ble_eq_true rfl), (Nat.le_of_ble_eq_true rfl)⟩ hl.1 (Nat.le_of_ble_eq_true rfl) dX6_ending_46 (fun w17 H locs hH hv18 => ?_)
  refine lv_aload_n hx hb dX6_ending_49 rfl (lv_at hl 3 rfl) ?_
  refine gf_X6_28 hC hH hv18.1 hv18.2.1 dX6_ending_50 ?_
  refine gf_X6_158 hC hH hv18.2.2.1 hv18.2.2.2.1 dX6_ending_53 ?_
  refine lv_iload hx hb dX6_ending_56 (lv_at hl 7 rfl) ?_
  refine sj_iald hC hH hv18.2.2.2.2.1 hv18.2.2.2.2.2.1 dX6_ending_58 ?_
  exact sj_retI hC hD hH hr rfl hv18.2.2.2.2.2.2 ⟨(Nat.le_of_ble_eq_true rfl), (Nat.le_of_ble_eq_true rfl)⟩ dX6_ending_59
abbrev rm_X0_split : Room := { frames := 2, cells := 0, slots := 0, locals := 55 }
def vb_X0_split_9 (f0 : Nat) (Q : sj_W → Prop) (E : sj_W → Prop) (K : Int32 → Int32 → sj_W → Prop) (v1 : Int32) (v2 : Int32) (w : sj_W) : Prop := sj_T w f0 = 1 ∧ (((sj_I w 6 f0) ≤ v2 → E w) ∧ (¬ (sj_I w 6 f0) ≤ v2 → ((v2 = 0 → sj_T w f0 = 1 ∧ sj_A w 3 f0 ≠ 0 ∧ sj_T w f0 = 1 ∧ sj_T w (sj_A w 3 f0) = 7 ∧ vp_in (sj_I w 4 f0) (sj_N w (sj_A w 3 f0)) ∧ ∀ w6 : sj_W, w6 = sj_si w (sj_A w 3 f0) (sj_I w 4 f0).toNatClampNeg v2 → sj_T w6 f0 = 1 ∧ sj_T w6 f0 = 1 ∧ ∀ w8 : sj_W, w8 = sj_sI w6 4 f0 ((sj_I w6 4 f0) + 1) → K v2 (v2 + 1) w8) ∧ (¬ v2 = 0 → sj_T w f0 = 1 ∧ sj_T w f0 = 1 ∧ sj_T w f0 = 1 ∧ vc_X0_compareParts f0 v2 (sj_I w 6 f0) v1 (sj_I w 6 f0) w (fun r11 w12 => ((0 ≤ r11 → K v1 (v2 + 1) w12) ∧ (¬ 0 ≤ r11 → sj_T w12 f0 = 1 ∧ sj_A w12 3 f0 ≠ 0 ∧ sj_T w12 f0 = 1 ∧ sj_T w12 (sj_A w12 3 f0) = 7 ∧ vp_in (sj_I w12 4 f0) (sj_N w12 (sj_A w12 3 f0)) ∧ ∀ w16 : sj_W, w16 = sj_si w12 (sj_A w12 3 f0) (sj_I w12 4 f0).toNatClampNeg v2 → sj_T w16 f0 = 1 ∧ sj_T w16 f0 = 1 ∧ ∀ w18 : sj_W, w18 = sj_sI w16 4 f0 ((sj_I w16 4 f0) + 1) → K v2 (v2 + 1) w18)))))))
def vc_X0_split (self : Nat) (w : sj_W) (Q : sj_W → Prop) : Prop := sj_T w self = 1 ∧ ∀ w1 : sj_W, w1 = sj_sI w 4 self 0 → sj_lp2 (vb_X0_split_9 self Q (fun w_9 => Q w_9)) 64 0 0 w1
set_option maxHeartbeats 4000000 in
set_option maxRecDepth 100000 in
theorem wl_X0_split_9 {p : Program} {l : Launch} {e : Env} {s : State} {m : MethodId} {args : Array Value} {below : List Frame} {meth : Method} {c : Code} {G : sj_G} {f0 : Nat} {Q : sj_W → Prop} {QX : String → sj_W → Prop} {E : sj_W → Prop} (hC : sj_C G p l s m args c cX0_split RX0 3) (hD : sj_D meth c) (hr : meth.sig.returnType = none) (hin : meth.name = "split") (hE : ∀ (w : sj_W) (H : Heap) (locs : List Loc) (ls : Array Slot), lv_has ls 3 [] → sj_H G s w H locs → E w → W p l e rm_X0_split s m args below meth c H locs 0 0 (sj_MQ G below (va_Qv Q (sj_B G) (sj_F G)) QX args s rm_X0_split) (F0 m 66 ls [])) : ∀ (n : Nat) (v1 : Int32) (v2 : Int32) (w : sj_W) (H : Heap) (locs : List Loc) (ls : Array Slot), lv_has ls 3 [(0, .ref f0), (1, .int v1), (2, .int v2)] → sj_H G s w H locs → sj_lp2 (vb_X0_split_9 f0 Q E) n v1 v2 w → W p l e rm_X0_split s m args below meth c H locs 0 0 (sj_MQ G below (va_Qv Q (sj_B G) (sj_F G)) QX args s rm_X0_split) (F0 m 9 ls []) := by
  have hx := hC.1
  have hb := hC.2.1
  intro n
  induction n with
  | zero =>
    intro v1 v2 w H locs ls _ _ hv
    exact hv.elim
  | succ n ih =>
    intro v1 v2 w H locs ls hl hH hv
    have hv : vb_X0_split_9 f0 Q E (sj_lp2 (vb_X0_split_9 f0 Q E) n) v1 v2 w := hv
    have hc1 : rm_X0_split.cells = 0 := rfl
    have hc2 : rm_X0_split.slots = 0 := rfl
    refine lv_iload_n hx hb dX0_split_9 rfl (lv_at hl 2 rfl) ?_
    refine lv_aload_n hx hb dX0_split_10 rfl (lv_at hl 0 rfl) ?_
    refine gf_X0_37 hC hH hv.1 dX0_split_11 ?_
    refine lv_icmp_ge (tgt := 66) hx hb dX0_split_14 (by decide) (fun hc => ?_) (fun hc => ?_)
    · have hv3 := hv.2.1 hc
      exact hE  w _ _ _ (lv_sub hl [] rfl) hH hv3
    · have hv4 := hv.2.2 hc
      refine lv_iload_n hx hb dX0_split_17 rfl (lv_at hl 2 rfl) ?_
      refine lv_if_eq (tgt := 38) hx hb dX0_split_18 (by decide) (fun hc => ?_) (fun hc => ?_)
      · have hv5 := hv4.1 hc
        refine lv_iload_n hx hb dX0_split_38 rfl (lv_at hl 2 rfl) ?_
        refine lv_istore_n (lv' := [(1, .int v2), (0, .ref f0), (2, .int v2)]) hx hb dX0_split_39 rfl hl (by decide) rfl (fun ls hl => ?_)
        refine lv_aload_n hx hb dX0_split_40 rfl (lv_at hl 1 rfl) ?_
        refine gf_X0_23 hC hH hv5.1 hv5.2.1 dX0_split_41 ?_
        refine lv_aload_n hx hb dX0_split_44 rfl (lv_at hl 1 rfl) ?_
        refine gf_X0_60 hC hH hv5.2.2.1 dX0_split_45 ?_
        refine lv_iload_n hx hb dX0_split_48 rfl (lv_at hl 2 rfl) ?_
        refine sj_iast hC hH hv5.2.2.2.1 hv5.2.2.2.2.1 dX0_split_49 (fun w6 H locs e7 hH => ?_)
        refine lv_aload_n hx hb dX0_split_50 rfl (lv_at hl 1 rfl) ?_
        refine lv_dup hx hb dX0_split_51 rfl ?_
        refine gf_X0_60 hC hH (hv5.2.2.2.2.2 w6 e7).1 dX0_split_52 ?_
        refine lv_iconst (v := 1) hx hb dX0_split_55 (by decide) ?_
        refine lv_iadd hx hb dX0_split_56 ?_
        refine pf_X0_60 hC hH (hv5.2.2.2.2.2 w6 e7).2.1 dX0_split_57 (fun w8 H locs e9 hH => ?_)
        refine lv_iinc (v := (v2 + 1)) (lv' := [(2, .int (v2 + 1)), (1, .int v2), (0, .ref f0)]) hx hb dX0_split_60 hl (k := 2) rfl rfl (by decide) rfl (fun ls hl => ?_)
        refine lv_goto (tgt := 9) hx hb dX0_split_63 (by decide) ?_
        exact ih v2 (v2 + 1) w8 _ _ _ (lv_sub hl [2, 1, 0] rfl) hH ((hv5.2.2.2.2.2 w6 e7).2.2 w8 e9)
      · have hv10 := hv4.2 hc
        refine lv_aload_n hx hb dX0_split_21 rfl (lv_at hl 0 rfl) ?_
        refine lv_iload_n hx hb dX0_split_22 rfl (lv_at hl 2 rfl) ?_
        refine lv_aload_n hx hb dX0_split_23 rfl (lv_at hl 0 rfl) ?_
        refine gf_X0_37 hC hH hv10.1 dX0_split_24 ?_
        refine lv_iload_n hx hb dX0_split_27 rfl (lv_at hl 1 rfl) ?_
        refine lv_aload_n hx hb dX0_split_28 rfl (lv_at hl 0 rfl) ?_
        refine gf_X0_37 hC hH hv10.2.1 dX0_split_29 ?_
        refine cl_X0_46 hC hD hH hv10.2.2.2 hv10.2.2.1 ⟨Nat.le_of_ble_eq_true rfl, Nat.le_of_ble_eq_true rfl⟩ ⟨(Nat.le_of_ble_eq_true rfl), (Nat.le_of_ble_eq_true rfl)⟩ ⟨(Nat.le_of_ble_eq_true rfl), (Nat.le_of_ble_eq_true rfl)⟩ hl.1 (Nat.le_of_ble_eq_true rfl) dX0_split_32 (fun r11 w12 H locs hH hv13 => ?_)
        refine lv_if_ge (tgt := 60) hx hb dX0_split_35 (by decide) (fun hc => ?_) (fun hc => ?_)
        · have hv14 := hv13.1 hc
          refine lv_iinc (v := (v2 + 1)) (lv' := [(2, .int (v2 + 1)), (0, .ref f0), (1, .int v1)]) hx hb dX0_split_60 hl (k := 2) rfl rfl (by decide) rfl (fun ls hl => ?_)
          refine lv_goto (tgt := 9) hx hb dX0_split_63 (by decide) ?_
          exact ih v1 (v2 + 1) w12 _ _ _ (lv_sub hl [1, 2, 0] rfl) hH hv14
        · have hv15 := hv13.2 hc
          refine lv_iload_n hx hb dX0_split_38 rfl (lv_at hl 2 rfl) ?_
          refine lv_istore_n (lv' := [(1, .int v2), (0, .ref f0), (2, .int v2)]) hx hb dX0_split_39 rfl hl (by decide) rfl (fun ls hl => ?_)
          refine lv_aload_n hx hb dX0_split_40 rfl (lv_at hl 1 rfl) ?_
          refine gf_X0_23 hC hH hv15.1 hv15.2.1 dX0_split_41 ?_
          refine lv_aload_n hx hb dX0_split_44 rfl (lv_at hl 1 rfl) ?_
          refine gf_X0_60 hC hH hv15.2.2.1 dX0_split_45 ?_
          refine lv_iload_n hx hb dX0_split_48 rfl (lv_at hl 2 rfl) ?_
          refine sj_iast hC hH hv15.2.2.2.1 hv15.2.2.2.2.1 dX0_split_49 (fun w16 H locs e17 hH => ?_)
          refine lv_aload_n hx hb dX0_split_50 rfl (lv_at hl 1 rfl) ?_
          refine lv_dup hx hb dX0_split_51 rfl ?_
          refine gf_X0_60 hC hH (hv15.2.2.2.2.2 w16 e17).1 dX0_split_52 ?_
          refine lv_iconst (v := 1) hx hb dX0_split_55 (by decide) ?_
          refine lv_iadd hx hb dX0_split_56 ?_
          refine pf_X0_60 hC hH (hv15.2.2.2.2.2 w16 e17).2.1 dX0_split_57 (fun w18 H locs e19 hH => ?_)
          refine lv_iinc (v := (v2 + 1)) (lv' := [(2, .int (v2 + 1)), (1, .int v2), (0, .ref f0)]) hx hb dX0_split_60 hl (k := 2) rfl rfl (by decide) rfl (fun ls hl => ?_)
          refine lv_goto (tgt := 9) hx hb dX0_split_63 (by decide) ?_
          exact ih v2 (v2 + 1) w18 _ _ _ (lv_sub hl [2, 1, 0] rfl) hH ((hv15.2.2.2.2.2 w16 e17).2.2 w18 e19)
set_option maxHeartbeats 4000000 in
set_option maxRecDepth 100000 in
theorem wk_X0_split (G : sj_G) (l : Launch) (hlt : l.stackTraces = false) (self : Nat) (w : sj_W) (Q : sj_W → Prop) (QX : String → sj_W → Prop) (hv : vc_X0_split self w Q) : sj_MV G l yX0_split (sj_ws yX0_split cX0_split 3 none) rm_X0_split [.ref self] w Q QX := by
  refine sj_of (by decide +kernel) (Nat.le_of_ble_eq_true rfl) hlt ?_
  intro p e s m args below meth c ls hC hD hr hin hH hl
  have hx := hC.1
  have hb := hC.2.1
  have hl : lv_has ls 3 [(0, .ref self)] := hl
  refine lv_aload_n hx hb dX0_split_0 rfl (lv_at hl 0 rfl) ?_
  refine lv_iconst (v := 0) hx hb dX0_split_1 (by decide) ?_
  refine pf_X0_60 hC hH hv.1 dX0_split_2 (fun w1 H locs e2 hH => ?_)
  refine lv_iconst (v := 0) hx hb dX0_split_5 (by decide) ?_
  refine lv_istore_n (lv' := [(1, .int 0), (0, .ref self)]) hx hb dX0_split_6 rfl hl (by decide) rfl (fun ls hl => ?_)
  refine lv_iconst (v := 0) hx hb dX0_split_7 (by decide) ?_
  refine lv_istore_n (lv' := [(2, .int 0), (1, .int 0), (0, .ref self)]) hx hb dX0_split_8 rfl hl (by decide) rfl (fun ls hl => ?_)
  refine wl_X0_split_9 hC hD hr hin (fun w_9 H locs ls hl hH hv20 => ?_) 64 0 0 w1 _ _ _ (lv_sub hl [2, 1, 0] rfl) hH (hv.2 w1 e2)
  exact sj_retV hC hD hH hr hv20 ⟨(Nat.le_of_ble_eq_true rfl), (Nat.le_of_ble_eq_true rfl)⟩ dX0_split_66
section SJL_X0_split
variable {p : Program} {l : Launch} {e : Env} {R : Room} {s : State} {m : MethodId} {args : Array Value} {below : List Frame} {meth : Method} {c : Code} {H : Heap} {locs : List Loc} {cells slots : Nat} {Q : State → Prop} {cc : ByteArray} {pc : Nat} {ls : Array Slot} {rest : List Value} {G : sj_G} {nL : Nat} {w : sj_W}
theorem cl_X6_180 {rmM : Room} {QcM : Array Value → State → Outcome → State → Prop} {QX : String → sj_W → Prop} {b : Nat} {Qi : sj_W → Prop} (hC : sj_C G p l s m args c cc RX6 nL) (hD : sj_D meth c) (hH : sj_H G s w H locs) (hv : vc_X0_split b w Qi) (hT : sj_T w b = 1) (hR : rm_X0_split.frames + 1 ≤ R.frames ∧ 8 + (3 + 11) + rm_X0_split.locals ≤ R.locals) (hf : cells + 0 ≤ R.cells ∧ slots + 0 ≤ R.slots) (hfM : cells + 0 ≤ rmM.cells ∧ slots + 0 ≤ rmM.slots) (hls : ls.size = nL) (hW : (rest.map fun v => v.category).sum ≤ 8) (hdg : decode cc pc = .ok (.invokevirtual 180, 3)) (kk : ∀ (w1 : sj_W) (H : Heap) (locs : List Loc), sj_H G s w1 H locs → Qi w1 → W p l e R s m args below meth c H locs (cells + 0) (slots + 0) (sj_MQ G below QcM QX args s rmM) (F0 m (pc + 3) ls rest)) : W p l e R s m args below meth c H locs cells slots (sj_MQ G below QcM QX args s rmM) (F0 m pc ls (.ref b :: rest)) :=
  sj_cV hD hH (sj_runVN (n := 0) hC hH (As := []) (wk_X0_split G l hC.2.2.2.2.2.2 b w Qi QX hv) (ci := 0) rfl (by decide) hT mb_579 mb_581 mb_s18 mb_2 mb_582 (by decide +kernel) hR hf rfl hls hW hdg) hfM kk
end SJL_X0_split
abbrev rm_X6_factor : Room := { frames := 8, cells := 4, slots := 24, locals := 124 }
def vc_X6_factor (self : Nat) (a1 : Int32) (a2 : Int32) (a3 : Int32) (a4 : Int32) (w : sj_W) (Q : Int32 → sj_W → Prop) (QX : String → sj_W → Prop) : Prop := vc_X6_kindOf a1 w (fun r1 w2 => vc_X6_isUnsigned a2 w2 (fun r4 w5 => sj_T w5 self = 5 ∧ sj_A w5 35 self ≠ 0 ∧ sj_T w5 self = 5 ∧ vc_X6_rowOf self r1 a3 w5 (fun r7 w8 => sj_T w8 (sj_A w5 35 self) = 1 ∧ vc_X0_take (sj_A w5 35 self) r7 r4 w8 (fun w11 => sj_T w11 self = 5 ∧ sj_A w11 35 self ≠ 0 ∧ sj_T w11 (sj_A w11 35 self) = 1 ∧ vc_X0_split (sj_A w11 35 self) w11 (fun w14 => sj_T w14 self = 5 ∧ sj_A w14 35 self ≠ 0 ∧ sj_T w14 (sj_A w14 35 self) = 1 ∧ vc_X6_wantPlace a4 (sj_I w14 4 (sj_A w14 35 self)) w14 (fun w17 => sj_T w17 self = 5 ∧ sj_A w17 35 self ≠ 0 ∧ sj_T w17 (sj_A w17 35 self) = 1 ∧ sj_A w17 3 (sj_A w17 35 self) ≠ 0 ∧ sj_T w17 (sj_A w17 3 (sj_A w17 35 self)) = 7 ∧ vp_in a4 (sj_N w17 (sj_A w17 3 (sj_A w17 35 self))) ∧ Q (sj_i w17 (sj_A w17 3 (sj_A w17 35 self)) a4.toNatClampNeg) w17) QX))) QX) QX) QX
set_option maxHeartbeats 4000000 in
set_option maxRecDepth 100000 in
theorem wk_X6_factor (G : sj_G) (l : Launch) (hlt : l.stackTraces = false) (self : Nat) (a1 : Int32) (a2 : Int32) (a3 : Int32) (a4 : Int32) (w : sj_W) (Q : Int32 → sj_W → Prop) (QX : String → sj_W → Prop) (hv : vc_X6_factor self a1 a2 a3 a4 w Q QX) : sj_MI G l yX6_factor (sj_ws yX6_factor cX6_factor 7 (some .int)) rm_X6_factor [.ref self, .int a1, .int a2, .int a3, .int a4] w Q QX := by
  refine sj_of (by decide +kernel) (Nat.le_of_ble_eq_true rfl) hlt ?_
  intro p e s m args below meth c ls hC hD hr hin hH hl
  have hx := hC.1
  have hb := hC.2.1
  have hl : lv_has ls 7 [(0, .ref self), (1, .int a1), (2, .int a2), (3, .int a3), (4, .int a4)] := hl
  refine lv_iload_n hx hb dX6_factor_0 rfl (lv_at hl 1 rfl) ?_
  refine cl_X6_34 hC hD hH hv ⟨Nat.le_of_ble_eq_true rfl, Nat.le_of_ble_eq_true rfl⟩ ⟨(Nat.le_of_ble_eq_true rfl), (Nat.le_of_ble_eq_true rfl)⟩ ⟨(Nat.le_of_ble_eq_true rfl), (Nat.le_of_ble_eq_true rfl)⟩ hl.1 (Nat.le_of_ble_eq_true rfl) dX6_factor_1 (fun r1 w2 H locs hH hv3 => ?_)
  refine lv_istore (lv' := [(5, .int r1), (0, .ref self), (1, .int a1), (2, .int a2), (3, .int a3), (4, .int a4)]) hx hb dX6_factor_4 hl (by decide) rfl (fun ls hl => ?_)
  refine lv_iload_n hx hb dX6_factor_6 rfl (lv_at hl 3 rfl) ?_
  refine cl_X6_133 hC hD hH hv3 ⟨Nat.le_of_ble_eq_true rfl, Nat.le_of_ble_eq_true rfl⟩ ⟨(Nat.le_of_ble_eq_true rfl), (Nat.le_of_ble_eq_true rfl)⟩ ⟨(Nat.le_of_ble_eq_true rfl), (Nat.le_of_ble_eq_true rfl)⟩ hl.1 (Nat.le_of_ble_eq_true rfl) dX6_factor_7 (fun r4 w5 H locs hH hv6 => ?_)
  refine lv_istore (lv' := [(6, .int r4), (5, .int r1), (0, .ref self), (1, .int a1), (2, .int a2), (3, .int a3), (4, .int a4)]) hx hb dX6_factor_10 hl (by decide) rfl (fun ls hl => ?_)
  refine lv_aload_n hx hb dX6_factor_12 rfl (lv_at hl 2 rfl) ?_
  refine gf_X6_28 hC hH hv6.1 hv6.2.1 dX6_factor_13 ?_
  refine lv_aload_n hx hb dX6_factor_16 rfl (lv_at hl 2 rfl) ?_
  refine lv_iload hx hb dX6_factor_17 (lv_at hl 1 rfl) ?_
  refine lv_iload_n hx hb dX6_factor_19 rfl (lv_at hl 5 rfl) ?_
  refine cl_X6_42 hC hD hH hv6.2.2.2 hv6.2.2.1 ⟨Nat.le_of_ble_eq_true rfl, Nat.le_of_ble_eq_true rfl⟩ ⟨(Nat.le_of_ble_eq_true rfl), (Nat.le_of_ble_eq_true rfl)⟩ ⟨(Nat.le_of_ble_eq_true rfl), (Nat.le_of_ble_eq_true rfl)⟩ hl.1 (Nat.le_of_ble_eq_true rfl) dX6_factor_20 (fun r7 w8 H locs hH hv9 => ?_)
  refine lv_iload hx hb dX6_factor_23 (lv_at hl 0 rfl) ?_
  refine cl_X6_151 hC hD hH hv9.2 hv9.1 ⟨Nat.le_of_ble_eq_true rfl, Nat.le_of_ble_eq_true rfl⟩ ⟨(Nat.le_of_ble_eq_true rfl), (Nat.le_of_ble_eq_true rfl)⟩ ⟨(Nat.le_of_ble_eq_true rfl), (Nat.le_of_ble_eq_true rfl)⟩ hl.1 (Nat.le_of_ble_eq_true rfl) dX6_factor_25 (fun w11 H locs hH hv12 => ?_)
  refine lv_aload_n hx hb dX6_factor_28 rfl (lv_at hl 2 rfl) ?_
  refine gf_X6_28 hC hH hv12.1 hv12.2.1 dX6_factor_29 ?_
  refine cl_X6_180 hC hD hH hv12.2.2.2 hv12.2.2.1 ⟨Nat.le_of_ble_eq_true rfl, Nat.le_of_ble_eq_true rfl⟩ ⟨(Nat.le_of_ble_eq_true rfl), (Nat.le_of_ble_eq_true rfl)⟩ ⟨(Nat.le_of_ble_eq_true rfl), (Nat.le_of_ble_eq_true rfl)⟩ hl.1 (Nat.le_of_ble_eq_true rfl) dX6_factor_32 (fun w14 H locs hH hv15 => ?_)
  refine lv_iload hx hb dX6_factor_35 (lv_at hl 6 rfl) ?_
  refine lv_aload_n hx hb dX6_factor_37 rfl (lv_at hl 2 rfl) ?_
  refine gf_X6_28 hC hH hv15.1 hv15.2.1 dX6_factor_38 ?_
  refine gf_X6_183 hC hH hv15.2.2.1 dX6_factor_41 ?_
  refine cl_X6_61 hC hD hH hv15.2.2.2 ⟨Nat.le_of_ble_eq_true rfl, Nat.le_of_ble_eq_true rfl⟩ ⟨(Nat.le_of_ble_eq_true rfl), (Nat.le_of_ble_eq_true rfl)⟩ ⟨(Nat.le_of_ble_eq_true rfl), (Nat.le_of_ble_eq_true rfl)⟩ hl.1 (Nat.le_of_ble_eq_true rfl) dX6_factor_44 (fun w17 H locs hH hv18 => ?_)
  refine lv_aload_n hx hb dX6_factor_47 rfl (lv_at hl 2 rfl) ?_
  refine gf_X6_28 hC hH hv18.1 hv18.2.1 dX6_factor_48 ?_
  refine gf_X6_186 hC hH hv18.2.2.1 hv18.2.2.2.1 dX6_factor_51 ?_
  refine lv_iload hx hb dX6_factor_54 (lv_at hl 6 rfl) ?_
  refine sj_iald hC hH hv18.2.2.2.2.1 hv18.2.2.2.2.2.1 dX6_factor_56 ?_
  exact sj_retI hC hD hH hr rfl hv18.2.2.2.2.2.2 ⟨(Nat.le_of_ble_eq_true rfl), (Nat.le_of_ble_eq_true rfl)⟩ dX6_factor_57
abbrev rm_X6_factors : Room := { frames := 8, cells := 3, slots := 18, locals := 124 }
def vc_X6_factors (self : Nat) (a1 : Int32) (a2 : Int32) (a3 : Int32) (w : sj_W) (Q : Int32 → sj_W → Prop) (QX : String → sj_W → Prop) : Prop := vc_X6_kindOf a1 w (fun r1 w2 => vc_X6_isUnsigned a2 w2 (fun r4 w5 => sj_T w5 self = 5 ∧ sj_A w5 35 self ≠ 0 ∧ sj_T w5 self = 5 ∧ vc_X6_rowOf self r1 a3 w5 (fun r7 w8 => sj_T w8 (sj_A w5 35 self) = 1 ∧ vc_X0_take (sj_A w5 35 self) r7 r4 w8 (fun w11 => sj_T w11 self = 5 ∧ sj_A w11 35 self ≠ 0 ∧ sj_T w11 (sj_A w11 35 self) = 1 ∧ vc_X0_split (sj_A w11 35 self) w11 (fun w14 => sj_T w14 self = 5 ∧ sj_A w14 35 self ≠ 0 ∧ sj_T w14 (sj_A w14 35 self) = 1 ∧ Q (sj_I w14 4 (sj_A w14 35 self)) w14))) QX) QX) QX
set_option maxHeartbeats 4000000 in
set_option maxRecDepth 100000 in
theorem wk_X6_factors (G : sj_G) (l : Launch) (hlt : l.stackTraces = false) (self : Nat) (a1 : Int32) (a2 : Int32) (a3 : Int32) (w : sj_W) (Q : Int32 → sj_W → Prop) (QX : String → sj_W → Prop) (hv : vc_X6_factors self a1 a2 a3 w Q QX) : sj_MI G l yX6_factors (sj_ws yX6_factors cX6_factors 6 (some .int)) rm_X6_factors [.ref self, .int a1, .int a2, .int a3] w Q QX := by
  refine sj_of (by decide +kernel) (Nat.le_of_ble_eq_true rfl) hlt ?_
  intro p e s m args below meth c ls hC hD hr hin hH hl
  have hx := hC.1
  have hb := hC.2.1
  have hl : lv_has ls 6 [(0, .ref self), (1, .int a1), (2, .int a2), (3, .int a3)] := hl
  refine lv_iload_n hx hb dX6_factors_0 rfl (lv_at hl 1 rfl) ?_
  refine cl_X6_34 hC hD hH hv ⟨Nat.le_of_ble_eq_true rfl, Nat.le_of_ble_eq_true rfl⟩ ⟨(Nat.le_of_ble_eq_true rfl), (Nat.le_of_ble_eq_true rfl)⟩ ⟨(Nat.le_of_ble_eq_true rfl), (Nat.le_of_ble_eq_true rfl)⟩ hl.1 (Nat.le_of_ble_eq_true rfl) dX6_factors_1 (fun r1 w2 H locs hH hv3 => ?_)
  refine lv_istore (lv' := [(4, .int r1), (0, .ref self), (1, .int a1), (2, .int a2), (3, .int a3)]) hx hb dX6_factors_4 hl (by decide) rfl (fun ls hl => ?_)
  refine lv_iload_n hx hb dX6_factors_6 rfl (lv_at hl 3 rfl) ?_
  refine cl_X6_133 hC hD hH hv3 ⟨Nat.le_of_ble_eq_true rfl, Nat.le_of_ble_eq_true rfl⟩ ⟨(Nat.le_of_ble_eq_true rfl), (Nat.le_of_ble_eq_true rfl)⟩ ⟨(Nat.le_of_ble_eq_true rfl), (Nat.le_of_ble_eq_true rfl)⟩ hl.1 (Nat.le_of_ble_eq_true rfl) dX6_factors_7 (fun r4 w5 H locs hH hv6 => ?_)
  refine lv_istore (lv' := [(5, .int r4), (4, .int r1), (0, .ref self), (1, .int a1), (2, .int a2), (3, .int a3)]) hx hb dX6_factors_10 hl (by decide) rfl (fun ls hl => ?_)
  refine lv_aload_n hx hb dX6_factors_12 rfl (lv_at hl 2 rfl) ?_
  refine gf_X6_28 hC hH hv6.1 hv6.2.1 dX6_factors_13 ?_
  refine lv_aload_n hx hb dX6_factors_16 rfl (lv_at hl 2 rfl) ?_
  refine lv_iload hx hb dX6_factors_17 (lv_at hl 1 rfl) ?_
  refine lv_iload_n hx hb dX6_factors_19 rfl (lv_at hl 5 rfl) ?_
  refine cl_X6_42 hC hD hH hv6.2.2.2 hv6.2.2.1 ⟨Nat.le_of_ble_eq_true rfl, Nat.le_of_ble_eq_true rfl⟩ ⟨(Nat.le_of_ble_eq_true rfl), (Nat.le_of_ble_eq_true rfl)⟩ ⟨(Nat.le_of_ble_eq_true rfl), (Nat.le_of_ble_eq_true rfl)⟩ hl.1 (Nat.le_of_ble_eq_true rfl) dX6_factors_20 (fun r7 w8 H locs hH hv9 => ?_)
  refine lv_iload hx hb dX6_factors_23 (lv_at hl 0 rfl) ?_
  refine cl_X6_151 hC hD hH hv9.2 hv9.1 ⟨Nat.le_of_ble_eq_true rfl, Nat.le_of_ble_eq_true rfl⟩ ⟨(Nat.le_of_ble_eq_true rfl), (Nat.le_of_ble_eq_true rfl)⟩ ⟨(Nat.le_of_ble_eq_true rfl), (Nat.le_of_ble_eq_true rfl)⟩ hl.1 (Nat.le_of_ble_eq_true rfl) dX6_factors_25 (fun w11 H locs hH hv12 => ?_)
  refine lv_aload_n hx hb dX6_factors_28 rfl (lv_at hl 2 rfl) ?_
  refine gf_X6_28 hC hH hv12.1 hv12.2.1 dX6_factors_29 ?_
  refine cl_X6_180 hC hD hH hv12.2.2.2 hv12.2.2.1 ⟨Nat.le_of_ble_eq_true rfl, Nat.le_of_ble_eq_true rfl⟩ ⟨(Nat.le_of_ble_eq_true rfl), (Nat.le_of_ble_eq_true rfl)⟩ ⟨(Nat.le_of_ble_eq_true rfl), (Nat.le_of_ble_eq_true rfl)⟩ hl.1 (Nat.le_of_ble_eq_true rfl) dX6_factors_32 (fun w14 H locs hH hv15 => ?_)
  refine lv_aload_n hx hb dX6_factors_35 rfl (lv_at hl 2 rfl) ?_
  refine gf_X6_28 hC hH hv15.1 hv15.2.1 dX6_factors_36 ?_
  refine gf_X6_183 hC hH hv15.2.2.1 dX6_factors_39 ?_
  exact sj_retI hC hD hH hr rfl hv15.2.2.2 ⟨(Nat.le_of_ble_eq_true rfl), (Nat.le_of_ble_eq_true rfl)⟩ dX6_factors_42
abbrev rm_X6_fits : Room := { frames := 7, cells := 2, slots := 12, locals := 103 }
def vc_X6_fits (self : Nat) (a1 : Int32) (a2 : Int32) (w : sj_W) (Q : Int32 → sj_W → Prop) (QX : String → sj_W → Prop) : Prop := vc_X6_kindOf a1 w (fun r1 w2 => sj_T w2 self = 5 ∧ vc_X6_spanOf self a2 w2 (fun r4 w5 => sj_T w5 self = 5 ∧ vc_X6_isFitting self r1 r4 w5 (fun r7 w8 => (r7 = 0 ∨ r7 = 1) ∧ Q r7 w8)) QX) QX
set_option maxHeartbeats 4000000 in
set_option maxRecDepth 100000 in
theorem wk_X6_fits (G : sj_G) (l : Launch) (hlt : l.stackTraces = false) (self : Nat) (a1 : Int32) (a2 : Int32) (w : sj_W) (Q : Int32 → sj_W → Prop) (QX : String → sj_W → Prop) (hv : vc_X6_fits self a1 a2 w Q QX) : sj_MI G l yX6_fits (sj_ws yX6_fits cX6_fits 4 (some .boolean)) rm_X6_fits [.ref self, .int a1, .int a2] w Q QX := by
  refine sj_of (by decide +kernel) (Nat.le_of_ble_eq_true rfl) hlt ?_
  intro p e s m args below meth c ls hC hD hr hin hH hl
  have hx := hC.1
  have hb := hC.2.1
  have hl : lv_has ls 4 [(0, .ref self), (1, .int a1), (2, .int a2)] := hl
  refine lv_iload_n hx hb dX6_fits_0 rfl (lv_at hl 1 rfl) ?_
  refine cl_X6_34 hC hD hH hv ⟨Nat.le_of_ble_eq_true rfl, Nat.le_of_ble_eq_true rfl⟩ ⟨(Nat.le_of_ble_eq_true rfl), (Nat.le_of_ble_eq_true rfl)⟩ ⟨(Nat.le_of_ble_eq_true rfl), (Nat.le_of_ble_eq_true rfl)⟩ hl.1 (Nat.le_of_ble_eq_true rfl) dX6_fits_1 (fun r1 w2 H locs hH hv3 => ?_)
  refine lv_istore_n (lv' := [(3, .int r1), (0, .ref self), (1, .int a1), (2, .int a2)]) hx hb dX6_fits_4 rfl hl (by decide) rfl (fun ls hl => ?_)
  refine lv_aload_n hx hb dX6_fits_5 rfl (lv_at hl 1 rfl) ?_
  refine lv_iload_n hx hb dX6_fits_6 rfl (lv_at hl 0 rfl) ?_
  refine lv_aload_n hx hb dX6_fits_7 rfl (lv_at hl 1 rfl) ?_
  refine lv_iload_n hx hb dX6_fits_8 rfl (lv_at hl 3 rfl) ?_
  refine cl_X6_89 hC hD hH hv3.2 hv3.1 ⟨Nat.le_of_ble_eq_true rfl, Nat.le_of_ble_eq_true rfl⟩ ⟨(Nat.le_of_ble_eq_true rfl), (Nat.le_of_ble_eq_true rfl)⟩ ⟨(Nat.le_of_ble_eq_true rfl), (Nat.le_of_ble_eq_true rfl)⟩ hl.1 (Nat.le_of_ble_eq_true rfl) dX6_fits_9 (fun r4 w5 H locs hH hv6 => ?_)
  refine cl_X6_108 hC hD hH hv6.2 hv6.1 ⟨Nat.le_of_ble_eq_true rfl, Nat.le_of_ble_eq_true rfl⟩ ⟨(Nat.le_of_ble_eq_true rfl), (Nat.le_of_ble_eq_true rfl)⟩ ⟨(Nat.le_of_ble_eq_true rfl), (Nat.le_of_ble_eq_true rfl)⟩ hl.1 (Nat.le_of_ble_eq_true rfl) dX6_fits_12 (fun r7 w8 H locs hH hv9 => ?_)
  exact sj_retI hC hD hH hr (sj_nz hv9.1).1 hv9.2 ⟨(Nat.le_of_ble_eq_true rfl), (Nat.le_of_ble_eq_true rfl)⟩ dX6_fits_15
abbrev rm_X1_hasPeriod : Room := { frames := 0, cells := 0, slots := 0, locals := 0 }
def vb_X1_hasPeriod_2 (f0 : Nat) (f1 : Int32) (Q : Int32 → sj_W → Prop) (E : sj_W → Prop) (K : Int32 → sj_W → Prop) (v2 : Int32) (w : sj_W) : Prop := sj_T w f0 = 2 ∧ (((sj_I w 9 f0) ≤ v2 → E w) ∧ (¬ (sj_I w 9 f0) ≤ v2 → sj_T w f0 = 2 ∧ sj_A w 8 f0 ≠ 0 ∧ sj_T w (sj_A w 8 f0) = 8 ∧ vp_in v2 (sj_N w (sj_A w 8 f0)) ∧ sj_T w f0 = 2 ∧ sj_A w 8 f0 ≠ 0 ∧ sj_T w (sj_A w 8 f0) = 8 ∧ vp_in (v2 - f1) (sj_N w (sj_A w 8 f0)) ∧ (((lg_cmp (sj_l w (sj_A w 8 f0) v2.toNatClampNeg) (sj_l w (sj_A w 8 f0) (v2 - f1).toNatClampNeg)) = 0 → K (v2 + 1) w) ∧ (¬ (lg_cmp (sj_l w (sj_A w 8 f0) v2.toNatClampNeg) (sj_l w (sj_A w 8 f0) (v2 - f1).toNatClampNeg)) = 0 → Q 0 w))))
def vc_X1_hasPeriod (self : Nat) (a1 : Int32) (w : sj_W) (Q : Int32 → sj_W → Prop) : Prop := sj_lp1 (vb_X1_hasPeriod_2 self a1 Q (fun w_2 => Q 1 w_2)) 64 a1 w
set_option maxHeartbeats 4000000 in
set_option maxRecDepth 100000 in
theorem wl_X1_hasPeriod_2 {p : Program} {l : Launch} {e : Env} {s : State} {m : MethodId} {args : Array Value} {below : List Frame} {meth : Method} {c : Code} {G : sj_G} {f0 : Nat} {f1 : Int32} {Q : Int32 → sj_W → Prop} {QX : String → sj_W → Prop} {E : sj_W → Prop} (hC : sj_C G p l s m args c cX1_hasPeriod RX1 3) (hD : sj_D meth c) (hr : meth.sig.returnType = (some .boolean)) (hin : meth.name = "hasPeriod") (hE : ∀ (w : sj_W) (H : Heap) (locs : List Loc) (ls : Array Slot), lv_has ls 3 [] → sj_H G s w H locs → E w → W p l e rm_X1_hasPeriod s m args below meth c H locs 0 0 (sj_MQ G below (va_Qi Q (sj_B G) (sj_F G)) QX args s rm_X1_hasPeriod) (F0 m 36 ls [])) : ∀ (n : Nat) (v2 : Int32) (w : sj_W) (H : Heap) (locs : List Loc) (ls : Array Slot), lv_has ls 3 [(0, .ref f0), (1, .int f1), (2, .int v2)] → sj_H G s w H locs → sj_lp1 (vb_X1_hasPeriod_2 f0 f1 Q E) n v2 w → W p l e rm_X1_hasPeriod s m args below meth c H locs 0 0 (sj_MQ G below (va_Qi Q (sj_B G) (sj_F G)) QX args s rm_X1_hasPeriod) (F0 m 2 ls []) := by
  have hx := hC.1
  have hb := hC.2.1
  intro n
  induction n with
  | zero =>
    intro v2 w H locs ls _ _ hv
    exact hv.elim
  | succ n ih =>
    intro v2 w H locs ls hl hH hv
    have hv : vb_X1_hasPeriod_2 f0 f1 Q E (sj_lp1 (vb_X1_hasPeriod_2 f0 f1 Q E) n) v2 w := hv
    have hc1 : rm_X1_hasPeriod.cells = 0 := rfl
    have hc2 : rm_X1_hasPeriod.slots = 0 := rfl
    refine lv_iload_n hx hb dX1_hasPeriod_2 rfl (lv_at hl 2 rfl) ?_
    refine lv_aload_n hx hb dX1_hasPeriod_3 rfl (lv_at hl 0 rfl) ?_
    refine gf_X1_15 hC hH hv.1 dX1_hasPeriod_4 ?_
    refine lv_icmp_ge (tgt := 36) hx hb dX1_hasPeriod_7 (by decide) (fun hc => ?_) (fun hc => ?_)
    · have hv1 := hv.2.1 hc
      exact hE  w _ _ _ (lv_sub hl [] rfl) hH hv1
    · have hv2 := hv.2.2 hc
      refine lv_aload_n hx hb dX1_hasPeriod_10 rfl (lv_at hl 0 rfl) ?_
      refine gf_X1_9 hC hH hv2.1 hv2.2.1 dX1_hasPeriod_11 ?_
      refine lv_iload_n hx hb dX1_hasPeriod_14 rfl (lv_at hl 2 rfl) ?_
      refine sj_lald hC hH hv2.2.2.1 hv2.2.2.2.1 dX1_hasPeriod_15 ?_
      refine lv_aload_n hx hb dX1_hasPeriod_16 rfl (lv_at hl 0 rfl) ?_
      refine gf_X1_9 hC hH hv2.2.2.2.2.1 hv2.2.2.2.2.2.1 dX1_hasPeriod_17 ?_
      refine lv_iload_n hx hb dX1_hasPeriod_20 rfl (lv_at hl 2 rfl) ?_
      refine lv_iload_n hx hb dX1_hasPeriod_21 rfl (lv_at hl 1 rfl) ?_
      refine lv_isub hx hb dX1_hasPeriod_22 ?_
      refine sj_lald hC hH hv2.2.2.2.2.2.2.1 hv2.2.2.2.2.2.2.2.1 dX1_hasPeriod_23 ?_
      refine W.lcmp hx hb dX1_hasPeriod_24 ?_
      refine lv_if_eq (tgt := 30) hx hb dX1_hasPeriod_25 (by decide) (fun hc => ?_) (fun hc => ?_)
      · have hv3 := hv2.2.2.2.2.2.2.2.2.1 hc
        refine lv_iinc (v := (v2 + 1)) (lv' := [(2, .int (v2 + 1)), (0, .ref f0), (1, .int f1)]) hx hb dX1_hasPeriod_30 hl (k := 2) rfl rfl (by decide) rfl (fun ls hl => ?_)
        refine lv_goto (tgt := 2) hx hb dX1_hasPeriod_33 (by decide) ?_
        exact ih (v2 + 1) w _ _ _ (lv_sub hl [1, 2, 0] rfl) hH hv3
      · have hv4 := hv2.2.2.2.2.2.2.2.2.2 hc
        refine lv_iconst (v := 0) hx hb dX1_hasPeriod_28 (by decide) ?_
        exact sj_retI hC hD hH hr rfl hv4 ⟨(Nat.le_of_ble_eq_true rfl), (Nat.le_of_ble_eq_true rfl)⟩ dX1_hasPeriod_29
set_option maxHeartbeats 4000000 in
set_option maxRecDepth 100000 in
theorem wk_X1_hasPeriod (G : sj_G) (l : Launch) (hlt : l.stackTraces = false) (self : Nat) (a1 : Int32) (w : sj_W) (Q : Int32 → sj_W → Prop) (QX : String → sj_W → Prop) (hv : vc_X1_hasPeriod self a1 w Q) : sj_MI G l yX1_hasPeriod (sj_ws yX1_hasPeriod cX1_hasPeriod 3 (some .boolean)) rm_X1_hasPeriod [.ref self, .int a1] w Q QX := by
  refine sj_of (by decide +kernel) (Nat.le_of_ble_eq_true rfl) hlt ?_
  intro p e s m args below meth c ls hC hD hr hin hH hl
  have hx := hC.1
  have hb := hC.2.1
  have hl : lv_has ls 3 [(0, .ref self), (1, .int a1)] := hl
  refine lv_iload_n hx hb dX1_hasPeriod_0 rfl (lv_at hl 1 rfl) ?_
  refine lv_istore_n (lv' := [(2, .int a1), (0, .ref self), (1, .int a1)]) hx hb dX1_hasPeriod_1 rfl hl (by decide) rfl (fun ls hl => ?_)
  refine wl_X1_hasPeriod_2 hC hD hr hin (fun w_2 H locs ls hl hH hv5 => ?_) 64 a1 w _ _ _ (lv_sub hl [1, 2, 0] rfl) hH hv
  refine lv_iconst (v := 1) hx hb dX1_hasPeriod_36 (by decide) ?_
  exact sj_retI hC hD hH hr rfl hv5 ⟨(Nat.le_of_ble_eq_true rfl), (Nat.le_of_ble_eq_true rfl)⟩ dX1_hasPeriod_37
section SJL_X1_hasPeriod
variable {p : Program} {l : Launch} {e : Env} {R : Room} {s : State} {m : MethodId} {args : Array Value} {below : List Frame} {meth : Method} {c : Code} {H : Heap} {locs : List Loc} {cells slots : Nat} {Q : State → Prop} {cc : ByteArray} {pc : Nat} {ls : Array Slot} {rest : List Value} {G : sj_G} {nL : Nat} {w : sj_W}
theorem cl_X6_172 {rmM : Room} {QcM : Array Value → State → Outcome → State → Prop} {QX : String → sj_W → Prop} {b : Nat} {b0 : Int32} {Qi : Int32 → sj_W → Prop} (hC : sj_C G p l s m args c cc RX6 nL) (hD : sj_D meth c) (hH : sj_H G s w H locs) (hv : vc_X1_hasPeriod b b0 w Qi) (hT : sj_T w b = 2) (hR : rm_X1_hasPeriod.frames + 1 ≤ R.frames ∧ 8 + (3 + 11) + rm_X1_hasPeriod.locals ≤ R.locals) (hf : cells + 0 ≤ R.cells ∧ slots + 0 ≤ R.slots) (hfM : cells + 0 ≤ rmM.cells ∧ slots + 0 ≤ rmM.slots) (hls : ls.size = nL) (hW : (rest.map fun v => v.category).sum ≤ 8) (hdg : decode cc pc = .ok (.invokevirtual 172, 3)) (kk : ∀ (r : Int32) (w1 : sj_W) (H : Heap) (locs : List Loc), sj_H G s w1 H locs → Qi r w1 → W p l e R s m args below meth c H locs (cells + 0) (slots + 0) (sj_MQ G below QcM QX args s rmM) (F0 m (pc + 3) ls (.int r :: rest))) : W p l e R s m args below meth c H locs cells slots (sj_MQ G below QcM QX args s rmM) (F0 m pc ls (.int b0 :: .ref b :: rest)) :=
  sj_cI hD hH (sj_runVN (n := 1) hC hH (As := [.int b0]) (wk_X1_hasPeriod G l hC.2.2.2.2.2.2 b b0 w Qi QX hv) (ci := 1) rfl (by decide) hT mb_538 mb_540 mb_s15 mb_3 mb_541 (by decide +kernel) hR hf rfl hls hW hdg) hfM kk
theorem cl_X2_32 {rmM : Room} {QcM : Array Value → State → Outcome → State → Prop} {QX : String → sj_W → Prop} {b : Nat} {b0 : Int32} {Qi : Int32 → sj_W → Prop} (hC : sj_C G p l s m args c cc RX2 nL) (hD : sj_D meth c) (hH : sj_H G s w H locs) (hv : vc_X1_hasPeriod b b0 w Qi) (hT : sj_T w b = 2) (hR : rm_X1_hasPeriod.frames + 1 ≤ R.frames ∧ 8 + (3 + 11) + rm_X1_hasPeriod.locals ≤ R.locals) (hf : cells + 0 ≤ R.cells ∧ slots + 0 ≤ R.slots) (hfM : cells + 0 ≤ rmM.cells ∧ slots + 0 ≤ rmM.slots) (hls : ls.size = nL) (hW : (rest.map fun v => v.category).sum ≤ 8) (hdg : decode cc pc = .ok (.invokevirtual 32, 3)) (kk : ∀ (r : Int32) (w1 : sj_W) (H : Heap) (locs : List Loc), sj_H G s w1 H locs → Qi r w1 → W p l e R s m args below meth c H locs (cells + 0) (slots + 0) (sj_MQ G below QcM QX args s rmM) (F0 m (pc + 3) ls (.int r :: rest))) : W p l e R s m args below meth c H locs cells slots (sj_MQ G below QcM QX args s rmM) (F0 m pc ls (.int b0 :: .ref b :: rest)) :=
  sj_cI hD hH (sj_runVN (n := 1) hC hH (As := [.int b0]) (wk_X1_hasPeriod G l hC.2.2.2.2.2.2 b b0 w Qi QX hv) (ci := 1) rfl (by decide) hT mb_676 mb_540 mb_s15 mb_3 mb_541 (by decide +kernel) hR hf rfl hls hW hdg) hfM kk
end SJL_X1_hasPeriod
abbrev rm_X6_isPeriod : Room := { frames := 8, cells := 3, slots := 18, locals := 124 }
def vc_X6_isPeriod (self : Nat) (a1 : Int32) (a2 : Int32) (a3 : Int32) (w : sj_W) (Q : Int32 → sj_W → Prop) (QX : String → sj_W → Prop) : Prop := vc_X6_kindOf a1 w (fun r1 w2 => sj_T w2 self = 5 ∧ vc_X6_rowOf self r1 a2 w2 (fun r4 w5 => ((a3 < 1 → QX "java/lang/IndexOutOfBoundsException" w5) ∧ (¬ a3 < 1 → sj_T w5 r4 = 2 ∧ ((a3 ≤ (sj_I w5 9 r4) → sj_T w5 r4 = 2 ∧ vc_X1_hasPeriod r4 a3 w5 (fun r10 w11 => (r10 = 0 ∨ r10 = 1) ∧ Q r10 w11)) ∧ (¬ a3 ≤ (sj_I w5 9 r4) → QX "java/lang/IndexOutOfBoundsException" w5))))) QX) QX
set_option maxHeartbeats 4000000 in
set_option maxRecDepth 100000 in
theorem wk_X6_isPeriod (G : sj_G) (l : Launch) (hlt : l.stackTraces = false) (self : Nat) (a1 : Int32) (a2 : Int32) (a3 : Int32) (w : sj_W) (Q : Int32 → sj_W → Prop) (QX : String → sj_W → Prop) (hv : vc_X6_isPeriod self a1 a2 a3 w Q QX) : sj_MI G l yX6_isPeriod (sj_ws yX6_isPeriod cX6_isPeriod 5 (some .boolean)) rm_X6_isPeriod [.ref self, .int a1, .int a2, .int a3] w Q QX := by
  refine sj_of (by decide +kernel) (Nat.le_of_ble_eq_true rfl) hlt ?_
  intro p e s m args below meth c ls hC hD hr hin hH hl
  have hx := hC.1
  have hb := hC.2.1
  have hl : lv_has ls 5 [(0, .ref self), (1, .int a1), (2, .int a2), (3, .int a3)] := hl
  refine lv_aload_n hx hb dX6_isPeriod_0 rfl (lv_at hl 0 rfl) ?_
  refine lv_iload_n hx hb dX6_isPeriod_1 rfl (lv_at hl 1 rfl) ?_
  refine cl_X6_34 hC hD hH hv ⟨Nat.le_of_ble_eq_true rfl, Nat.le_of_ble_eq_true rfl⟩ ⟨(Nat.le_of_ble_eq_true rfl), (Nat.le_of_ble_eq_true rfl)⟩ ⟨(Nat.le_of_ble_eq_true rfl), (Nat.le_of_ble_eq_true rfl)⟩ hl.1 (Nat.le_of_ble_eq_true rfl) dX6_isPeriod_2 (fun r1 w2 H locs hH hv3 => ?_)
  refine lv_iload_n hx hb dX6_isPeriod_5 rfl (lv_at hl 2 rfl) ?_
  refine cl_X6_42 hC hD hH hv3.2 hv3.1 ⟨Nat.le_of_ble_eq_true rfl, Nat.le_of_ble_eq_true rfl⟩ ⟨(Nat.le_of_ble_eq_true rfl), (Nat.le_of_ble_eq_true rfl)⟩ ⟨(Nat.le_of_ble_eq_true rfl), (Nat.le_of_ble_eq_true rfl)⟩ hl.1 (Nat.le_of_ble_eq_true rfl) dX6_isPeriod_6 (fun r4 w5 H locs hH hv6 => ?_)
  refine lv_astore (lv' := [(4, .ref r4), (0, .ref self), (1, .int a1), (2, .int a2), (3, .int a3)]) hx hb dX6_isPeriod_9 hl (by decide) rfl (fun ls hl => ?_)
  refine lv_iload_n hx hb dX6_isPeriod_11 rfl (lv_at hl 4 rfl) ?_
  refine lv_iconst (v := 1) hx hb dX6_isPeriod_12 (by decide) ?_
  refine lv_icmp_lt (tgt := 25) hx hb dX6_isPeriod_13 (by decide) (fun hc => ?_) (fun hc => ?_)
  · have hv7 := hv6.1 hc
    exact th_X6_170_76 hC hD hH hl.1 dX6_isPeriod_25 dX6_isPeriod_28 dX6_isPeriod_29 dX6_isPeriod_31 dX6_isPeriod_34 ⟨Nat.le_of_ble_eq_true rfl, Nat.le_of_ble_eq_true rfl⟩ ⟨(Nat.le_of_ble_eq_true rfl), (Nat.le_of_ble_eq_true rfl)⟩ ⟨(Nat.le_of_ble_eq_true rfl), (Nat.le_of_ble_eq_true rfl)⟩ hv7
  · have hv8 := hv6.2 hc
    refine lv_iload_n hx hb dX6_isPeriod_16 rfl (lv_at hl 4 rfl) ?_
    refine lv_aload hx hb dX6_isPeriod_17 (lv_at hl 0 rfl) ?_
    refine gf_X6_46 hC hH hv8.1 dX6_isPeriod_19 ?_
    refine lv_icmp_le (tgt := 35) hx hb dX6_isPeriod_22 (by decide) (fun hc => ?_) (fun hc => ?_)
    · have hv9 := hv8.2.1 hc
      refine lv_aload hx hb dX6_isPeriod_35 (lv_at hl 0 rfl) ?_
      refine lv_iload_n hx hb dX6_isPeriod_37 rfl (lv_at hl 4 rfl) ?_
      refine cl_X6_172 hC hD hH hv9.2 hv9.1 ⟨Nat.le_of_ble_eq_true rfl, Nat.le_of_ble_eq_true rfl⟩ ⟨(Nat.le_of_ble_eq_true rfl), (Nat.le_of_ble_eq_true rfl)⟩ ⟨(Nat.le_of_ble_eq_true rfl), (Nat.le_of_ble_eq_true rfl)⟩ hl.1 (Nat.le_of_ble_eq_true rfl) dX6_isPeriod_38 (fun r10 w11 H locs hH hv12 => ?_)
      exact sj_retI hC hD hH hr (sj_nz hv12.1).1 hv12.2 ⟨(Nat.le_of_ble_eq_true rfl), (Nat.le_of_ble_eq_true rfl)⟩ dX6_isPeriod_41
    · have hv13 := hv8.2.2 hc
      exact th_X6_170_76 hC hD hH hl.1 dX6_isPeriod_25 dX6_isPeriod_28 dX6_isPeriod_29 dX6_isPeriod_31 dX6_isPeriod_34 ⟨Nat.le_of_ble_eq_true rfl, Nat.le_of_ble_eq_true rfl⟩ ⟨(Nat.le_of_ble_eq_true rfl), (Nat.le_of_ble_eq_true rfl)⟩ ⟨(Nat.le_of_ble_eq_true rfl), (Nat.le_of_ble_eq_true rfl)⟩ hv13
abbrev rm_X4_changedBy : Room := { frames := 2, cells := 2, slots := 35, locals := 35 }
def vb_X4_changedBy_10 (f0 : Nat) (f1 : Int32) (f2 : Int32) (f3 : Nat) (Q : Nat → sj_W → Prop) (E : sj_W → Prop) (K : Int32 → sj_W → Prop) (v4 : Int32) (w : sj_W) : Prop := (7 ≤ sj_T w f3 ∧ sj_T w f3 ≤ 13) ∧ (((nI (sj_N w f3)) ≤ v4 → E w) ∧ (¬ (nI (sj_N w f3)) ≤ v4 → sj_T w f0 = 4 ∧ vc_X4_at f0 v4 w (fun r11 w12 => vc_X6_changed f1 f2 r11 w12 (fun r14 w15 => sj_T w15 f3 = 8 ∧ vp_in v4 (sj_N w15 f3) ∧ ∀ w17 : sj_W, w17 = sj_sl w15 f3 v4.toNatClampNeg r14 → K (v4 + 1) w17))))
def vc_X4_changedBy (self : Nat) (a1 : Int32) (a2 : Int32) (w : sj_W) (Q : Nat → sj_W → Prop) : Prop := sj_T w self = 4 ∧ vc_X4_size self w (fun r1 w2 => ¬ r1 < 0 ∧ r1.toNatClampNeg ≤ 32 ∧ ∀ q4 : Nat, q4 ≠ 0 → sj_T w2 q4 = 0 → ∀ w5 : sj_W, w5 = sj_nw w2 q4 8 r1.toNatClampNeg → sj_lp1 (vb_X4_changedBy_10 self a1 a2 q4 Q (fun w_10 => ∀ q20 : Nat, q20 ≠ 0 → sj_T w_10 q20 = 0 → ∀ w21 : sj_W, w21 = sj_nw w_10 q20 4 0 → (7 ≤ sj_T w21 q4 ∧ sj_T w21 q4 ≤ 13) ∧ vc_X4_init q20 q4 0 (nI (sj_N w21 q4)) w21 (fun w26 => Q q20 w26))) 64 0 w5)
set_option maxHeartbeats 4000000 in
set_option maxRecDepth 100000 in
theorem wl_X4_changedBy_10 {p : Program} {l : Launch} {e : Env} {s : State} {m : MethodId} {args : Array Value} {below : List Frame} {meth : Method} {c : Code} {G : sj_G} {f0 : Nat} {f1 : Int32} {f2 : Int32} {f3 : Nat} {Q : Nat → sj_W → Prop} {QX : String → sj_W → Prop} {E : sj_W → Prop} (hC : sj_C G p l s m args c cX4_changedBy RX4 5) (hD : sj_D meth c) (hr : meth.sig.returnType = (some (.object "Spanjudge$Word"))) (hin : meth.name = "changedBy") (hE : ∀ (w : sj_W) (H : Heap) (locs : List Loc) (ls : Array Slot), lv_has ls 5 [(3, .ref f3)] → sj_H G s w H locs → E w → W p l e rm_X4_changedBy s m args below meth c H locs 1 32 (sj_MQ G below (va_Qq (sj_QR Q) (sj_B G) (sj_F G)) QX args s rm_X4_changedBy) (F0 m 38 ls [])) : ∀ (n : Nat) (v4 : Int32) (w : sj_W) (H : Heap) (locs : List Loc) (ls : Array Slot), lv_has ls 5 [(0, .ref f0), (1, .int f1), (2, .int f2), (3, .ref f3), (4, .int v4)] → sj_H G s w H locs → sj_lp1 (vb_X4_changedBy_10 f0 f1 f2 f3 Q E) n v4 w → W p l e rm_X4_changedBy s m args below meth c H locs 1 32 (sj_MQ G below (va_Qq (sj_QR Q) (sj_B G) (sj_F G)) QX args s rm_X4_changedBy) (F0 m 10 ls []) := by
  have hx := hC.1
  have hb := hC.2.1
  intro n
  induction n with
  | zero =>
    intro v4 w H locs ls _ _ hv
    exact hv.elim
  | succ n ih =>
    intro v4 w H locs ls hl hH hv
    have hv : vb_X4_changedBy_10 f0 f1 f2 f3 Q E (sj_lp1 (vb_X4_changedBy_10 f0 f1 f2 f3 Q E) n) v4 w := hv
    have hc1 : rm_X4_changedBy.cells = 2 := rfl
    have hc2 : rm_X4_changedBy.slots = 35 := rfl
    refine lv_iload hx hb dX4_changedBy_10 (lv_at hl 4 rfl) ?_
    refine lv_aload_n hx hb dX4_changedBy_12 rfl (lv_at hl 3 rfl) ?_
    refine sj_alen hC hH hv.1 dX4_changedBy_13 ?_
    refine lv_icmp_ge (tgt := 38) hx hb dX4_changedBy_14 (by decide) (fun hc => ?_) (fun hc => ?_)
    · have hv9 := hv.2.1 hc
      exact hE  w _ _ _ (lv_sub hl [3] rfl) hH hv9
    · have hv10 := hv.2.2 hc
      refine lv_aload_n hx hb dX4_changedBy_17 rfl (lv_at hl 3 rfl) ?_
      refine lv_iload hx hb dX4_changedBy_18 (lv_at hl 4 rfl) ?_
      refine lv_iload_n hx hb dX4_changedBy_20 rfl (lv_at hl 1 rfl) ?_
      refine lv_iload_n hx hb dX4_changedBy_21 rfl (lv_at hl 2 rfl) ?_
      refine lv_aload_n hx hb dX4_changedBy_22 rfl (lv_at hl 0 rfl) ?_
      refine lv_iload hx hb dX4_changedBy_23 (lv_at hl 4 rfl) ?_
      refine cl_X4_24 hC hD hH hv10.2 hv10.1 ⟨Nat.le_of_ble_eq_true rfl, Nat.le_of_ble_eq_true rfl⟩ ⟨(Nat.le_of_ble_eq_true rfl), (Nat.le_of_ble_eq_true rfl)⟩ ⟨(Nat.le_of_ble_eq_true rfl), (Nat.le_of_ble_eq_true rfl)⟩ hl.1 (Nat.le_of_ble_eq_true rfl) dX4_changedBy_25 (fun r11 w12 H locs hH hv13 => ?_)
      refine cl_X4_28 hC hD hH hv13 ⟨Nat.le_of_ble_eq_true rfl, Nat.le_of_ble_eq_true rfl⟩ ⟨(Nat.le_of_ble_eq_true rfl), (Nat.le_of_ble_eq_true rfl)⟩ ⟨(Nat.le_of_ble_eq_true rfl), (Nat.le_of_ble_eq_true rfl)⟩ hl.1 (Nat.le_of_ble_eq_true rfl) dX4_changedBy_28 (fun r14 w15 H locs hH hv16 => ?_)
      refine sj_last hC hH hv16.1 hv16.2.1 dX4_changedBy_31 (fun w17 H locs e18 hH => ?_)
      refine lv_iinc (v := (v4 + 1)) (lv' := [(4, .int (v4 + 1)), (0, .ref f0), (1, .int f1), (2, .int f2), (3, .ref f3)]) hx hb dX4_changedBy_32 hl (k := 4) rfl rfl (by decide) rfl (fun ls hl => ?_)
      refine lv_goto (tgt := 10) hx hb dX4_changedBy_35 (by decide) ?_
      exact ih (v4 + 1) w17 _ _ _ (lv_sub hl [1, 2, 3, 4, 0] rfl) hH (hv16.2.2 w17 e18)
set_option maxHeartbeats 4000000 in
set_option maxRecDepth 100000 in
theorem wk_X4_changedBy (G : sj_G) (l : Launch) (hlt : l.stackTraces = false) (self : Nat) (a1 : Int32) (a2 : Int32) (w : sj_W) (Q : Nat → sj_W → Prop) (QX : String → sj_W → Prop) (hv : vc_X4_changedBy self a1 a2 w Q) : sj_MR G l yX4_changedBy (sj_ws yX4_changedBy cX4_changedBy 5 (some (.object "Spanjudge$Word"))) rm_X4_changedBy [.ref self, .int a1, .int a2] w Q QX := by
  refine sj_of (by decide +kernel) (Nat.le_of_ble_eq_true rfl) hlt ?_
  intro p e s m args below meth c ls hC hD hr hin hH hl
  have hx := hC.1
  have hb := hC.2.1
  have hl : lv_has ls 5 [(0, .ref self), (1, .int a1), (2, .int a2)] := hl
  refine lv_aload_n hx hb dX4_changedBy_0 rfl (lv_at hl 0 rfl) ?_
  refine cl_X4_20 hC hD hH hv.2 hv.1 ⟨Nat.le_of_ble_eq_true rfl, Nat.le_of_ble_eq_true rfl⟩ ⟨(Nat.le_of_ble_eq_true rfl), (Nat.le_of_ble_eq_true rfl)⟩ ⟨(Nat.le_of_ble_eq_true rfl), (Nat.le_of_ble_eq_true rfl)⟩ hl.1 (Nat.le_of_ble_eq_true rfl) dX4_changedBy_1 (fun r1 w2 H locs hH hv3 => ?_)
  have hN := hv3.2.1
  refine sj_newJ hC hH mb_70 hv3.1 rfl (Nat.le_trans hN (by decide)) (Nat.le_of_ble_eq_true rfl) (Nat.le_trans (Nat.add_le_add_left hN _) (Nat.le_of_ble_eq_true rfl)) dX4_changedBy_4 (fun q4 w5 H h7 h8 e6 hH => ?_)
  refine W.widen (k := 1) (n := 32) (Nat.le_refl _) (Nat.add_le_add_left hN _) ?_
  refine lv_astore_n (lv' := [(3, .ref q4), (0, .ref self), (1, .int a1), (2, .int a2)]) hx hb dX4_changedBy_6 rfl hl (by decide) rfl (fun ls hl => ?_)
  refine lv_iconst (v := 0) hx hb dX4_changedBy_7 (by decide) ?_
  refine lv_istore (lv' := [(4, .int 0), (3, .ref q4), (0, .ref self), (1, .int a1), (2, .int a2)]) hx hb dX4_changedBy_8 hl (by decide) rfl (fun ls hl => ?_)
  refine wl_X4_changedBy_10 hC hD hr hin (fun w_10 H locs ls hl hH hv19 => ?_) 64 0 w5 _ _ _ (lv_sub hl [2, 3, 4, 1, 0] rfl) hH (hv3.2.2 q4 h7 h8 w5 e6)
  refine nw_X4_8 hC hH (Nat.le_of_ble_eq_true rfl) (Nat.le_of_ble_eq_true rfl) dX4_changedBy_38 (fun q20 w21 H h23 h24 e22 hH => ?_)
  refine lv_dup hx hb dX4_changedBy_41 rfl ?_
  refine lv_aload_n hx hb dX4_changedBy_42 rfl (lv_at hl 0 rfl) ?_
  refine lv_iconst (v := 0) hx hb dX4_changedBy_43 (by decide) ?_
  refine lv_aload_n hx hb dX4_changedBy_44 rfl (lv_at hl 0 rfl) ?_
  refine sj_alen hC hH (hv19 q20 h23 h24 w21 e22).1 dX4_changedBy_45 ?_
  refine cl_X4_34 hC hD hH (hv19 q20 h23 h24 w21 e22).2 ⟨Nat.le_of_ble_eq_true rfl, Nat.le_of_ble_eq_true rfl⟩ ⟨(Nat.le_of_ble_eq_true rfl), (Nat.le_of_ble_eq_true rfl)⟩ ⟨(Nat.le_of_ble_eq_true rfl), (Nat.le_of_ble_eq_true rfl)⟩ hl.1 (Nat.le_of_ble_eq_true rfl) dX4_changedBy_46 (fun w26 H locs hH hv27 => ?_)
  exact sj_retR (Or.inl ⟨_, rfl⟩) hC hD hH hr hv27 ⟨(Nat.le_of_ble_eq_true rfl), (Nat.le_of_ble_eq_true rfl)⟩ dX4_changedBy_49
section SJL_X4_changedBy
variable {p : Program} {l : Launch} {e : Env} {R : Room} {s : State} {m : MethodId} {args : Array Value} {below : List Frame} {meth : Method} {c : Code} {H : Heap} {locs : List Loc} {cells slots : Nat} {Q : State → Prop} {cc : ByteArray} {pc : Nat} {ls : Array Slot} {rest : List Value} {G : sj_G} {nL : Nat} {w : sj_W}
theorem cl_X5_33 {rmM : Room} {QcM : Array Value → State → Outcome → State → Prop} {QX : String → sj_W → Prop} {b : Nat} {b0 : Int32} {b1 : Int32} {Qi : Nat → sj_W → Prop} (hC : sj_C G p l s m args c cc RX5 nL) (hD : sj_D meth c) (hH : sj_H G s w H locs) (hv : vc_X4_changedBy b b0 b1 w Qi) (hT : sj_T w b = 4) (hR : rm_X4_changedBy.frames + 1 ≤ R.frames ∧ 8 + (5 + 11) + rm_X4_changedBy.locals ≤ R.locals) (hf : cells + 2 ≤ R.cells ∧ slots + 35 ≤ R.slots) (hfM : cells + 2 ≤ rmM.cells ∧ slots + 35 ≤ rmM.slots) (hls : ls.size = nL) (hW : (rest.map fun v => v.category).sum ≤ 8) (hdg : decode cc pc = .ok (.invokevirtual 33, 3)) (kk : ∀ (r : Nat) (w1 : sj_W) (H : Heap) (locs : List Loc), sj_H G s w1 H locs → Qi r w1 → W p l e R s m args below meth c H locs (cells + 2) (slots + 35) (sj_MQ G below QcM QX args s rmM) (F0 m (pc + 3) ls (.ref r :: rest))) : W p l e R s m args below meth c H locs cells slots (sj_MQ G below QcM QX args s rmM) (F0 m pc ls (.int b1 :: .int b0 :: .ref b :: rest)) :=
  sj_cR hD hH (sj_runVN (n := 2) hC hH (As := [.int b0, .int b1]) (wk_X4_changedBy G l hC.2.2.2.2.2.2 b b0 b1 w Qi QX hv) (ci := 3) rfl (by decide) hT mb_629 mb_631 mb_s21 mb_12 mb_632 (by decide +kernel) hR hf rfl hls hW hdg) hfM kk
end SJL_X4_changedBy
abbrev rm_X5_changedWords : Room := { frames := 3, cells := 13, slots := 213, locals := 59 }
def vb_X5_changedWords_9 (f0 : Int32) (f1 : Int32) (f2 : Nat) (f3 : Nat) (Q : Nat → sj_W → Prop) (E : sj_W → Prop) (K : Int32 → sj_W → Prop) (v4 : Int32) (w : sj_W) : Prop := (7 ≤ sj_T w f2 ∧ sj_T w f2 ≤ 13) ∧ (((nI (sj_N w f2)) ≤ v4 → E w) ∧ (¬ (nI (sj_N w f2)) ≤ v4 → (sj_T w f2 = 10 ∨ sj_T w f2 = 11 ∨ sj_T w f2 = 12) ∧ vp_in v4 (sj_N w f2) ∧ (sj_r w f2 v4.toNatClampNeg) ≠ 0 ∧ sj_T w (sj_r w f2 v4.toNatClampNeg) = 4 ∧ vc_X4_changedBy (sj_r w f2 v4.toNatClampNeg) f0 f1 w (fun r8 w9 => sj_T w9 f3 = 12 ∧ sj_T w9 r8 = 4 ∧ vp_in v4 (sj_N w9 f3) ∧ r8 ≠ 0 ∧ ∀ w11 : sj_W, w11 = sj_sr w9 f3 v4.toNatClampNeg r8 → K (v4 + 1) w11)))
def vc_X5_changedWords (a1 : Int32) (a2 : Int32) (a3 : Nat) (w : sj_W) (Q : Nat → sj_W → Prop) : Prop := (7 ≤ sj_T w a3 ∧ sj_T w a3 ≤ 13) ∧ ¬ (nI (sj_N w a3)) < 0 ∧ (nI (sj_N w a3)).toNatClampNeg ≤ 3 ∧ ∀ q1 : Nat, q1 ≠ 0 → sj_T w q1 = 0 → ∀ w2 : sj_W, w2 = sj_nw w q1 12 (nI (sj_N w a3)).toNatClampNeg → sj_lp1 (vb_X5_changedWords_9 a1 a2 a3 q1 Q (fun w_9 => Q q1 w_9)) 5 0 w2
set_option maxHeartbeats 4000000 in
set_option maxRecDepth 100000 in
theorem wl_X5_changedWords_9 {p : Program} {l : Launch} {e : Env} {s : State} {m : MethodId} {args : Array Value} {below : List Frame} {meth : Method} {c : Code} {G : sj_G} {f0 : Int32} {f1 : Int32} {f2 : Nat} {f3 : Nat} {Q : Nat → sj_W → Prop} {QX : String → sj_W → Prop} {E : sj_W → Prop} (hC : sj_C G p l s m args c cX5_changedWords RX5 5) (hD : sj_D meth c) (hr : meth.sig.returnType = (some (.array (.object "Spanjudge$Word")))) (hin : meth.name = "changedWords") (hE : ∀ (w : sj_W) (H : Heap) (locs : List Loc) (ls : Array Slot), lv_has ls 5 [(3, .ref f3)] → sj_H G s w H locs → E w → W p l e rm_X5_changedWords s m args below meth c H locs 11 178 (sj_MQ G below (va_Qq (sj_QR Q) (sj_B G) (sj_F G)) QX args s rm_X5_changedWords) (F0 m 35 ls [])) : ∀ (n : Nat) (v4 : Int32) (w : sj_W) (H : Heap) (locs : List Loc) (ls : Array Slot) (cells slots : Nat), cells + n * 2 ≤ 11 → slots + n * 35 ≤ 178 → lv_has ls 5 [(0, .int f0), (1, .int f1), (2, .ref f2), (3, .ref f3), (4, .int v4)] → sj_H G s w H locs → sj_lp1 (vb_X5_changedWords_9 f0 f1 f2 f3 Q E) n v4 w → W p l e rm_X5_changedWords s m args below meth c H locs cells slots (sj_MQ G below (va_Qq (sj_QR Q) (sj_B G) (sj_F G)) QX args s rm_X5_changedWords) (F0 m 9 ls []) := by
  have hx := hC.1
  have hb := hC.2.1
  intro n
  induction n with
  | zero =>
    intro v4 w H locs ls cells slots _ _ _ _ hv
    exact hv.elim
  | succ n ih =>
    intro v4 w H locs ls cells slots hcc hcs hl hH hv
    have hv : vb_X5_changedWords_9 f0 f1 f2 f3 Q E (sj_lp1 (vb_X5_changedWords_9 f0 f1 f2 f3 Q E) n) v4 w := hv
    have hc1 : rm_X5_changedWords.cells = 13 := rfl
    have hc2 : rm_X5_changedWords.slots = 213 := rfl
    refine lv_iload hx hb dX5_changedWords_9 (lv_at hl 4 rfl) ?_
    refine lv_aload_n hx hb dX5_changedWords_11 rfl (lv_at hl 2 rfl) ?_
    refine sj_alen hC hH hv.1 dX5_changedWords_12 ?_
    refine lv_icmp_ge (tgt := 35) hx hb dX5_changedWords_13 (by decide) (fun hc => ?_) (fun hc => ?_)
    · have hv6 := hv.2.1 hc
      refine W.widen (k := 11) (n := 178) (by omega) (by omega) ?_
      exact hE  w _ _ _ (lv_sub hl [3] rfl) hH hv6
    · have hv7 := hv.2.2 hc
      refine lv_aload_n hx hb dX5_changedWords_16 rfl (lv_at hl 3 rfl) ?_
      refine lv_iload hx hb dX5_changedWords_17 (lv_at hl 4 rfl) ?_
      refine lv_aload_n hx hb dX5_changedWords_19 rfl (lv_at hl 2 rfl) ?_
      refine lv_iload hx hb dX5_changedWords_20 (lv_at hl 4 rfl) ?_
      refine sj_aald hC hH hv7.1 hv7.2.1 hv7.2.2.1 dX5_changedWords_22 ?_
      refine lv_iload_n hx hb dX5_changedWords_23 rfl (lv_at hl 0 rfl) ?_
      refine lv_iload_n hx hb dX5_changedWords_24 rfl (lv_at hl 1 rfl) ?_
      refine cl_X5_33 hC hD hH hv7.2.2.2.2 hv7.2.2.2.1 ⟨Nat.le_of_ble_eq_true rfl, Nat.le_of_ble_eq_true rfl⟩ ⟨(by have hc1 : rm_X5_changedWords.cells = 13 := rfl; omega), (by have hc1 : rm_X5_changedWords.slots = 213 := rfl; omega)⟩ ⟨(by have hc1 : rm_X5_changedWords.cells = 13 := rfl; omega), (by have hc1 : rm_X5_changedWords.slots = 213 := rfl; omega)⟩ hl.1 (Nat.le_of_ble_eq_true rfl) dX5_changedWords_25 (fun r8 w9 H locs hH hv10 => ?_)
      refine sj_aast (t := 5) (ci := 3) (r := (RX4, TX4, 3)) hC hH hv10.1 (by decide) rfl (by decide) rfl hv10.2.1 hv10.2.2.1 hv10.2.2.2.1 dX5_changedWords_28 (fun w11 H locs e12 hH => ?_)
      refine lv_iinc (v := (v4 + 1)) (lv' := [(4, .int (v4 + 1)), (0, .int f0), (1, .int f1), (2, .ref f2), (3, .ref f3)]) hx hb dX5_changedWords_29 hl (k := 4) rfl rfl (by decide) rfl (fun ls hl => ?_)
      refine lv_goto (tgt := 9) hx hb dX5_changedWords_32 (by decide) ?_
      refine W.widen (k := cells + 2) (n := slots + 35) (by omega) (by omega) ?_
      exact ih (v4 + 1) w11 _ _ _ _ _ (by omega) (by omega) (lv_sub hl [1, 2, 3, 4, 0] rfl) hH (hv10.2.2.2.2 w11 e12)
set_option maxHeartbeats 4000000 in
set_option maxRecDepth 100000 in
theorem wk_X5_changedWords (G : sj_G) (l : Launch) (hlt : l.stackTraces = false) (a1 : Int32) (a2 : Int32) (a3 : Nat) (w : sj_W) (Q : Nat → sj_W → Prop) (QX : String → sj_W → Prop) (hv : vc_X5_changedWords a1 a2 a3 w Q) : sj_MR G l yX5_changedWords (sj_ws yX5_changedWords cX5_changedWords 5 (some (.array (.object "Spanjudge$Word")))) rm_X5_changedWords [.int a1, .int a2, .ref a3] w Q QX := by
  refine sj_of (by decide +kernel) (Nat.le_of_ble_eq_true rfl) hlt ?_
  intro p e s m args below meth c ls hC hD hr hin hH hl
  have hx := hC.1
  have hb := hC.2.1
  have hl : lv_has ls 5 [(0, .int a1), (1, .int a2), (2, .ref a3)] := hl
  refine lv_aload_n hx hb dX5_changedWords_0 rfl (lv_at hl 2 rfl) ?_
  refine sj_alen hC hH hv.1 dX5_changedWords_1 ?_
  have hN := hv.2.2.1
  refine sj_newQ (t := 5) hC hH (by decide) (by decide) mb_628 rfl hv.2.1 rfl (Nat.le_trans hN (by decide)) (Nat.le_of_ble_eq_true rfl) (Nat.le_trans (Nat.add_le_add_left hN _) (Nat.le_of_ble_eq_true rfl)) dX5_changedWords_2 (fun q1 w2 H h4 h5 e3 hH => ?_)
  refine W.widen (k := 1) (n := 3) (Nat.le_refl _) (Nat.add_le_add_left hN _) ?_
  refine lv_astore_n (lv' := [(3, .ref q1), (0, .int a1), (1, .int a2), (2, .ref a3)]) hx hb dX5_changedWords_5 rfl hl (by decide) rfl (fun ls hl => ?_)
  refine lv_iconst (v := 0) hx hb dX5_changedWords_6 (by decide) ?_
  refine lv_istore (lv' := [(4, .int 0), (3, .ref q1), (0, .int a1), (1, .int a2), (2, .ref a3)]) hx hb dX5_changedWords_7 hl (by decide) rfl (fun ls hl => ?_)
  refine wl_X5_changedWords_9 hC hD hr hin (fun w_9 H locs ls hl hH hv13 => ?_) 5 0 w2 _ _ _ 1 3 (Nat.le_of_ble_eq_true rfl) (Nat.le_of_ble_eq_true rfl) (lv_sub hl [2, 3, 4, 1, 0] rfl) hH (hv.2.2.2 q1 h4 h5 w2 e3)
  refine lv_aload_n hx hb dX5_changedWords_35 rfl (lv_at hl 0 rfl) ?_
  exact sj_retR (Or.inr ⟨_, rfl⟩) hC hD hH hr hv13 ⟨(Nat.le_of_ble_eq_true rfl), (Nat.le_of_ble_eq_true rfl)⟩ dX5_changedWords_36
section SJL_X5_changedWords
variable {p : Program} {l : Launch} {e : Env} {R : Room} {s : State} {m : MethodId} {args : Array Value} {below : List Frame} {meth : Method} {c : Code} {H : Heap} {locs : List Loc} {cells slots : Nat} {Q : State → Prop} {cc : ByteArray} {pc : Nat} {ls : Array Slot} {rest : List Value} {G : sj_G} {nL : Nat} {w : sj_W}
theorem cl_X5_9 {rmM : Room} {QcM : Array Value → State → Outcome → State → Prop} {QX : String → sj_W → Prop} {b0 : Int32} {b1 : Int32} {b2 : Nat} {Qi : Nat → sj_W → Prop} (hC : sj_C G p l s m args c cc RX5 nL) (hD : sj_D meth c) (hH : sj_H G s w H locs) (hv : vc_X5_changedWords b0 b1 b2 w Qi) (hR : rm_X5_changedWords.frames + 1 ≤ R.frames ∧ 8 + (5 + 11) + rm_X5_changedWords.locals ≤ R.locals) (hf : cells + 13 ≤ R.cells ∧ slots + 213 ≤ R.slots) (hfM : cells + 13 ≤ rmM.cells ∧ slots + 213 ≤ rmM.slots) (hls : ls.size = nL) (hW : (rest.map fun v => v.category).sum ≤ 8) (hdg : decode cc pc = .ok (.invokestatic 9, 3)) (kk : ∀ (r : Nat) (w1 : sj_W) (H : Heap) (locs : List Loc), sj_H G s w1 H locs → Qi r w1 → W p l e R s m args below meth c H locs (cells + 13) (slots + 213) (sj_MQ G below QcM QX args s rmM) (F0 m (pc + 3) ls (.ref r :: rest))) : W p l e R s m args below meth c H locs cells slots (sj_MQ G below QcM QX args s rmM) (F0 m pc ls (.ref b2 :: .int b1 :: .int b0 :: rest)) :=
  sj_cR hD hH (sj_runS (n := 3) hC hH (As := [.int b0, .int b1, .ref b2]) (wk_X5_changedWords G l hC.2.2.2.2.2.2 b0 b1 b2 w Qi QX hv) mb_625 mb_626 mb_14 mb_627 (by decide +kernel) hR hf rfl hls hW hdg) hfM kk
end SJL_X5_changedWords
abbrev rm_X5_alikeIsTrue : Room := { frames := 3, cells := 0, slots := 0, locals := 67 }
def vb_X5_alikeIsTrue_59 (f0 : Nat) (f1 : Nat) (f3 : Int32) (f4 : Int32) (Q : Int32 → sj_W → Prop) (E : sj_W → Prop) (K : Int32 → sj_W → Prop) (v5 : Int32) (w : sj_W) : Prop := ((f4 ≤ v5 → E w) ∧ (¬ f4 ≤ v5 → sj_T w f0 = 4 ∧ vc_X4_at f0 v5 w (fun r36 w37 => sj_T w37 f1 = 4 ∧ vc_X4_at f1 v5 w37 (fun r39 w40 => (((lg_cmp r36 r39) = 0 → K (v5 + 1) w40) ∧ (¬ (lg_cmp r36 r39) = 0 → Q 0 w40))))))
def vc_X5_alikeIsTrue (a1 : Nat) (a2 : Nat) (w : sj_W) (Q : Int32 → sj_W → Prop) : Prop := vc_X6_mismatch a1 a2 w (fun r1 w2 => sj_jn1 (fun (E4 : Int32 → sj_W → Prop) => ((¬ r1 = (-1) → E4 0 w2) ∧ (r1 = (-1) → E4 1 w2))) (fun (y0_16 : Int32) (w_16 : sj_W) => sj_jn1 (fun (E12 : Int32 → sj_W → Prop) => ((y0_16 = 0 → E12 r1 w_16) ∧ (¬ y0_16 = 0 → sj_T w_16 a1 = 4 ∧ vc_X4_size a1 w_16 (fun r20 w21 => E12 r20 w21)))) (fun (y0_29 : Int32) (w_29 : sj_W) => ((y0_29 < 0 → Q 0 w_29) ∧ (¬ y0_29 < 0 → sj_T w_29 a1 = 4 ∧ vc_X4_size a1 w_29 (fun r25 w26 => ((r25 < y0_29 → Q 0 w26) ∧ (¬ r25 < y0_29 → sj_T w26 a2 = 4 ∧ vc_X4_size a2 w26 (fun r30 w31 => ((y0_29 ≤ r30 → sj_lp1 (vb_X5_alikeIsTrue_59 a1 a2 y0_16 y0_29 Q (fun w_59 => sj_T w_59 a1 = 4 ∧ vc_X4_size a1 w_59 (fun r45 w46 => sj_jn1 (fun (E48 : Int32 → sj_W → Prop) => ((r45 ≤ y0_29 → E48 0 w46) ∧ (¬ r45 ≤ y0_29 → sj_T w46 a2 = 4 ∧ vc_X4_size a2 w46 (fun r56 w57 => ((r56 ≤ y0_29 → E48 0 w57) ∧ (¬ r56 ≤ y0_29 → E48 1 w57)))))) (fun (y0_113 : Int32) (w_113 : sj_W) => sj_T w_113 a1 = 4 ∧ vc_X4_size a1 w_113 (fun r61 w62 => sj_jn1 (fun (E64 : Int32 → sj_W → Prop) => ((¬ y0_29 = r61 → E64 0 w62) ∧ (y0_29 = r61 → sj_T w62 a2 = 4 ∧ vc_X4_size a2 w62 (fun r72 w73 => ((¬ y0_29 = r72 → E64 0 w73) ∧ (y0_29 = r72 → E64 1 w73)))))) (fun (y0_138 : Int32) (w_138 : sj_W) => ((y0_113 = 0 → ((¬ y0_16 = y0_138 → Q 0 w_138) ∧ (y0_16 = y0_138 → vc_X6_isSame a1 a2 w_138 (fun r80 w81 => ((¬ y0_16 = r80 → Q 0 w81) ∧ (y0_16 = r80 → vc_X6_compareWords a1 a2 0 w81 (fun r85 w86 => sj_jn2 (fun (E88 : Int32 → Int32 → sj_W → Prop) => ((¬ r85 = 0 → E88 0 y0_16 w86) ∧ (r85 = 0 → E88 1 y0_16 w86))) (fun (y0_191 : Int32) (y1_191 : Int32) (w_191 : sj_W) => ((¬ y1_191 = y0_191 → Q 0 w_191) ∧ (y1_191 = y0_191 → vc_X6_compareWords a1 a2 1 w_191 (fun r98 w99 => sj_jn2 (fun (E101 : Int32 → Int32 → sj_W → Prop) => ((¬ r98 = 0 → E101 0 y0_16 w99) ∧ (r98 = 0 → E101 1 y0_16 w99))) (fun (y0_209 : Int32) (y1_209 : Int32) (w_209 : sj_W) => ((¬ y1_209 = y0_209 → Q 0 w_209) ∧ (y1_209 = y0_209 → Q 1 w_209)))))))))))))) ∧ (¬ y0_113 = 0 → sj_T w_138 a1 = 4 ∧ vc_X4_at a1 y0_29 w_138 (fun r112 w113 => sj_T w113 a2 = 4 ∧ vc_X4_at a2 y0_29 w113 (fun r115 w116 => (((lg_cmp r112 r115) = 0 → Q 0 w116) ∧ (¬ (lg_cmp r112 r115) = 0 → ((¬ y0_16 = y0_138 → Q 0 w116) ∧ (y0_16 = y0_138 → vc_X6_isSame a1 a2 w116 (fun r122 w123 => ((¬ y0_16 = r122 → Q 0 w123) ∧ (y0_16 = r122 → vc_X6_compareWords a1 a2 0 w123 (fun r127 w128 => sj_jn2 (fun (E130 : Int32 → Int32 → sj_W → Prop) => ((¬ r127 = 0 → E130 0 y0_16 w128) ∧ (r127 = 0 → E130 1 y0_16 w128))) (fun (y0_191 : Int32) (y1_191 : Int32) (w_191 : sj_W) => ((¬ y1_191 = y0_191 → Q 0 w_191) ∧ (y1_191 = y0_191 → vc_X6_compareWords a1 a2 1 w_191 (fun r140 w141 => sj_jn2 (fun (E143 : Int32 → Int32 → sj_W → Prop) => ((¬ r140 = 0 → E143 0 y0_16 w141) ∧ (r140 = 0 → E143 1 y0_16 w141))) (fun (y0_209 : Int32) (y1_209 : Int32) (w_209 : sj_W) => ((¬ y1_209 = y0_209 → Q 0 w_209) ∧ (y1_209 = y0_209 → Q 1 w_209))))))))))))))))))))))))) 64 0 w31) ∧ (¬ y0_29 ≤ r30 → Q 0 w31)))))))))))
set_option maxHeartbeats 4000000 in
set_option maxRecDepth 100000 in
theorem wl_X5_alikeIsTrue_59 {p : Program} {l : Launch} {e : Env} {s : State} {m : MethodId} {args : Array Value} {below : List Frame} {meth : Method} {c : Code} {G : sj_G} {f0 : Nat} {f1 : Nat} {f3 : Int32} {f4 : Int32} {Q : Int32 → sj_W → Prop} {QX : String → sj_W → Prop} {E : sj_W → Prop} (hC : sj_C G p l s m args c cX5_alikeIsTrue RX5 7) (hD : sj_D meth c) (hr : meth.sig.returnType = (some .boolean)) (hin : meth.name = "alikeIsTrue") (hE : ∀ (w : sj_W) (H : Heap) (locs : List Loc) (ls : Array Slot), lv_has ls 7 [(0, .ref f0), (1, .ref f1), (3, .int f3), (4, .int f4)] → sj_H G s w H locs → E w → W p l e rm_X5_alikeIsTrue s m args below meth c H locs 0 0 (sj_MQ G below (va_Qi Q (sj_B G) (sj_F G)) QX args s rm_X5_alikeIsTrue) (F0 m 90 ls [])) : ∀ (n : Nat) (v5 : Int32) (w : sj_W) (H : Heap) (locs : List Loc) (ls : Array Slot), lv_has ls 7 [(0, .ref f0), (1, .ref f1), (3, .int f3), (4, .int f4), (5, .int v5)] → sj_H G s w H locs → sj_lp1 (vb_X5_alikeIsTrue_59 f0 f1 f3 f4 Q E) n v5 w → W p l e rm_X5_alikeIsTrue s m args below meth c H locs 0 0 (sj_MQ G below (va_Qi Q (sj_B G) (sj_F G)) QX args s rm_X5_alikeIsTrue) (F0 m 59 ls []) := by
  have hx := hC.1
  have hb := hC.2.1
  intro n
  induction n with
  | zero =>
    intro v5 w H locs ls _ _ hv
    exact hv.elim
  | succ n ih =>
    intro v5 w H locs ls hl hH hv
    have hv : vb_X5_alikeIsTrue_59 f0 f1 f3 f4 Q E (sj_lp1 (vb_X5_alikeIsTrue_59 f0 f1 f3 f4 Q E) n) v5 w := hv
    have hc1 : rm_X5_alikeIsTrue.cells = 0 := rfl
    have hc2 : rm_X5_alikeIsTrue.slots = 0 := rfl
    refine lv_iload hx hb dX5_alikeIsTrue_59 (lv_at hl 4 rfl) ?_
    refine lv_iload hx hb dX5_alikeIsTrue_61 (lv_at hl 3 rfl) ?_
    refine lv_icmp_ge (tgt := 90) hx hb dX5_alikeIsTrue_63 (by decide) (fun hc => ?_) (fun hc => ?_)
    · have hv34 := hv.1 hc
      exact hE  w _ _ _ (lv_sub hl [0, 1, 2, 3] rfl) hH hv34
    · have hv35 := hv.2 hc
      refine lv_aload_n hx hb dX5_alikeIsTrue_66 rfl (lv_at hl 0 rfl) ?_
      refine lv_iload hx hb dX5_alikeIsTrue_67 (lv_at hl 4 rfl) ?_
      refine cl_X5_45 hC hD hH hv35.2 hv35.1 ⟨Nat.le_of_ble_eq_true rfl, Nat.le_of_ble_eq_true rfl⟩ ⟨(Nat.le_of_ble_eq_true rfl), (Nat.le_of_ble_eq_true rfl)⟩ ⟨(Nat.le_of_ble_eq_true rfl), (Nat.le_of_ble_eq_true rfl)⟩ hl.1 (Nat.le_of_ble_eq_true rfl) dX5_alikeIsTrue_69 (fun r36 w37 H locs hH hv38 => ?_)
      refine lv_aload_n hx hb dX5_alikeIsTrue_72 rfl (lv_at hl 1 rfl) ?_
      refine lv_iload hx hb dX5_alikeIsTrue_73 (lv_at hl 4 rfl) ?_
      refine cl_X5_45 hC hD hH hv38.2 hv38.1 ⟨Nat.le_of_ble_eq_true rfl, Nat.le_of_ble_eq_true rfl⟩ ⟨(Nat.le_of_ble_eq_true rfl), (Nat.le_of_ble_eq_true rfl)⟩ ⟨(Nat.le_of_ble_eq_true rfl), (Nat.le_of_ble_eq_true rfl)⟩ hl.1 (Nat.le_of_ble_eq_true rfl) dX5_alikeIsTrue_75 (fun r39 w40 H locs hH hv41 => ?_)
      refine W.lcmp hx hb dX5_alikeIsTrue_78 ?_
      refine lv_if_eq (tgt := 84) hx hb dX5_alikeIsTrue_79 (by decide) (fun hc => ?_) (fun hc => ?_)
      · have hv42 := hv41.1 hc
        refine lv_iinc (v := (v5 + 1)) (lv' := [(5, .int (v5 + 1)), (0, .ref f0), (1, .ref f1), (3, .int f3), (4, .int f4)]) hx hb dX5_alikeIsTrue_84 hl (k := 4) rfl rfl (by decide) rfl (fun ls hl => ?_)
        refine lv_goto (tgt := 59) hx hb dX5_alikeIsTrue_87 (by decide) ?_
        exact ih (v5 + 1) w40 _ _ _ (lv_sub hl [1, 2, 3, 4, 0] rfl) hH hv42
      · have hv43 := hv41.2 hc
        refine lv_iconst (v := 0) hx hb dX5_alikeIsTrue_82 (by decide) ?_
        exact sj_retI hC hD hH hr rfl hv43 ⟨(Nat.le_of_ble_eq_true rfl), (Nat.le_of_ble_eq_true rfl)⟩ dX5_alikeIsTrue_83
set_option maxHeartbeats 4000000 in
set_option maxRecDepth 100000 in
theorem wk_X5_alikeIsTrue (G : sj_G) (l : Launch) (hlt : l.stackTraces = false) (a1 : Nat) (a2 : Nat) (w : sj_W) (Q : Int32 → sj_W → Prop) (QX : String → sj_W → Prop) (hv : vc_X5_alikeIsTrue a1 a2 w Q) : sj_MI G l yX5_alikeIsTrue (sj_ws yX5_alikeIsTrue cX5_alikeIsTrue 7 (some .boolean)) rm_X5_alikeIsTrue [.ref a1, .ref a2] w Q QX := by
  refine sj_of (by decide +kernel) (Nat.le_of_ble_eq_true rfl) hlt ?_
  intro p e s m args below meth c ls hC hD hr hin hH hl
  have hx := hC.1
  have hb := hC.2.1
  have hl : lv_has ls 7 [(0, .ref a1), (1, .ref a2)] := hl
  refine lv_aload_n hx hb dX5_alikeIsTrue_0 rfl (lv_at hl 0 rfl) ?_
  refine lv_aload_n hx hb dX5_alikeIsTrue_1 rfl (lv_at hl 1 rfl) ?_
  refine cl_X5_37 hC hD hH hv ⟨Nat.le_of_ble_eq_true rfl, Nat.le_of_ble_eq_true rfl⟩ ⟨(Nat.le_of_ble_eq_true rfl), (Nat.le_of_ble_eq_true rfl)⟩ ⟨(Nat.le_of_ble_eq_true rfl), (Nat.le_of_ble_eq_true rfl)⟩ hl.1 (Nat.le_of_ble_eq_true rfl) dX5_alikeIsTrue_2 (fun r1 w2 H locs hH hv3 => ?_)
  refine lv_istore_n (lv' := [(2, .int r1), (0, .ref a1), (1, .ref a2)]) hx hb dX5_alikeIsTrue_5 rfl hl (by decide) rfl (fun ls hl => ?_)
  refine lv_iload_n hx hb dX5_alikeIsTrue_6 rfl (lv_at hl 0 rfl) ?_
  refine lv_iconst (v := (-1)) hx hb dX5_alikeIsTrue_7 (by decide) ?_
  obtain ⟨E4, hE5, hv8⟩ := sj_jn1_e hv3
  have hJ6 : ∀ (y0_16 : Int32) (w_16 : sj_W) (H : Heap) (locs : List Loc) (ls : Array Slot), lv_has ls 7 [(0, .ref a1), (1, .ref a2), (2, .int r1)] → sj_H G s w_16 H locs → E4 y0_16 w_16 → W p l e rm_X5_alikeIsTrue s m args below meth c H locs 0 0 (sj_MQ G below (va_Qi Q (sj_B G) (sj_F G)) QX args s rm_X5_alikeIsTrue) (F0 m 16 ls [.int y0_16]) := by
    intro y0_16 w_16 H locs ls hl hH hv9
    rw [hE5] at hv9
    refine lv_istore_n (lv' := [(3, .int y0_16), (0, .ref a1), (1, .ref a2), (2, .int r1)]) hx hb dX5_alikeIsTrue_16 rfl hl (by decide) rfl (fun ls hl => ?_)
    refine lv_iload_n hx hb dX5_alikeIsTrue_17 rfl (lv_at hl 0 rfl) ?_
    obtain ⟨E12, hE13, hv16⟩ := sj_jn1_e hv9
    have hJ14 : ∀ (y0_29 : Int32) (w_29 : sj_W) (H : Heap) (locs : List Loc) (ls : Array Slot), lv_has ls 7 [(0, .ref a1), (1, .ref a2), (3, .int y0_16)] → sj_H G s w_29 H locs → E12 y0_29 w_29 → W p l e rm_X5_alikeIsTrue s m args below meth c H locs 0 0 (sj_MQ G below (va_Qi Q (sj_B G) (sj_F G)) QX args s rm_X5_alikeIsTrue) (F0 m 29 ls [.int y0_29]) := by
      intro y0_29 w_29 H locs ls hl hH hv17
      rw [hE13] at hv17
      refine lv_istore (lv' := [(4, .int y0_29), (0, .ref a1), (1, .ref a2), (3, .int y0_16)]) hx hb dX5_alikeIsTrue_29 hl (by decide) rfl (fun ls hl => ?_)
      refine lv_iload hx hb dX5_alikeIsTrue_31 (lv_at hl 0 rfl) ?_
      refine lv_if_lt (tgt := 54) hx hb dX5_alikeIsTrue_33 (by decide) (fun hc => ?_) (fun hc => ?_)
      · have hv23 := hv17.1 hc
        refine lv_iconst (v := 0) hx hb dX5_alikeIsTrue_54 (by decide) ?_
        exact sj_retI hC hD hH hr rfl hv23 ⟨(Nat.le_of_ble_eq_true rfl), (Nat.le_of_ble_eq_true rfl)⟩ dX5_alikeIsTrue_55
      · have hv24 := hv17.2 hc
        refine lv_iload hx hb dX5_alikeIsTrue_36 (lv_at hl 0 rfl) ?_
        refine lv_aload_n hx hb dX5_alikeIsTrue_38 rfl (lv_at hl 1 rfl) ?_
        refine cl_X5_41 hC hD hH hv24.2 hv24.1 ⟨Nat.le_of_ble_eq_true rfl, Nat.le_of_ble_eq_true rfl⟩ ⟨(Nat.le_of_ble_eq_true rfl), (Nat.le_of_ble_eq_true rfl)⟩ ⟨(Nat.le_of_ble_eq_true rfl), (Nat.le_of_ble_eq_true rfl)⟩ hl.1 (Nat.le_of_ble_eq_true rfl) dX5_alikeIsTrue_39 (fun r25 w26 H locs hH hv27 => ?_)
        refine lv_icmp_gt (tgt := 54) hx hb dX5_alikeIsTrue_42 (by decide) (fun hc => ?_) (fun hc => ?_)
        · have hv28 := hv27.1 hc
          refine lv_iconst (v := 0) hx hb dX5_alikeIsTrue_54 (by decide) ?_
          exact sj_retI hC hD hH hr rfl hv28 ⟨(Nat.le_of_ble_eq_true rfl), (Nat.le_of_ble_eq_true rfl)⟩ dX5_alikeIsTrue_55
        · have hv29 := hv27.2 hc
          refine lv_iload hx hb dX5_alikeIsTrue_45 (lv_at hl 0 rfl) ?_
          refine lv_aload_n hx hb dX5_alikeIsTrue_47 rfl (lv_at hl 2 rfl) ?_
          refine cl_X5_41 hC hD hH hv29.2 hv29.1 ⟨Nat.le_of_ble_eq_true rfl, Nat.le_of_ble_eq_true rfl⟩ ⟨(Nat.le_of_ble_eq_true rfl), (Nat.le_of_ble_eq_true rfl)⟩ ⟨(Nat.le_of_ble_eq_true rfl), (Nat.le_of_ble_eq_true rfl)⟩ hl.1 (Nat.le_of_ble_eq_true rfl) dX5_alikeIsTrue_48 (fun r30 w31 H locs hH hv32 => ?_)
          refine lv_icmp_le (tgt := 56) hx hb dX5_alikeIsTrue_51 (by decide) (fun hc => ?_) (fun hc => ?_)
          · have hv33 := hv32.1 hc
            refine lv_iconst (v := 0) hx hb dX5_alikeIsTrue_56 (by decide) ?_
            refine lv_istore (lv' := [(5, .int 0), (4, .int y0_29), (0, .ref a1), (1, .ref a2), (3, .int y0_16)]) hx hb dX5_alikeIsTrue_57 hl (by decide) rfl (fun ls hl => ?_)
            refine wl_X5_alikeIsTrue_59 hC hD hr hin (fun w_59 H locs ls hl hH hv44 => ?_) 64 0 w31 _ _ _ (lv_sub hl [2, 3, 4, 1, 0] rfl) hH hv33
            refine lv_iload hx hb dX5_alikeIsTrue_90 (lv_at hl 3 rfl) ?_
            refine lv_aload_n hx hb dX5_alikeIsTrue_92 rfl (lv_at hl 0 rfl) ?_
            refine cl_X5_41 hC hD hH hv44.2 hv44.1 ⟨Nat.le_of_ble_eq_true rfl, Nat.le_of_ble_eq_true rfl⟩ ⟨(Nat.le_of_ble_eq_true rfl), (Nat.le_of_ble_eq_true rfl)⟩ ⟨(Nat.le_of_ble_eq_true rfl), (Nat.le_of_ble_eq_true rfl)⟩ hl.1 (Nat.le_of_ble_eq_true rfl) dX5_alikeIsTrue_93 (fun r45 w46 H locs hH hv47 => ?_)
            obtain ⟨E48, hE49, hv52⟩ := sj_jn1_e hv47
            have hJ50 : ∀ (y0_113 : Int32) (w_113 : sj_W) (H : Heap) (locs : List Loc) (ls : Array Slot), lv_has ls 7 [(0, .ref a1), (1, .ref a2), (3, .int y0_16), (4, .int y0_29)] → sj_H G s w_113 H locs → E48 y0_113 w_113 → W p l e rm_X5_alikeIsTrue s m args below meth c H locs 0 0 (sj_MQ G below (va_Qi Q (sj_B G) (sj_F G)) QX args s rm_X5_alikeIsTrue) (F0 m 113 ls [.int y0_113]) := by
              intro y0_113 w_113 H locs ls hl hH hv53
              rw [hE49] at hv53
              refine lv_istore (lv' := [(5, .int y0_113), (0, .ref a1), (1, .ref a2), (3, .int y0_16), (4, .int y0_29)]) hx hb dX5_alikeIsTrue_113 hl (by decide) rfl (fun ls hl => ?_)
              refine lv_iload hx hb dX5_alikeIsTrue_115 (lv_at hl 4 rfl) ?_
              refine lv_aload_n hx hb dX5_alikeIsTrue_117 rfl (lv_at hl 1 rfl) ?_
              refine cl_X5_41 hC hD hH hv53.2 hv53.1 ⟨Nat.le_of_ble_eq_true rfl, Nat.le_of_ble_eq_true rfl⟩ ⟨(Nat.le_of_ble_eq_true rfl), (Nat.le_of_ble_eq_true rfl)⟩ ⟨(Nat.le_of_ble_eq_true rfl), (Nat.le_of_ble_eq_true rfl)⟩ hl.1 (Nat.le_of_ble_eq_true rfl) dX5_alikeIsTrue_118 (fun r61 w62 H locs hH hv63 => ?_)
              obtain ⟨E64, hE65, hv68⟩ := sj_jn1_e hv63
              have hJ66 : ∀ (y0_138 : Int32) (w_138 : sj_W) (H : Heap) (locs : List Loc) (ls : Array Slot), lv_has ls 7 [(0, .ref a1), (1, .ref a2), (3, .int y0_16), (4, .int y0_29), (5, .int y0_113)] → sj_H G s w_138 H locs → E64 y0_138 w_138 → W p l e rm_X5_alikeIsTrue s m args below meth c H locs 0 0 (sj_MQ G below (va_Qi Q (sj_B G) (sj_F G)) QX args s rm_X5_alikeIsTrue) (F0 m 138 ls [.int y0_138]) := by
                intro y0_138 w_138 H locs ls hl hH hv69
                rw [hE65] at hv69
                refine lv_istore (lv' := [(6, .int y0_138), (0, .ref a1), (1, .ref a2), (3, .int y0_16), (4, .int y0_29), (5, .int y0_113)]) hx hb dX5_alikeIsTrue_138 hl (by decide) rfl (fun ls hl => ?_)
                refine lv_iload hx hb dX5_alikeIsTrue_140 (lv_at hl 5 rfl) ?_
                refine lv_if_eq (tgt := 161) hx hb dX5_alikeIsTrue_142 (by decide) (fun hc => ?_) (fun hc => ?_)
                · have hv77 := hv69.1 hc
                  refine lv_iload_n hx hb dX5_alikeIsTrue_161 rfl (lv_at hl 3 rfl) ?_
                  refine lv_iload hx hb dX5_alikeIsTrue_162 (lv_at hl 0 rfl) ?_
                  refine lv_icmp_ne (tgt := 216) hx hb dX5_alikeIsTrue_164 (by decide) (fun hc => ?_) (fun hc => ?_)
                  · have hv78 := hv77.1 hc
                    refine lv_iconst (v := 0) hx hb dX5_alikeIsTrue_216 (by decide) ?_
                    exact sj_retI hC hD hH hr rfl hv78 ⟨(Nat.le_of_ble_eq_true rfl), (Nat.le_of_ble_eq_true rfl)⟩ dX5_alikeIsTrue_217
                  · have hv79 := hv77.2 hc
                    refine lv_iload_n hx hb dX5_alikeIsTrue_167 rfl (lv_at hl 3 rfl) ?_
                    refine lv_aload_n hx hb dX5_alikeIsTrue_168 rfl (lv_at hl 1 rfl) ?_
                    refine lv_aload_n hx hb dX5_alikeIsTrue_169 rfl (lv_at hl 2 rfl) ?_
                    refine cl_X5_49 hC hD hH hv79 ⟨Nat.le_of_ble_eq_true rfl, Nat.le_of_ble_eq_true rfl⟩ ⟨(Nat.le_of_ble_eq_true rfl), (Nat.le_of_ble_eq_true rfl)⟩ ⟨(Nat.le_of_ble_eq_true rfl), (Nat.le_of_ble_eq_true rfl)⟩ hl.1 (Nat.le_of_ble_eq_true rfl) dX5_alikeIsTrue_170 (fun r80 w81 H locs hH hv82 => ?_)
                    refine lv_icmp_ne (tgt := 216) hx hb dX5_alikeIsTrue_173 (by decide) (fun hc => ?_) (fun hc => ?_)
                    · have hv83 := hv82.1 hc
                      refine lv_iconst (v := 0) hx hb dX5_alikeIsTrue_216 (by decide) ?_
                      exact sj_retI hC hD hH hr rfl hv83 ⟨(Nat.le_of_ble_eq_true rfl), (Nat.le_of_ble_eq_true rfl)⟩ dX5_alikeIsTrue_217
                    · have hv84 := hv82.2 hc
                      refine lv_iload_n hx hb dX5_alikeIsTrue_176 rfl (lv_at hl 3 rfl) ?_
                      refine lv_aload_n hx hb dX5_alikeIsTrue_177 rfl (lv_at hl 1 rfl) ?_
                      refine lv_aload_n hx hb dX5_alikeIsTrue_178 rfl (lv_at hl 2 rfl) ?_
                      refine lv_iconst (v := 0) hx hb dX5_alikeIsTrue_179 (by decide) ?_
                      refine cl_X5_52 hC hD hH hv84 ⟨Nat.le_of_ble_eq_true rfl, Nat.le_of_ble_eq_true rfl⟩ ⟨(Nat.le_of_ble_eq_true rfl), (Nat.le_of_ble_eq_true rfl)⟩ ⟨(Nat.le_of_ble_eq_true rfl), (Nat.le_of_ble_eq_true rfl)⟩ hl.1 (Nat.le_of_ble_eq_true rfl) dX5_alikeIsTrue_180 (fun r85 w86 H locs hH hv87 => ?_)
                      obtain ⟨E88, hE89, hv92⟩ := sj_jn2_e hv87
                      have hJ90 : ∀ (y0_191 : Int32) (y1_191 : Int32) (w_191 : sj_W) (H : Heap) (locs : List Loc) (ls : Array Slot), lv_has ls 7 [(0, .ref a1), (1, .ref a2), (3, .int y0_16)] → sj_H G s w_191 H locs → E88 y0_191 y1_191 w_191 → W p l e rm_X5_alikeIsTrue s m args below meth c H locs 0 0 (sj_MQ G below (va_Qi Q (sj_B G) (sj_F G)) QX args s rm_X5_alikeIsTrue) (F0 m 191 ls [.int y0_191, .int y1_191]) := by
                        intro y0_191 y1_191 w_191 H locs ls hl hH hv93
                        rw [hE89] at hv93
                        refine lv_icmp_ne (tgt := 216) hx hb dX5_alikeIsTrue_191 (by decide) (fun hc => ?_) (fun hc => ?_)
                        · have hv96 := hv93.1 hc
                          refine lv_iconst (v := 0) hx hb dX5_alikeIsTrue_216 (by decide) ?_
                          exact sj_retI hC hD hH hr rfl hv96 ⟨(Nat.le_of_ble_eq_true rfl), (Nat.le_of_ble_eq_true rfl)⟩ dX5_alikeIsTrue_217
                        · have hv97 := hv93.2 hc
                          refine lv_iload_n hx hb dX5_alikeIsTrue_194 rfl (lv_at hl 2 rfl) ?_
                          refine lv_aload_n hx hb dX5_alikeIsTrue_195 rfl (lv_at hl 0 rfl) ?_
                          refine lv_aload_n hx hb dX5_alikeIsTrue_196 rfl (lv_at hl 1 rfl) ?_
                          refine lv_iconst (v := 1) hx hb dX5_alikeIsTrue_197 (by decide) ?_
                          refine cl_X5_52 hC hD hH hv97 ⟨Nat.le_of_ble_eq_true rfl, Nat.le_of_ble_eq_true rfl⟩ ⟨(Nat.le_of_ble_eq_true rfl), (Nat.le_of_ble_eq_true rfl)⟩ ⟨(Nat.le_of_ble_eq_true rfl), (Nat.le_of_ble_eq_true rfl)⟩ hl.1 (Nat.le_of_ble_eq_true rfl) dX5_alikeIsTrue_198 (fun r98 w99 H locs hH hv100 => ?_)
                          obtain ⟨E101, hE102, hv105⟩ := sj_jn2_e hv100
                          have hJ103 : ∀ (y0_209 : Int32) (y1_209 : Int32) (w_209 : sj_W) (H : Heap) (locs : List Loc) (ls : Array Slot), lv_has ls 7 [] → sj_H G s w_209 H locs → E101 y0_209 y1_209 w_209 → W p l e rm_X5_alikeIsTrue s m args below meth c H locs 0 0 (sj_MQ G below (va_Qi Q (sj_B G) (sj_F G)) QX args s rm_X5_alikeIsTrue) (F0 m 209 ls [.int y0_209, .int y1_209]) := by
                            intro y0_209 y1_209 w_209 H locs ls hl hH hv106
                            rw [hE102] at hv106
                            refine lv_icmp_ne (tgt := 216) hx hb dX5_alikeIsTrue_209 (by decide) (fun hc => ?_) (fun hc => ?_)
                            · have hv109 := hv106.1 hc
                              refine lv_iconst (v := 0) hx hb dX5_alikeIsTrue_216 (by decide) ?_
                              exact sj_retI hC hD hH hr rfl hv109 ⟨(Nat.le_of_ble_eq_true rfl), (Nat.le_of_ble_eq_true rfl)⟩ dX5_alikeIsTrue_217
                            · have hv110 := hv106.2 hc
                              refine lv_iconst (v := 1) hx hb dX5_alikeIsTrue_212 (by decide) ?_
                              refine lv_goto (tgt := 217) hx hb dX5_alikeIsTrue_213 (by decide) ?_
                              exact sj_retI hC hD hH hr rfl hv110 ⟨(Nat.le_of_ble_eq_true rfl), (Nat.le_of_ble_eq_true rfl)⟩ dX5_alikeIsTrue_217
                          clear hE102
                          refine lv_if_ne (tgt := 208) hx hb dX5_alikeIsTrue_201 (by decide) (fun hc => ?_) (fun hc => ?_)
                          · have hv107 := hv105.1 hc
                            refine lv_iconst (v := 0) hx hb dX5_alikeIsTrue_208 (by decide) ?_
                            exact hJ103 0 y0_16 w99 _ _ _ (lv_sub hl [] rfl) hH hv107
                          · have hv108 := hv105.2 hc
                            refine lv_iconst (v := 1) hx hb dX5_alikeIsTrue_204 (by decide) ?_
                            refine lv_goto (tgt := 209) hx hb dX5_alikeIsTrue_205 (by decide) ?_
                            exact hJ103 1 y0_16 w99 _ _ _ (lv_sub hl [] rfl) hH hv108
                      clear hE89
                      refine lv_if_ne (tgt := 190) hx hb dX5_alikeIsTrue_183 (by decide) (fun hc => ?_) (fun hc => ?_)
                      · have hv94 := hv92.1 hc
                        refine lv_iconst (v := 0) hx hb dX5_alikeIsTrue_190 (by decide) ?_
                        exact hJ90 0 y0_16 w86 _ _ _ (lv_sub hl [1, 2, 3] rfl) hH hv94
                      · have hv95 := hv92.2 hc
                        refine lv_iconst (v := 1) hx hb dX5_alikeIsTrue_186 (by decide) ?_
                        refine lv_goto (tgt := 191) hx hb dX5_alikeIsTrue_187 (by decide) ?_
                        exact hJ90 1 y0_16 w86 _ _ _ (lv_sub hl [1, 2, 3] rfl) hH hv95
                · have hv111 := hv69.2 hc
                  refine lv_aload_n hx hb dX5_alikeIsTrue_145 rfl (lv_at hl 1 rfl) ?_
                  refine lv_iload hx hb dX5_alikeIsTrue_146 (lv_at hl 4 rfl) ?_
                  refine cl_X5_45 hC hD hH hv111.2 hv111.1 ⟨Nat.le_of_ble_eq_true rfl, Nat.le_of_ble_eq_true rfl⟩ ⟨(Nat.le_of_ble_eq_true rfl), (Nat.le_of_ble_eq_true rfl)⟩ ⟨(Nat.le_of_ble_eq_true rfl), (Nat.le_of_ble_eq_true rfl)⟩ hl.1 (Nat.le_of_ble_eq_true rfl) dX5_alikeIsTrue_148 (fun r112 w113 H locs hH hv114 => ?_)
                  refine lv_aload_n hx hb dX5_alikeIsTrue_151 rfl (lv_at hl 2 rfl) ?_
                  refine lv_iload hx hb dX5_alikeIsTrue_152 (lv_at hl 4 rfl) ?_
                  refine cl_X5_45 hC hD hH hv114.2 hv114.1 ⟨Nat.le_of_ble_eq_true rfl, Nat.le_of_ble_eq_true rfl⟩ ⟨(Nat.le_of_ble_eq_true rfl), (Nat.le_of_ble_eq_true rfl)⟩ ⟨(Nat.le_of_ble_eq_true rfl), (Nat.le_of_ble_eq_true rfl)⟩ hl.1 (Nat.le_of_ble_eq_true rfl) dX5_alikeIsTrue_154 (fun r115 w116 H locs hH hv117 => ?_)
                  refine W.lcmp hx hb dX5_alikeIsTrue_157 ?_
                  refine lv_if_eq (tgt := 216) hx hb dX5_alikeIsTrue_158 (by decide) (fun hc => ?_) (fun hc => ?_)
                  · have hv118 := hv117.1 hc
                    refine lv_iconst (v := 0) hx hb dX5_alikeIsTrue_216 (by decide) ?_
                    exact sj_retI hC hD hH hr rfl hv118 ⟨(Nat.le_of_ble_eq_true rfl), (Nat.le_of_ble_eq_true rfl)⟩ dX5_alikeIsTrue_217
                  · have hv119 := hv117.2 hc
                    refine lv_iload_n hx hb dX5_alikeIsTrue_161 rfl (lv_at hl 3 rfl) ?_
                    refine lv_iload hx hb dX5_alikeIsTrue_162 (lv_at hl 0 rfl) ?_
                    refine lv_icmp_ne (tgt := 216) hx hb dX5_alikeIsTrue_164 (by decide) (fun hc => ?_) (fun hc => ?_)
                    · have hv120 := hv119.1 hc
                      refine lv_iconst (v := 0) hx hb dX5_alikeIsTrue_216 (by decide) ?_
                      exact sj_retI hC hD hH hr rfl hv120 ⟨(Nat.le_of_ble_eq_true rfl), (Nat.le_of_ble_eq_true rfl)⟩ dX5_alikeIsTrue_217
                    · have hv121 := hv119.2 hc
                      refine lv_iload_n hx hb dX5_alikeIsTrue_167 rfl (lv_at hl 3 rfl) ?_
                      refine lv_aload_n hx hb dX5_alikeIsTrue_168 rfl (lv_at hl 1 rfl) ?_
                      refine lv_aload_n hx hb dX5_alikeIsTrue_169 rfl (lv_at hl 2 rfl) ?_
                      refine cl_X5_49 hC hD hH hv121 ⟨Nat.le_of_ble_eq_true rfl, Nat.le_of_ble_eq_true rfl⟩ ⟨(Nat.le_of_ble_eq_true rfl), (Nat.le_of_ble_eq_true rfl)⟩ ⟨(Nat.le_of_ble_eq_true rfl), (Nat.le_of_ble_eq_true rfl)⟩ hl.1 (Nat.le_of_ble_eq_true rfl) dX5_alikeIsTrue_170 (fun r122 w123 H locs hH hv124 => ?_)
                      refine lv_icmp_ne (tgt := 216) hx hb dX5_alikeIsTrue_173 (by decide) (fun hc => ?_) (fun hc => ?_)
                      · have hv125 := hv124.1 hc
                        refine lv_iconst (v := 0) hx hb dX5_alikeIsTrue_216 (by decide) ?_
                        exact sj_retI hC hD hH hr rfl hv125 ⟨(Nat.le_of_ble_eq_true rfl), (Nat.le_of_ble_eq_true rfl)⟩ dX5_alikeIsTrue_217
                      · have hv126 := hv124.2 hc
                        refine lv_iload_n hx hb dX5_alikeIsTrue_176 rfl (lv_at hl 3 rfl) ?_
                        refine lv_aload_n hx hb dX5_alikeIsTrue_177 rfl (lv_at hl 1 rfl) ?_
                        refine lv_aload_n hx hb dX5_alikeIsTrue_178 rfl (lv_at hl 2 rfl) ?_
                        refine lv_iconst (v := 0) hx hb dX5_alikeIsTrue_179 (by decide) ?_
                        refine cl_X5_52 hC hD hH hv126 ⟨Nat.le_of_ble_eq_true rfl, Nat.le_of_ble_eq_true rfl⟩ ⟨(Nat.le_of_ble_eq_true rfl), (Nat.le_of_ble_eq_true rfl)⟩ ⟨(Nat.le_of_ble_eq_true rfl), (Nat.le_of_ble_eq_true rfl)⟩ hl.1 (Nat.le_of_ble_eq_true rfl) dX5_alikeIsTrue_180 (fun r127 w128 H locs hH hv129 => ?_)
                        obtain ⟨E130, hE131, hv134⟩ := sj_jn2_e hv129
                        have hJ132 : ∀ (y0_191 : Int32) (y1_191 : Int32) (w_191 : sj_W) (H : Heap) (locs : List Loc) (ls : Array Slot), lv_has ls 7 [(0, .ref a1), (1, .ref a2), (3, .int y0_16)] → sj_H G s w_191 H locs → E130 y0_191 y1_191 w_191 → W p l e rm_X5_alikeIsTrue s m args below meth c H locs 0 0 (sj_MQ G below (va_Qi Q (sj_B G) (sj_F G)) QX args s rm_X5_alikeIsTrue) (F0 m 191 ls [.int y0_191, .int y1_191]) := by
                          intro y0_191 y1_191 w_191 H locs ls hl hH hv135
                          rw [hE131] at hv135
                          refine lv_icmp_ne (tgt := 216) hx hb dX5_alikeIsTrue_191 (by decide) (fun hc => ?_) (fun hc => ?_)
                          · have hv138 := hv135.1 hc
                            refine lv_iconst (v := 0) hx hb dX5_alikeIsTrue_216 (by decide) ?_
                            exact sj_retI hC hD hH hr rfl hv138 ⟨(Nat.le_of_ble_eq_true rfl), (Nat.le_of_ble_eq_true rfl)⟩ dX5_alikeIsTrue_217
                          · have hv139 := hv135.2 hc
                            refine lv_iload_n hx hb dX5_alikeIsTrue_194 rfl (lv_at hl 2 rfl) ?_
                            refine lv_aload_n hx hb dX5_alikeIsTrue_195 rfl (lv_at hl 0 rfl) ?_
                            refine lv_aload_n hx hb dX5_alikeIsTrue_196 rfl (lv_at hl 1 rfl) ?_
                            refine lv_iconst (v := 1) hx hb dX5_alikeIsTrue_197 (by decide) ?_
                            refine cl_X5_52 hC hD hH hv139 ⟨Nat.le_of_ble_eq_true rfl, Nat.le_of_ble_eq_true rfl⟩ ⟨(Nat.le_of_ble_eq_true rfl), (Nat.le_of_ble_eq_true rfl)⟩ ⟨(Nat.le_of_ble_eq_true rfl), (Nat.le_of_ble_eq_true rfl)⟩ hl.1 (Nat.le_of_ble_eq_true rfl) dX5_alikeIsTrue_198 (fun r140 w141 H locs hH hv142 => ?_)
                            obtain ⟨E143, hE144, hv147⟩ := sj_jn2_e hv142
                            have hJ145 : ∀ (y0_209 : Int32) (y1_209 : Int32) (w_209 : sj_W) (H : Heap) (locs : List Loc) (ls : Array Slot), lv_has ls 7 [] → sj_H G s w_209 H locs → E143 y0_209 y1_209 w_209 → W p l e rm_X5_alikeIsTrue s m args below meth c H locs 0 0 (sj_MQ G below (va_Qi Q (sj_B G) (sj_F G)) QX args s rm_X5_alikeIsTrue) (F0 m 209 ls [.int y0_209, .int y1_209]) := by
                              intro y0_209 y1_209 w_209 H locs ls hl hH hv148
                              rw [hE144] at hv148
                              refine lv_icmp_ne (tgt := 216) hx hb dX5_alikeIsTrue_209 (by decide) (fun hc => ?_) (fun hc => ?_)
                              · have hv151 := hv148.1 hc
                                refine lv_iconst (v := 0) hx hb dX5_alikeIsTrue_216 (by decide) ?_
                                exact sj_retI hC hD hH hr rfl hv151 ⟨(Nat.le_of_ble_eq_true rfl), (Nat.le_of_ble_eq_true rfl)⟩ dX5_alikeIsTrue_217
                              · have hv152 := hv148.2 hc
                                refine lv_iconst (v := 1) hx hb dX5_alikeIsTrue_212 (by decide) ?_
                                refine lv_goto (tgt := 217) hx hb dX5_alikeIsTrue_213 (by decide) ?_
                                exact sj_retI hC hD hH hr rfl hv152 ⟨(Nat.le_of_ble_eq_true rfl), (Nat.le_of_ble_eq_true rfl)⟩ dX5_alikeIsTrue_217
                            clear hE144
                            refine lv_if_ne (tgt := 208) hx hb dX5_alikeIsTrue_201 (by decide) (fun hc => ?_) (fun hc => ?_)
                            · have hv149 := hv147.1 hc
                              refine lv_iconst (v := 0) hx hb dX5_alikeIsTrue_208 (by decide) ?_
                              exact hJ145 0 y0_16 w141 _ _ _ (lv_sub hl [] rfl) hH hv149
                            · have hv150 := hv147.2 hc
                              refine lv_iconst (v := 1) hx hb dX5_alikeIsTrue_204 (by decide) ?_
                              refine lv_goto (tgt := 209) hx hb dX5_alikeIsTrue_205 (by decide) ?_
                              exact hJ145 1 y0_16 w141 _ _ _ (lv_sub hl [] rfl) hH hv150
                        clear hE131
                        refine lv_if_ne (tgt := 190) hx hb dX5_alikeIsTrue_183 (by decide) (fun hc => ?_) (fun hc => ?_)
                        · have hv136 := hv134.1 hc
                          refine lv_iconst (v := 0) hx hb dX5_alikeIsTrue_190 (by decide) ?_
                          exact hJ132 0 y0_16 w128 _ _ _ (lv_sub hl [1, 2, 3] rfl) hH hv136
                        · have hv137 := hv134.2 hc
                          refine lv_iconst (v := 1) hx hb dX5_alikeIsTrue_186 (by decide) ?_
                          refine lv_goto (tgt := 191) hx hb dX5_alikeIsTrue_187 (by decide) ?_
                          exact hJ132 1 y0_16 w128 _ _ _ (lv_sub hl [1, 2, 3] rfl) hH hv137
              clear hE65
              refine lv_icmp_ne (tgt := 137) hx hb dX5_alikeIsTrue_121 (by decide) (fun hc => ?_) (fun hc => ?_)
              · have hv70 := hv68.1 hc
                refine lv_iconst (v := 0) hx hb dX5_alikeIsTrue_137 (by decide) ?_
                exact hJ66 0 w62 _ _ _ (lv_sub hl [1, 2, 3, 4, 0] rfl) hH hv70
              · have hv71 := hv68.2 hc
                refine lv_iload hx hb dX5_alikeIsTrue_124 (lv_at hl 4 rfl) ?_
                refine lv_aload_n hx hb dX5_alikeIsTrue_126 rfl (lv_at hl 2 rfl) ?_
                refine cl_X5_41 hC hD hH hv71.2 hv71.1 ⟨Nat.le_of_ble_eq_true rfl, Nat.le_of_ble_eq_true rfl⟩ ⟨(Nat.le_of_ble_eq_true rfl), (Nat.le_of_ble_eq_true rfl)⟩ ⟨(Nat.le_of_ble_eq_true rfl), (Nat.le_of_ble_eq_true rfl)⟩ hl.1 (Nat.le_of_ble_eq_true rfl) dX5_alikeIsTrue_127 (fun r72 w73 H locs hH hv74 => ?_)
                refine lv_icmp_ne (tgt := 137) hx hb dX5_alikeIsTrue_130 (by decide) (fun hc => ?_) (fun hc => ?_)
                · have hv75 := hv74.1 hc
                  refine lv_iconst (v := 0) hx hb dX5_alikeIsTrue_137 (by decide) ?_
                  exact hJ66 0 w73 _ _ _ (lv_sub hl [1, 2, 3, 4, 0] rfl) hH hv75
                · have hv76 := hv74.2 hc
                  refine lv_iconst (v := 1) hx hb dX5_alikeIsTrue_133 (by decide) ?_
                  refine lv_goto (tgt := 138) hx hb dX5_alikeIsTrue_134 (by decide) ?_
                  exact hJ66 1 w73 _ _ _ (lv_sub hl [1, 2, 3, 4, 0] rfl) hH hv76
            clear hE49
            refine lv_icmp_ge (tgt := 112) hx hb dX5_alikeIsTrue_96 (by decide) (fun hc => ?_) (fun hc => ?_)
            · have hv54 := hv52.1 hc
              refine lv_iconst (v := 0) hx hb dX5_alikeIsTrue_112 (by decide) ?_
              exact hJ50 0 w46 _ _ _ (lv_sub hl [0, 1, 2, 3] rfl) hH hv54
            · have hv55 := hv52.2 hc
              refine lv_iload hx hb dX5_alikeIsTrue_99 (lv_at hl 3 rfl) ?_
              refine lv_aload_n hx hb dX5_alikeIsTrue_101 rfl (lv_at hl 1 rfl) ?_
              refine cl_X5_41 hC hD hH hv55.2 hv55.1 ⟨Nat.le_of_ble_eq_true rfl, Nat.le_of_ble_eq_true rfl⟩ ⟨(Nat.le_of_ble_eq_true rfl), (Nat.le_of_ble_eq_true rfl)⟩ ⟨(Nat.le_of_ble_eq_true rfl), (Nat.le_of_ble_eq_true rfl)⟩ hl.1 (Nat.le_of_ble_eq_true rfl) dX5_alikeIsTrue_102 (fun r56 w57 H locs hH hv58 => ?_)
              refine lv_icmp_ge (tgt := 112) hx hb dX5_alikeIsTrue_105 (by decide) (fun hc => ?_) (fun hc => ?_)
              · have hv59 := hv58.1 hc
                refine lv_iconst (v := 0) hx hb dX5_alikeIsTrue_112 (by decide) ?_
                exact hJ50 0 w57 _ _ _ (lv_sub hl [0, 1, 2, 3] rfl) hH hv59
              · have hv60 := hv58.2 hc
                refine lv_iconst (v := 1) hx hb dX5_alikeIsTrue_108 (by decide) ?_
                refine lv_goto (tgt := 113) hx hb dX5_alikeIsTrue_109 (by decide) ?_
                exact hJ50 1 w57 _ _ _ (lv_sub hl [0, 1, 2, 3] rfl) hH hv60
          · have hv153 := hv32.2 hc
            refine lv_iconst (v := 0) hx hb dX5_alikeIsTrue_54 (by decide) ?_
            exact sj_retI hC hD hH hr rfl hv153 ⟨(Nat.le_of_ble_eq_true rfl), (Nat.le_of_ble_eq_true rfl)⟩ dX5_alikeIsTrue_55
    clear hE13
    refine lv_if_eq (tgt := 28) hx hb dX5_alikeIsTrue_18 (by decide) (fun hc => ?_) (fun hc => ?_)
    · have hv18 := hv16.1 hc
      refine lv_iload_n hx hb dX5_alikeIsTrue_28 rfl (lv_at hl 3 rfl) ?_
      exact hJ14 r1 w_16 _ _ _ (lv_sub hl [1, 2, 0] rfl) hH hv18
    · have hv19 := hv16.2 hc
      refine lv_aload_n hx hb dX5_alikeIsTrue_21 rfl (lv_at hl 1 rfl) ?_
      refine cl_X5_41 hC hD hH hv19.2 hv19.1 ⟨Nat.le_of_ble_eq_true rfl, Nat.le_of_ble_eq_true rfl⟩ ⟨(Nat.le_of_ble_eq_true rfl), (Nat.le_of_ble_eq_true rfl)⟩ ⟨(Nat.le_of_ble_eq_true rfl), (Nat.le_of_ble_eq_true rfl)⟩ hl.1 (Nat.le_of_ble_eq_true rfl) dX5_alikeIsTrue_22 (fun r20 w21 H locs hH hv22 => ?_)
      refine lv_goto (tgt := 29) hx hb dX5_alikeIsTrue_25 (by decide) ?_
      exact hJ14 r20 w21 _ _ _ (lv_sub hl [1, 2, 0] rfl) hH hv22
  clear hE5
  refine lv_icmp_ne (tgt := 15) hx hb dX5_alikeIsTrue_8 (by decide) (fun hc => ?_) (fun hc => ?_)
  · have hv10 := hv8.1 hc
    refine lv_iconst (v := 0) hx hb dX5_alikeIsTrue_15 (by decide) ?_
    exact hJ6 0 w2 _ _ _ (lv_sub hl [1, 2, 0] rfl) hH hv10
  · have hv11 := hv8.2 hc
    refine lv_iconst (v := 1) hx hb dX5_alikeIsTrue_11 (by decide) ?_
    refine lv_goto (tgt := 16) hx hb dX5_alikeIsTrue_12 (by decide) ?_
    exact hJ6 1 w2 _ _ _ (lv_sub hl [1, 2, 0] rfl) hH hv11
section SJL_X5_alikeIsTrue
variable {p : Program} {l : Launch} {e : Env} {R : Room} {s : State} {m : MethodId} {args : Array Value} {below : List Frame} {meth : Method} {c : Code} {H : Heap} {locs : List Loc} {cells slots : Nat} {Q : State → Prop} {cc : ByteArray} {pc : Nat} {ls : Array Slot} {rest : List Value} {G : sj_G} {nL : Nat} {w : sj_W}
theorem cl_X5_15 {rmM : Room} {QcM : Array Value → State → Outcome → State → Prop} {QX : String → sj_W → Prop} {b0 : Nat} {b1 : Nat} {Qi : Int32 → sj_W → Prop} (hC : sj_C G p l s m args c cc RX5 nL) (hD : sj_D meth c) (hH : sj_H G s w H locs) (hv : vc_X5_alikeIsTrue b0 b1 w Qi) (hR : rm_X5_alikeIsTrue.frames + 1 ≤ R.frames ∧ 8 + (7 + 11) + rm_X5_alikeIsTrue.locals ≤ R.locals) (hf : cells + 0 ≤ R.cells ∧ slots + 0 ≤ R.slots) (hfM : cells + 0 ≤ rmM.cells ∧ slots + 0 ≤ rmM.slots) (hls : ls.size = nL) (hW : (rest.map fun v => v.category).sum ≤ 8) (hdg : decode cc pc = .ok (.invokestatic 15, 3)) (kk : ∀ (r : Int32) (w1 : sj_W) (H : Heap) (locs : List Loc), sj_H G s w1 H locs → Qi r w1 → W p l e R s m args below meth c H locs (cells + 0) (slots + 0) (sj_MQ G below QcM QX args s rmM) (F0 m (pc + 3) ls (.int r :: rest))) : W p l e R s m args below meth c H locs cells slots (sj_MQ G below QcM QX args s rmM) (F0 m pc ls (.ref b1 :: .ref b0 :: rest)) :=
  sj_cI hD hH (sj_runS (n := 2) hC hH (As := [.ref b0, .ref b1]) (wk_X5_alikeIsTrue G l hC.2.2.2.2.2.2 b0 b1 w Qi QX hv) mb_638 mb_639 mb_14 mb_640 (by decide +kernel) hR hf rfl hls hW hdg) hfM kk
end SJL_X5_alikeIsTrue

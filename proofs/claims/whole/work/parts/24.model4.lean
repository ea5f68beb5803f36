abbrev rm_X7_reverse : Room := { frames := 3, cells := 0, slots := 0, locals := 67 }
def vb_X7_reverse_25 (f0 : Nat) (f1 : Int32) (f2 : Int32) (f3 : Int32) (Q : Int32 → sj_W → Prop) (E : sj_W → Prop) (K : Int32 → sj_W → Prop) (v4 : Int32) (w : sj_W) : Prop := ((((f3 - 1) - v4) ≤ v4 → E w) ∧ (¬ ((f3 - 1) - v4) ≤ v4 → sj_T w f0 = 6 ∧ sj_A w 40 f0 ≠ 0 ∧ sj_T w f0 = 6 ∧ vc_X7_at f0 f1 f2 v4 w (fun r13 w14 => sj_T w14 (sj_A w 40 f0) = 8 ∧ vp_in r13 (sj_N w14 (sj_A w 40 f0)) ∧ sj_T w14 f0 = 6 ∧ sj_A w14 40 f0 ≠ 0 ∧ sj_T w14 f0 = 6 ∧ vc_X7_at f0 f1 f2 v4 w14 (fun r16 w17 => sj_T w17 f0 = 6 ∧ sj_A w17 40 f0 ≠ 0 ∧ sj_T w17 f0 = 6 ∧ vc_X7_at f0 f1 f2 ((f3 - 1) - v4) w17 (fun r19 w20 => sj_T w20 (sj_A w17 40 f0) = 8 ∧ vp_in r19 (sj_N w20 (sj_A w17 40 f0)) ∧ sj_T w20 (sj_A w14 40 f0) = 8 ∧ vp_in r16 (sj_N w20 (sj_A w14 40 f0)) ∧ ∀ w22 : sj_W, w22 = sj_sl w20 (sj_A w14 40 f0) r16.toNatClampNeg (sj_l w20 (sj_A w17 40 f0) r19.toNatClampNeg) → sj_T w22 f0 = 6 ∧ sj_A w22 40 f0 ≠ 0 ∧ sj_T w22 f0 = 6 ∧ vc_X7_at f0 f1 f2 ((f3 - 1) - v4) w22 (fun r24 w25 => sj_T w25 (sj_A w22 40 f0) = 8 ∧ vp_in r24 (sj_N w25 (sj_A w22 40 f0)) ∧ ∀ w27 : sj_W, w27 = sj_sl w25 (sj_A w22 40 f0) r24.toNatClampNeg (sj_l w14 (sj_A w 40 f0) r13.toNatClampNeg) → K (v4 + 1) w27))))))
def vc_X7_reverse (self : Nat) (a1 : Int32) (a2 : Int32) (w : sj_W) (Q : Int32 → sj_W → Prop) : Prop := sj_T w self = 6 ∧ vc_X7_noRow self a1 a2 w (fun r1 w2 => sj_T w2 self = 6 ∧ vc_X7_fails self r1 w2 (fun r4 w5 => ((r4 = 0 → sj_T w5 self = 6 ∧ vc_X7_size self a1 a2 w5 (fun r8 w9 => sj_lp1 (vb_X7_reverse_25 self a1 a2 r8 Q (fun w_25 => Q r8 w_25)) 64 0 w9)) ∧ (¬ r4 = 0 → Q 0 w5))))
set_option maxHeartbeats 4000000 in
set_option maxRecDepth 100000 in
theorem wl_X7_reverse_25 {p : Program} {l : Launch} {e : Env} {s : State} {m : MethodId} {args : Array Value} {below : List Frame} {meth : Method} {c : Code} {G : sj_G} {f0 : Nat} {f1 : Int32} {f2 : Int32} {f3 : Int32} {Q : Int32 → sj_W → Prop} {QX : String → sj_W → Prop} {E : sj_W → Prop} (hC : sj_C G p l s m args c cX7_reverse RX7 7) (hD : sj_D meth c) (hr : meth.sig.returnType = (some .int)) (hin : meth.name = "reverse") (hE : ∀ (w : sj_W) (H : Heap) (locs : List Loc) (ls : Array Slot), lv_has ls 7 [(3, .int f3)] → sj_H G s w H locs → E w → W p l e rm_X7_reverse s m args below meth c H locs 0 0 (sj_MQ G below (va_Qi Q (sj_B G) (sj_F G)) QX args s rm_X7_reverse) (F0 m 106 ls [])) : ∀ (n : Nat) (v4 : Int32) (w : sj_W) (H : Heap) (locs : List Loc) (ls : Array Slot), lv_has ls 7 [(0, .ref f0), (1, .int f1), (2, .int f2), (3, .int f3), (4, .int v4)] → sj_H G s w H locs → sj_lp1 (vb_X7_reverse_25 f0 f1 f2 f3 Q E) n v4 w → W p l e rm_X7_reverse s m args below meth c H locs 0 0 (sj_MQ G below (va_Qi Q (sj_B G) (sj_F G)) QX args s rm_X7_reverse) (F0 m 25 ls []) := by
  have hx := hC.1
  have hb := hC.2.1
  intro n
  induction n with
  | zero =>
    intro v4 w H locs ls _ _ hv
    exact hv.elim
  | succ n ih =>
    intro v4 w H locs ls hl hH hv
    have hv : vb_X7_reverse_25 f0 f1 f2 f3 Q E (sj_lp1 (vb_X7_reverse_25 f0 f1 f2 f3 Q E) n) v4 w := hv
    have hc1 : rm_X7_reverse.cells = 0 := rfl
    have hc2 : rm_X7_reverse.slots = 0 := rfl
    refine lv_iload hx hb dX7_reverse_25 (lv_at hl 4 rfl) ?_
    refine lv_iload_n hx hb dX7_reverse_27 rfl (lv_at hl 3 rfl) ?_
    refine lv_iconst (v := 1) hx hb dX7_reverse_28 (by decide) ?_
    refine lv_isub hx hb dX7_reverse_29 ?_
    refine lv_iload hx hb dX7_reverse_30 (lv_at hl 4 rfl) ?_
    refine lv_isub hx hb dX7_reverse_32 ?_
    refine lv_icmp_ge (tgt := 106) hx hb dX7_reverse_33 (by decide) (fun hc => ?_) (fun hc => ?_)
    · have hv11 := hv.1 hc
      exact hE  w _ _ _ (lv_sub hl [3] rfl) hH hv11
    · have hv12 := hv.2 hc
      refine lv_aload_n hx hb dX7_reverse_36 rfl (lv_at hl 0 rfl) ?_
      refine gf_X7_7 hC hH hv12.1 hv12.2.1 dX7_reverse_37 ?_
      refine lv_aload_n hx hb dX7_reverse_40 rfl (lv_at hl 0 rfl) ?_
      refine lv_iload_n hx hb dX7_reverse_41 rfl (lv_at hl 1 rfl) ?_
      refine lv_iload_n hx hb dX7_reverse_42 rfl (lv_at hl 2 rfl) ?_
      refine lv_iload hx hb dX7_reverse_43 (lv_at hl 4 rfl) ?_
      refine cl_X7_76 hC hD hH hv12.2.2.2 hv12.2.2.1 ⟨Nat.le_of_ble_eq_true rfl, Nat.le_of_ble_eq_true rfl⟩ ⟨(Nat.le_of_ble_eq_true rfl), (Nat.le_of_ble_eq_true rfl)⟩ ⟨(Nat.le_of_ble_eq_true rfl), (Nat.le_of_ble_eq_true rfl)⟩ hl.1 (Nat.le_of_ble_eq_true rfl) dX7_reverse_45 (fun r13 w14 H locs hH hv15 => ?_)
      refine sj_lald hC hH hv15.1 hv15.2.1 dX7_reverse_48 ?_
      refine lv_lstore (lv' := [(5, .long (sj_l w14 (sj_A w 40 f0) r13.toNatClampNeg)), (0, .ref f0), (1, .int f1), (2, .int f2), (3, .int f3), (4, .int v4)]) hx hb dX7_reverse_49 hl (by decide) rfl (fun ls hl => ?_)
      refine lv_aload_n hx hb dX7_reverse_51 rfl (lv_at hl 1 rfl) ?_
      refine gf_X7_7 hC hH hv15.2.2.1 hv15.2.2.2.1 dX7_reverse_52 ?_
      refine lv_aload_n hx hb dX7_reverse_55 rfl (lv_at hl 1 rfl) ?_
      refine lv_iload_n hx hb dX7_reverse_56 rfl (lv_at hl 2 rfl) ?_
      refine lv_iload_n hx hb dX7_reverse_57 rfl (lv_at hl 3 rfl) ?_
      refine lv_iload hx hb dX7_reverse_58 (lv_at hl 5 rfl) ?_
      refine cl_X7_76 hC hD hH hv15.2.2.2.2.2 hv15.2.2.2.2.1 ⟨Nat.le_of_ble_eq_true rfl, Nat.le_of_ble_eq_true rfl⟩ ⟨(Nat.le_of_ble_eq_true rfl), (Nat.le_of_ble_eq_true rfl)⟩ ⟨(Nat.le_of_ble_eq_true rfl), (Nat.le_of_ble_eq_true rfl)⟩ hl.1 (Nat.le_of_ble_eq_true rfl) dX7_reverse_60 (fun r16 w17 H locs hH hv18 => ?_)
      refine lv_aload_n hx hb dX7_reverse_63 rfl (lv_at hl 1 rfl) ?_
      refine gf_X7_7 hC hH hv18.1 hv18.2.1 dX7_reverse_64 ?_
      refine lv_aload_n hx hb dX7_reverse_67 rfl (lv_at hl 1 rfl) ?_
      refine lv_iload_n hx hb dX7_reverse_68 rfl (lv_at hl 2 rfl) ?_
      refine lv_iload_n hx hb dX7_reverse_69 rfl (lv_at hl 3 rfl) ?_
      refine lv_iload_n hx hb dX7_reverse_70 rfl (lv_at hl 4 rfl) ?_
      refine lv_iconst (v := 1) hx hb dX7_reverse_71 (by decide) ?_
      refine lv_isub hx hb dX7_reverse_72 ?_
      refine lv_iload hx hb dX7_reverse_73 (lv_at hl 5 rfl) ?_
      refine lv_isub hx hb dX7_reverse_75 ?_
      refine cl_X7_76 hC hD hH hv18.2.2.2 hv18.2.2.1 ⟨Nat.le_of_ble_eq_true rfl, Nat.le_of_ble_eq_true rfl⟩ ⟨(Nat.le_of_ble_eq_true rfl), (Nat.le_of_ble_eq_true rfl)⟩ ⟨(Nat.le_of_ble_eq_true rfl), (Nat.le_of_ble_eq_true rfl)⟩ hl.1 (Nat.le_of_ble_eq_true rfl) dX7_reverse_76 (fun r19 w20 H locs hH hv21 => ?_)
      refine sj_lald hC hH hv21.1 hv21.2.1 dX7_reverse_79 ?_
      refine sj_last hC hH hv21.2.2.1 hv21.2.2.2.1 dX7_reverse_80 (fun w22 H locs e23 hH => ?_)
      refine lv_aload_n hx hb dX7_reverse_81 rfl (lv_at hl 1 rfl) ?_
      refine gf_X7_7 hC hH (hv21.2.2.2.2 w22 e23).1 (hv21.2.2.2.2 w22 e23).2.1 dX7_reverse_82 ?_
      refine lv_aload_n hx hb dX7_reverse_85 rfl (lv_at hl 1 rfl) ?_
      refine lv_iload_n hx hb dX7_reverse_86 rfl (lv_at hl 2 rfl) ?_
      refine lv_iload_n hx hb dX7_reverse_87 rfl (lv_at hl 3 rfl) ?_
      refine lv_iload_n hx hb dX7_reverse_88 rfl (lv_at hl 4 rfl) ?_
      refine lv_iconst (v := 1) hx hb dX7_reverse_89 (by decide) ?_
      refine lv_isub hx hb dX7_reverse_90 ?_
      refine lv_iload hx hb dX7_reverse_91 (lv_at hl 5 rfl) ?_
      refine lv_isub hx hb dX7_reverse_93 ?_
      refine cl_X7_76 hC hD hH (hv21.2.2.2.2 w22 e23).2.2.2 (hv21.2.2.2.2 w22 e23).2.2.1 ⟨Nat.le_of_ble_eq_true rfl, Nat.le_of_ble_eq_true rfl⟩ ⟨(Nat.le_of_ble_eq_true rfl), (Nat.le_of_ble_eq_true rfl)⟩ ⟨(Nat.le_of_ble_eq_true rfl), (Nat.le_of_ble_eq_true rfl)⟩ hl.1 (Nat.le_of_ble_eq_true rfl) dX7_reverse_94 (fun r24 w25 H locs hH hv26 => ?_)
      refine lv_lload hx hb dX7_reverse_97 (lv_at hl 0 rfl) ?_
      refine sj_last hC hH hv26.1 hv26.2.1 dX7_reverse_99 (fun w27 H locs e28 hH => ?_)
      refine lv_iinc (v := (v4 + 1)) (lv' := [(4, .int (v4 + 1)), (5, .long (sj_l w14 (sj_A w 40 f0) r13.toNatClampNeg)), (0, .ref f0), (1, .int f1), (2, .int f2), (3, .int f3)]) hx hb dX7_reverse_100 hl (k := 5) rfl rfl (by decide) rfl (fun ls hl => ?_)
      refine lv_goto (tgt := 25) hx hb dX7_reverse_103 (by decide) ?_
      exact ih (v4 + 1) w27 _ _ _ (lv_sub hl [2, 3, 4, 5, 0] rfl) hH (hv26.2.2 w27 e28)
set_option maxHeartbeats 4000000 in
set_option maxRecDepth 100000 in
theorem wk_X7_reverse (G : sj_G) (l : Launch) (hlt : l.stackTraces = false) (self : Nat) (a1 : Int32) (a2 : Int32) (w : sj_W) (Q : Int32 → sj_W → Prop) (QX : String → sj_W → Prop) (hv : vc_X7_reverse self a1 a2 w Q) : sj_MI G l yX7_reverse (sj_ws yX7_reverse cX7_reverse 7 (some .int)) rm_X7_reverse [.ref self, .int a1, .int a2] w Q QX := by
  refine sj_of (by decide +kernel) (Nat.le_of_ble_eq_true rfl) hlt ?_
  intro p e s m args below meth c ls hC hD hr hin hH hl
  have hx := hC.1
  have hb := hC.2.1
  have hl : lv_has ls 7 [(0, .ref self), (1, .int a1), (2, .int a2)] := hl
  refine lv_aload_n hx hb dX7_reverse_0 rfl (lv_at hl 0 rfl) ?_
  refine lv_aload_n hx hb dX7_reverse_1 rfl (lv_at hl 0 rfl) ?_
  refine lv_iload_n hx hb dX7_reverse_2 rfl (lv_at hl 1 rfl) ?_
  refine lv_iload_n hx hb dX7_reverse_3 rfl (lv_at hl 2 rfl) ?_
  refine cl_X7_84 hC hD hH hv.2 hv.1 ⟨Nat.le_of_ble_eq_true rfl, Nat.le_of_ble_eq_true rfl⟩ ⟨(Nat.le_of_ble_eq_true rfl), (Nat.le_of_ble_eq_true rfl)⟩ ⟨(Nat.le_of_ble_eq_true rfl), (Nat.le_of_ble_eq_true rfl)⟩ hl.1 (Nat.le_of_ble_eq_true rfl) dX7_reverse_4 (fun r1 w2 H locs hH hv3 => ?_)
  refine cl_X7_73 hC hD hH hv3.2 hv3.1 ⟨Nat.le_of_ble_eq_true rfl, Nat.le_of_ble_eq_true rfl⟩ ⟨(Nat.le_of_ble_eq_true rfl), (Nat.le_of_ble_eq_true rfl)⟩ ⟨(Nat.le_of_ble_eq_true rfl), (Nat.le_of_ble_eq_true rfl)⟩ hl.1 (Nat.le_of_ble_eq_true rfl) dX7_reverse_7 (fun r4 w5 H locs hH hv6 => ?_)
  refine lv_if_eq (tgt := 15) hx hb dX7_reverse_10 (by decide) (fun hc => ?_) (fun hc => ?_)
  · have hv7 := hv6.1 hc
    refine lv_aload_n hx hb dX7_reverse_15 rfl (lv_at hl 0 rfl) ?_
    refine lv_iload_n hx hb dX7_reverse_16 rfl (lv_at hl 1 rfl) ?_
    refine lv_iload_n hx hb dX7_reverse_17 rfl (lv_at hl 2 rfl) ?_
    refine cl_X7_69 hC hD hH hv7.2 hv7.1 ⟨Nat.le_of_ble_eq_true rfl, Nat.le_of_ble_eq_true rfl⟩ ⟨(Nat.le_of_ble_eq_true rfl), (Nat.le_of_ble_eq_true rfl)⟩ ⟨(Nat.le_of_ble_eq_true rfl), (Nat.le_of_ble_eq_true rfl)⟩ hl.1 (Nat.le_of_ble_eq_true rfl) dX7_reverse_18 (fun r8 w9 H locs hH hv10 => ?_)
    refine lv_istore_n (lv' := [(3, .int r8), (0, .ref self), (1, .int a1), (2, .int a2)]) hx hb dX7_reverse_21 rfl hl (by decide) rfl (fun ls hl => ?_)
    refine lv_iconst (v := 0) hx hb dX7_reverse_22 (by decide) ?_
    refine lv_istore (lv' := [(4, .int 0), (3, .int r8), (0, .ref self), (1, .int a1), (2, .int a2)]) hx hb dX7_reverse_23 hl (by decide) rfl (fun ls hl => ?_)
    refine wl_X7_reverse_25 hC hD hr hin (fun w_25 H locs ls hl hH hv29 => ?_) 64 0 w9 _ _ _ (lv_sub hl [2, 3, 4, 1, 0] rfl) hH hv10
    refine lv_iload_n hx hb dX7_reverse_106 rfl (lv_at hl 0 rfl) ?_
    exact sj_retI hC hD.2 hH hr rfl hv29 ⟨(Nat.le_of_ble_eq_true rfl), (Nat.le_of_ble_eq_true rfl)⟩ dX7_reverse_107
  · have hv30 := hv6.2 hc
    refine lv_iconst (v := 0) hx hb dX7_reverse_13 (by decide) ?_
    exact sj_retI hC hD.2 hH hr rfl hv30 ⟨(Nat.le_of_ble_eq_true rfl), (Nat.le_of_ble_eq_true rfl)⟩ dX7_reverse_14
section SJL_X7_reverse
variable {p : Program} {l : Launch} {e : Env} {R : Room} {s : State} {m : MethodId} {args : Array Value} {below : List Frame} {meth : Method} {c : Code} {H : Heap} {locs : List Loc} {cells slots : Nat} {Q : State → Prop} {cc : ByteArray} {pc : Nat} {ls : Array Slot} {rest : List Value} {G : sj_G} {nL : Nat} {w : sj_W}
theorem cg_L_170 {b : Nat} {b0 : Int32} {b1 : Int32} {Qi : Int32 → sj_W → Prop} (hC : sj_C G p l s m args c cc RL nL) (hH : sj_H G s w H locs) (hv : vc_X7_reverse b b0 b1 w Qi) (hT : sj_T w b = 6) (hR : rm_X7_reverse.frames + 1 ≤ R.frames ∧ 8 + (7 + 11) + rm_X7_reverse.locals ≤ R.locals) (hf : cells + 0 ≤ R.cells ∧ slots + 0 ≤ R.slots) (hls : ls.size = nL) (hW : (rest.map fun v => v.category).sum ≤ 8) (hdg : decode cc pc = .ok (.invokevirtual 170, 3)) (kk : ∀ (r : Int32) (w1 : sj_W) (H : Heap) (locs : List Loc), sj_H G s w1 H locs → Qi r w1 → W p l e R s m args below meth c H locs (cells + 0) (slots + 0) Q (F0 m (pc + 3) ls (.int r :: rest))) : W p l e R s m args below meth c H locs cells slots Q (F0 m pc ls (.int b1 :: .int b0 :: .ref b :: rest)) :=
  sj_xI hH (sj_runV (n := 2) hC hH (As := [.int b0, .int b1]) (wk_X7_reverse G l hC.2.2.2.2.2.2 b b0 b1 w Qi (fun _ _ => False) hv) (ci := 5) rfl (by decide) hT mb_806 mb_807 mb_808 mb_5 mb_809 (by decide +kernel) hR hf rfl hls hW hdg) (fun _ _ _ _ _ _ _ h _ _ _ => h.elim) kk
end SJL_X7_reverse
abbrev rm_X7_root : Room := { frames := 3, cells := 0, slots := 0, locals := 68 }
def vb_X7_root_26 (f0 : Nat) (f1 : Int32) (f2 : Int32) (Q : Int32 → sj_W → Prop) (E : Int32 → sj_W → Prop) (K : Int32 → sj_W → Prop) (v3 : Int32) (w : sj_W) : Prop := sj_T w f0 = 6 ∧ vc_X7_size f0 f1 f2 w (fun r13 w14 => ¬ (v3 : Int32) = 0 ∧ ((¬ (r13 - r13 / v3 * v3) = 0 → K (v3 + 1) w14) ∧ ((r13 - r13 / v3 * v3) = 0 → sj_T w14 f0 = 6 ∧ vc_X7_is f0 f1 f2 v3 w14 (fun r18 w19 => ((¬ r18 = 0 → E v3 w19) ∧ (r18 = 0 → K (v3 + 1) w19))))))
def vc_X7_root (self : Nat) (a1 : Int32) (a2 : Int32) (w : sj_W) (Q : Int32 → sj_W → Prop) : Prop := sj_T w self = 6 ∧ vc_X7_noRow self a1 a2 w (fun r1 w2 => sj_T w2 self = 6 ∧ vc_X7_fails self r1 w2 (fun r4 w5 => ((¬ r4 = 0 → Q 0 w5) ∧ (r4 = 0 → sj_T w5 self = 6 ∧ vc_X7_size self a1 a2 w5 (fun r9 w10 => ((¬ r9 = 0 → sj_lp1 (vb_X7_root_26 self a1 a2 Q (fun z3_26 w_26 => Q z3_26 w_26)) 64 1 w10) ∧ (r9 = 0 → Q 0 w10)))))))
set_option maxHeartbeats 4000000 in
set_option maxRecDepth 100000 in
theorem wl_X7_root_26 {p : Program} {l : Launch} {e : Env} {s : State} {m : MethodId} {args : Array Value} {below : List Frame} {meth : Method} {c : Code} {G : sj_G} {f0 : Nat} {f1 : Int32} {f2 : Int32} {Q : Int32 → sj_W → Prop} {QX : String → sj_W → Prop} {E : Int32 → sj_W → Prop} (hC : sj_C G p l s m args c cX7_root RX7 4) (hD : sj_D meth c) (hr : meth.sig.returnType = (some .int)) (hin : meth.name = "root") (hE : ∀ (v3 : Int32) (w : sj_W) (H : Heap) (locs : List Loc) (ls : Array Slot), lv_has ls 4 [(3, .int v3)] → sj_H G s w H locs → E v3 w → W p l e rm_X7_root s m args below meth c H locs 0 0 (sj_MQ G below (va_Qi Q (sj_B G) (sj_F G)) QX args s rm_X7_root) (F0 m 53 ls [])) : ∀ (n : Nat) (v3 : Int32) (w : sj_W) (H : Heap) (locs : List Loc) (ls : Array Slot), lv_has ls 4 [(0, .ref f0), (1, .int f1), (2, .int f2), (3, .int v3)] → sj_H G s w H locs → sj_lp1 (vb_X7_root_26 f0 f1 f2 Q E) n v3 w → W p l e rm_X7_root s m args below meth c H locs 0 0 (sj_MQ G below (va_Qi Q (sj_B G) (sj_F G)) QX args s rm_X7_root) (F0 m 26 ls []) := by
  have hx := hC.1
  have hb := hC.2.1
  intro n
  induction n with
  | zero =>
    intro v3 w H locs ls _ _ hv
    exact hv.elim
  | succ n ih =>
    intro v3 w H locs ls hl hH hv
    have hv : vb_X7_root_26 f0 f1 f2 Q E (sj_lp1 (vb_X7_root_26 f0 f1 f2 Q E) n) v3 w := hv
    have hc1 : rm_X7_root.cells = 0 := rfl
    have hc2 : rm_X7_root.slots = 0 := rfl
    refine lv_aload_n hx hb dX7_root_26 rfl (lv_at hl 0 rfl) ?_
    refine lv_iload_n hx hb dX7_root_27 rfl (lv_at hl 1 rfl) ?_
    refine lv_iload_n hx hb dX7_root_28 rfl (lv_at hl 2 rfl) ?_
    refine cl_X7_69 hC hD hH hv.2 hv.1 ⟨Nat.le_of_ble_eq_true rfl, Nat.le_of_ble_eq_true rfl⟩ ⟨(Nat.le_of_ble_eq_true rfl), (Nat.le_of_ble_eq_true rfl)⟩ ⟨(Nat.le_of_ble_eq_true rfl), (Nat.le_of_ble_eq_true rfl)⟩ hl.1 (Nat.le_of_ble_eq_true rfl) dX7_root_29 (fun r13 w14 H locs hH hv15 => ?_)
    refine lv_iload_n hx hb dX7_root_32 rfl (lv_at hl 3 rfl) ?_
    refine lv_irem hx hb dX7_root_33 hv15.1 ?_
    refine lv_if_ne (tgt := 47) hx hb dX7_root_34 (by decide) (fun hc => ?_) (fun hc => ?_)
    · have hv16 := hv15.2.1 hc
      refine lv_iinc (v := (v3 + 1)) (lv' := [(3, .int (v3 + 1)), (0, .ref f0), (1, .int f1), (2, .int f2)]) hx hb dX7_root_47 hl (k := 3) rfl rfl (by decide) rfl (fun ls hl => ?_)
      refine lv_goto (tgt := 26) hx hb dX7_root_50 (by decide) ?_
      exact ih (v3 + 1) w14 _ _ _ (lv_sub hl [1, 2, 3, 0] rfl) hH hv16
    · have hv17 := hv15.2.2 hc
      refine lv_aload_n hx hb dX7_root_37 rfl (lv_at hl 0 rfl) ?_
      refine lv_iload_n hx hb dX7_root_38 rfl (lv_at hl 1 rfl) ?_
      refine lv_iload_n hx hb dX7_root_39 rfl (lv_at hl 2 rfl) ?_
      refine lv_iload_n hx hb dX7_root_40 rfl (lv_at hl 3 rfl) ?_
      refine cl_X7_158 hC hD hH hv17.2 hv17.1 ⟨Nat.le_of_ble_eq_true rfl, Nat.le_of_ble_eq_true rfl⟩ ⟨(Nat.le_of_ble_eq_true rfl), (Nat.le_of_ble_eq_true rfl)⟩ ⟨(Nat.le_of_ble_eq_true rfl), (Nat.le_of_ble_eq_true rfl)⟩ hl.1 (Nat.le_of_ble_eq_true rfl) dX7_root_41 (fun r18 w19 H locs hH hv20 => ?_)
      refine lv_if_ne (tgt := 53) hx hb dX7_root_44 (by decide) (fun hc => ?_) (fun hc => ?_)
      · have hv21 := hv20.1 hc
        exact hE v3 w19 _ _ _ (lv_sub hl [3] rfl) hH hv21
      · have hv22 := hv20.2 hc
        refine lv_iinc (v := (v3 + 1)) (lv' := [(3, .int (v3 + 1)), (0, .ref f0), (1, .int f1), (2, .int f2)]) hx hb dX7_root_47 hl (k := 3) rfl rfl (by decide) rfl (fun ls hl => ?_)
        refine lv_goto (tgt := 26) hx hb dX7_root_50 (by decide) ?_
        exact ih (v3 + 1) w19 _ _ _ (lv_sub hl [1, 2, 3, 0] rfl) hH hv22
set_option maxHeartbeats 4000000 in
set_option maxRecDepth 100000 in
theorem wk_X7_root (G : sj_G) (l : Launch) (hlt : l.stackTraces = false) (self : Nat) (a1 : Int32) (a2 : Int32) (w : sj_W) (Q : Int32 → sj_W → Prop) (QX : String → sj_W → Prop) (hv : vc_X7_root self a1 a2 w Q) : sj_MI G l yX7_root (sj_ws yX7_root cX7_root 4 (some .int)) rm_X7_root [.ref self, .int a1, .int a2] w Q QX := by
  refine sj_of (by decide +kernel) (Nat.le_of_ble_eq_true rfl) hlt ?_
  intro p e s m args below meth c ls hC hD hr hin hH hl
  have hx := hC.1
  have hb := hC.2.1
  have hl : lv_has ls 4 [(0, .ref self), (1, .int a1), (2, .int a2)] := hl
  refine lv_aload_n hx hb dX7_root_0 rfl (lv_at hl 0 rfl) ?_
  refine lv_aload_n hx hb dX7_root_1 rfl (lv_at hl 0 rfl) ?_
  refine lv_iload_n hx hb dX7_root_2 rfl (lv_at hl 1 rfl) ?_
  refine lv_iload_n hx hb dX7_root_3 rfl (lv_at hl 2 rfl) ?_
  refine cl_X7_84 hC hD hH hv.2 hv.1 ⟨Nat.le_of_ble_eq_true rfl, Nat.le_of_ble_eq_true rfl⟩ ⟨(Nat.le_of_ble_eq_true rfl), (Nat.le_of_ble_eq_true rfl)⟩ ⟨(Nat.le_of_ble_eq_true rfl), (Nat.le_of_ble_eq_true rfl)⟩ hl.1 (Nat.le_of_ble_eq_true rfl) dX7_root_4 (fun r1 w2 H locs hH hv3 => ?_)
  refine cl_X7_73 hC hD hH hv3.2 hv3.1 ⟨Nat.le_of_ble_eq_true rfl, Nat.le_of_ble_eq_true rfl⟩ ⟨(Nat.le_of_ble_eq_true rfl), (Nat.le_of_ble_eq_true rfl)⟩ ⟨(Nat.le_of_ble_eq_true rfl), (Nat.le_of_ble_eq_true rfl)⟩ hl.1 (Nat.le_of_ble_eq_true rfl) dX7_root_7 (fun r4 w5 H locs hH hv6 => ?_)
  refine lv_if_ne (tgt := 22) hx hb dX7_root_10 (by decide) (fun hc => ?_) (fun hc => ?_)
  · have hv7 := hv6.1 hc
    refine lv_iconst (v := 0) hx hb dX7_root_22 (by decide) ?_
    exact sj_retI hC hD.2 hH hr rfl hv7 ⟨(Nat.le_of_ble_eq_true rfl), (Nat.le_of_ble_eq_true rfl)⟩ dX7_root_23
  · have hv8 := hv6.2 hc
    refine lv_aload_n hx hb dX7_root_13 rfl (lv_at hl 0 rfl) ?_
    refine lv_iload_n hx hb dX7_root_14 rfl (lv_at hl 1 rfl) ?_
    refine lv_iload_n hx hb dX7_root_15 rfl (lv_at hl 2 rfl) ?_
    refine cl_X7_69 hC hD hH hv8.2 hv8.1 ⟨Nat.le_of_ble_eq_true rfl, Nat.le_of_ble_eq_true rfl⟩ ⟨(Nat.le_of_ble_eq_true rfl), (Nat.le_of_ble_eq_true rfl)⟩ ⟨(Nat.le_of_ble_eq_true rfl), (Nat.le_of_ble_eq_true rfl)⟩ hl.1 (Nat.le_of_ble_eq_true rfl) dX7_root_16 (fun r9 w10 H locs hH hv11 => ?_)
    refine lv_if_ne (tgt := 24) hx hb dX7_root_19 (by decide) (fun hc => ?_) (fun hc => ?_)
    · have hv12 := hv11.1 hc
      refine lv_iconst (v := 1) hx hb dX7_root_24 (by decide) ?_
      refine lv_istore_n (lv' := [(3, .int 1), (0, .ref self), (1, .int a1), (2, .int a2)]) hx hb dX7_root_25 rfl hl (by decide) rfl (fun ls hl => ?_)
      refine wl_X7_root_26 hC hD hr hin (fun z3_26 w_26 H locs ls hl hH hv23 => ?_) 64 1 w10 _ _ _ (lv_sub hl [1, 2, 3, 0] rfl) hH hv12
      refine lv_iload_n hx hb dX7_root_53 rfl (lv_at hl 0 rfl) ?_
      exact sj_retI hC hD.2 hH hr rfl hv23 ⟨(Nat.le_of_ble_eq_true rfl), (Nat.le_of_ble_eq_true rfl)⟩ dX7_root_54
    · have hv24 := hv11.2 hc
      refine lv_iconst (v := 0) hx hb dX7_root_22 (by decide) ?_
      exact sj_retI hC hD.2 hH hr rfl hv24 ⟨(Nat.le_of_ble_eq_true rfl), (Nat.le_of_ble_eq_true rfl)⟩ dX7_root_23
section SJL_X7_root
variable {p : Program} {l : Launch} {e : Env} {R : Room} {s : State} {m : MethodId} {args : Array Value} {below : List Frame} {meth : Method} {c : Code} {H : Heap} {locs : List Loc} {cells slots : Nat} {Q : State → Prop} {cc : ByteArray} {pc : Nat} {ls : Array Slot} {rest : List Value} {G : sj_G} {nL : Nat} {w : sj_W}
theorem cg_L_236 {b : Nat} {b0 : Int32} {b1 : Int32} {Qi : Int32 → sj_W → Prop} (hC : sj_C G p l s m args c cc RL nL) (hH : sj_H G s w H locs) (hv : vc_X7_root b b0 b1 w Qi) (hT : sj_T w b = 6) (hR : rm_X7_root.frames + 1 ≤ R.frames ∧ 8 + (4 + 11) + rm_X7_root.locals ≤ R.locals) (hf : cells + 0 ≤ R.cells ∧ slots + 0 ≤ R.slots) (hls : ls.size = nL) (hW : (rest.map fun v => v.category).sum ≤ 8) (hdg : decode cc pc = .ok (.invokevirtual 236, 3)) (kk : ∀ (r : Int32) (w1 : sj_W) (H : Heap) (locs : List Loc), sj_H G s w1 H locs → Qi r w1 → W p l e R s m args below meth c H locs (cells + 0) (slots + 0) Q (F0 m (pc + 3) ls (.int r :: rest))) : W p l e R s m args below meth c H locs cells slots Q (F0 m pc ls (.int b1 :: .int b0 :: .ref b :: rest)) :=
  sj_xI hH (sj_runV (n := 2) hC hH (As := [.int b0, .int b1]) (wk_X7_root G l hC.2.2.2.2.2.2 b b0 b1 w Qi (fun _ _ => False) hv) (ci := 5) rfl (by decide) hT mb_944 mb_945 mb_946 mb_5 mb_947 (by decide +kernel) hR hf rfl hls hW hdg) (fun _ _ _ _ _ _ _ h _ _ _ => h.elim) kk
end SJL_X7_root
abbrev rm_X7_rotation : Room := { frames := 3, cells := 0, slots := 0, locals := 74 }
def vb_X7_rotation_35 (f0 : Nat) (f1 : Int32) (f2 : Int32) (f3 : Int32) (Q : Int32 → sj_W → Prop) (E : Int32 → sj_W → Prop) (K : Int32 → Int32 → sj_W → Prop) (v4 : Int32) (v5 : Int32) (w : sj_W) : Prop := sj_T w f0 = 6 ∧ vc_X7_size f0 f1 f3 w (fun r19 w20 => ((r19 ≤ v5 → E v4 w20) ∧ (¬ r19 ≤ v5 → sj_T w20 f0 = 6 ∧ vc_X7_isTurnedLess f0 f1 f2 f3 v5 v4 w20 (fun r24 w25 => ((r24 = 0 → K v4 (v5 + 1) w25) ∧ (¬ r24 = 0 → K v5 (v5 + 1) w25))))))
def vc_X7_rotation (self : Nat) (a1 : Int32) (a2 : Int32) (a3 : Int32) (w : sj_W) (Q : Int32 → sj_W → Prop) : Prop := sj_T w self = 6 ∧ vc_X7_noOrder self a1 a2 a3 w (fun r1 w2 => sj_T w2 self = 6 ∧ vc_X7_fails self r1 w2 (fun r4 w5 => ((r4 = 0 → sj_T w5 self = 6 ∧ vc_X7_size self a1 a3 w5 (fun r8 w9 => sj_jn1 (fun (E11 : Int32 → sj_W → Prop) => ((¬ r8 = 0 → E11 0 w9) ∧ (r8 = 0 → E11 (-1) w9))) (fun (y0_30 : Int32) (w_30 : sj_W) => sj_lp2 (vb_X7_rotation_35 self a1 a2 a3 Q (fun z4_35 w_35 => Q z4_35 w_35)) 64 y0_30 1 w_30))) ∧ (¬ r4 = 0 → Q 0 w5))))
set_option maxHeartbeats 4000000 in
set_option maxRecDepth 100000 in
theorem wl_X7_rotation_35 {p : Program} {l : Launch} {e : Env} {s : State} {m : MethodId} {args : Array Value} {below : List Frame} {meth : Method} {c : Code} {G : sj_G} {f0 : Nat} {f1 : Int32} {f2 : Int32} {f3 : Int32} {Q : Int32 → sj_W → Prop} {QX : String → sj_W → Prop} {E : Int32 → sj_W → Prop} (hC : sj_C G p l s m args c cX7_rotation RX7 6) (hD : sj_D meth c) (hr : meth.sig.returnType = (some .int)) (hin : meth.name = "rotation") (hE : ∀ (v4 : Int32) (w : sj_W) (H : Heap) (locs : List Loc) (ls : Array Slot), lv_has ls 6 [(4, .int v4)] → sj_H G s w H locs → E v4 w → W p l e rm_X7_rotation s m args below meth c H locs 0 0 (sj_MQ G below (va_Qi Q (sj_B G) (sj_F G)) QX args s rm_X7_rotation) (F0 m 70 ls [])) : ∀ (n : Nat) (v4 : Int32) (v5 : Int32) (w : sj_W) (H : Heap) (locs : List Loc) (ls : Array Slot), lv_has ls 6 [(0, .ref f0), (1, .int f1), (2, .int f2), (3, .int f3), (4, .int v4), (5, .int v5)] → sj_H G s w H locs → sj_lp2 (vb_X7_rotation_35 f0 f1 f2 f3 Q E) n v4 v5 w → W p l e rm_X7_rotation s m args below meth c H locs 0 0 (sj_MQ G below (va_Qi Q (sj_B G) (sj_F G)) QX args s rm_X7_rotation) (F0 m 35 ls []) := by
  have hx := hC.1
  have hb := hC.2.1
  intro n
  induction n with
  | zero =>
    intro v4 v5 w H locs ls _ _ hv
    exact hv.elim
  | succ n ih =>
    intro v4 v5 w H locs ls hl hH hv
    have hv : vb_X7_rotation_35 f0 f1 f2 f3 Q E (sj_lp2 (vb_X7_rotation_35 f0 f1 f2 f3 Q E) n) v4 v5 w := hv
    have hc1 : rm_X7_rotation.cells = 0 := rfl
    have hc2 : rm_X7_rotation.slots = 0 := rfl
    refine lv_iload hx hb dX7_rotation_35 (lv_at hl 5 rfl) ?_
    refine lv_aload_n hx hb dX7_rotation_37 rfl (lv_at hl 0 rfl) ?_
    refine lv_iload_n hx hb dX7_rotation_38 rfl (lv_at hl 1 rfl) ?_
    refine lv_iload_n hx hb dX7_rotation_39 rfl (lv_at hl 3 rfl) ?_
    refine cl_X7_69 hC hD hH hv.2 hv.1 ⟨Nat.le_of_ble_eq_true rfl, Nat.le_of_ble_eq_true rfl⟩ ⟨(Nat.le_of_ble_eq_true rfl), (Nat.le_of_ble_eq_true rfl)⟩ ⟨(Nat.le_of_ble_eq_true rfl), (Nat.le_of_ble_eq_true rfl)⟩ hl.1 (Nat.le_of_ble_eq_true rfl) dX7_rotation_40 (fun r19 w20 H locs hH hv21 => ?_)
    refine lv_icmp_ge (tgt := 70) hx hb dX7_rotation_43 (by decide) (fun hc => ?_) (fun hc => ?_)
    · have hv22 := hv21.1 hc
      exact hE v4 w20 _ _ _ (lv_sub hl [4] rfl) hH hv22
    · have hv23 := hv21.2 hc
      refine lv_aload_n hx hb dX7_rotation_46 rfl (lv_at hl 0 rfl) ?_
      refine lv_iload_n hx hb dX7_rotation_47 rfl (lv_at hl 1 rfl) ?_
      refine lv_iload_n hx hb dX7_rotation_48 rfl (lv_at hl 2 rfl) ?_
      refine lv_iload_n hx hb dX7_rotation_49 rfl (lv_at hl 3 rfl) ?_
      refine lv_iload hx hb dX7_rotation_50 (lv_at hl 5 rfl) ?_
      refine lv_iload hx hb dX7_rotation_52 (lv_at hl 4 rfl) ?_
      refine cl_X7_162 hC hD hH hv23.2 hv23.1 ⟨Nat.le_of_ble_eq_true rfl, Nat.le_of_ble_eq_true rfl⟩ ⟨(Nat.le_of_ble_eq_true rfl), (Nat.le_of_ble_eq_true rfl)⟩ ⟨(Nat.le_of_ble_eq_true rfl), (Nat.le_of_ble_eq_true rfl)⟩ hl.1 (Nat.le_of_ble_eq_true rfl) dX7_rotation_54 (fun r24 w25 H locs hH hv26 => ?_)
      refine lv_if_eq (tgt := 64) hx hb dX7_rotation_57 (by decide) (fun hc => ?_) (fun hc => ?_)
      · have hv27 := hv26.1 hc
        refine lv_iinc (v := (v5 + 1)) (lv' := [(5, .int (v5 + 1)), (0, .ref f0), (1, .int f1), (2, .int f2), (3, .int f3), (4, .int v4)]) hx hb dX7_rotation_64 hl (k := 5) rfl rfl (by decide) rfl (fun ls hl => ?_)
        refine lv_goto (tgt := 35) hx hb dX7_rotation_67 (by decide) ?_
        exact ih v4 (v5 + 1) w25 _ _ _ (lv_sub hl [1, 2, 3, 4, 5, 0] rfl) hH hv27
      · have hv28 := hv26.2 hc
        refine lv_iload hx hb dX7_rotation_60 (lv_at hl 5 rfl) ?_
        refine lv_istore (lv' := [(4, .int v5), (0, .ref f0), (1, .int f1), (2, .int f2), (3, .int f3), (5, .int v5)]) hx hb dX7_rotation_62 hl (by decide) rfl (fun ls hl => ?_)
        refine lv_iinc (v := (v5 + 1)) (lv' := [(5, .int (v5 + 1)), (4, .int v5), (0, .ref f0), (1, .int f1), (2, .int f2), (3, .int f3)]) hx hb dX7_rotation_64 hl (k := 5) rfl rfl (by decide) rfl (fun ls hl => ?_)
        refine lv_goto (tgt := 35) hx hb dX7_rotation_67 (by decide) ?_
        exact ih v5 (v5 + 1) w25 _ _ _ (lv_sub hl [2, 3, 4, 5, 1, 0] rfl) hH hv28
set_option maxHeartbeats 4000000 in
set_option maxRecDepth 100000 in
theorem wk_X7_rotation (G : sj_G) (l : Launch) (hlt : l.stackTraces = false) (self : Nat) (a1 : Int32) (a2 : Int32) (a3 : Int32) (w : sj_W) (Q : Int32 → sj_W → Prop) (QX : String → sj_W → Prop) (hv : vc_X7_rotation self a1 a2 a3 w Q) : sj_MI G l yX7_rotation (sj_ws yX7_rotation cX7_rotation 6 (some .int)) rm_X7_rotation [.ref self, .int a1, .int a2, .int a3] w Q QX := by
  refine sj_of (by decide +kernel) (Nat.le_of_ble_eq_true rfl) hlt ?_
  intro p e s m args below meth c ls hC hD hr hin hH hl
  have hx := hC.1
  have hb := hC.2.1
  have hl : lv_has ls 6 [(0, .ref self), (1, .int a1), (2, .int a2), (3, .int a3)] := hl
  refine lv_aload_n hx hb dX7_rotation_0 rfl (lv_at hl 0 rfl) ?_
  refine lv_aload_n hx hb dX7_rotation_1 rfl (lv_at hl 0 rfl) ?_
  refine lv_iload_n hx hb dX7_rotation_2 rfl (lv_at hl 1 rfl) ?_
  refine lv_iload_n hx hb dX7_rotation_3 rfl (lv_at hl 2 rfl) ?_
  refine lv_iload_n hx hb dX7_rotation_4 rfl (lv_at hl 3 rfl) ?_
  refine cl_X7_150 hC hD hH hv.2 hv.1 ⟨Nat.le_of_ble_eq_true rfl, Nat.le_of_ble_eq_true rfl⟩ ⟨(Nat.le_of_ble_eq_true rfl), (Nat.le_of_ble_eq_true rfl)⟩ ⟨(Nat.le_of_ble_eq_true rfl), (Nat.le_of_ble_eq_true rfl)⟩ hl.1 (Nat.le_of_ble_eq_true rfl) dX7_rotation_5 (fun r1 w2 H locs hH hv3 => ?_)
  refine cl_X7_73 hC hD hH hv3.2 hv3.1 ⟨Nat.le_of_ble_eq_true rfl, Nat.le_of_ble_eq_true rfl⟩ ⟨(Nat.le_of_ble_eq_true rfl), (Nat.le_of_ble_eq_true rfl)⟩ ⟨(Nat.le_of_ble_eq_true rfl), (Nat.le_of_ble_eq_true rfl)⟩ hl.1 (Nat.le_of_ble_eq_true rfl) dX7_rotation_8 (fun r4 w5 H locs hH hv6 => ?_)
  refine lv_if_eq (tgt := 16) hx hb dX7_rotation_11 (by decide) (fun hc => ?_) (fun hc => ?_)
  · have hv7 := hv6.1 hc
    refine lv_aload_n hx hb dX7_rotation_16 rfl (lv_at hl 0 rfl) ?_
    refine lv_iload_n hx hb dX7_rotation_17 rfl (lv_at hl 1 rfl) ?_
    refine lv_iload_n hx hb dX7_rotation_18 rfl (lv_at hl 3 rfl) ?_
    refine cl_X7_69 hC hD hH hv7.2 hv7.1 ⟨Nat.le_of_ble_eq_true rfl, Nat.le_of_ble_eq_true rfl⟩ ⟨(Nat.le_of_ble_eq_true rfl), (Nat.le_of_ble_eq_true rfl)⟩ ⟨(Nat.le_of_ble_eq_true rfl), (Nat.le_of_ble_eq_true rfl)⟩ hl.1 (Nat.le_of_ble_eq_true rfl) dX7_rotation_19 (fun r8 w9 H locs hH hv10 => ?_)
    obtain ⟨E11, hE12, hv15⟩ := sj_jn1_e hv10
    have hJ13 : ∀ (y0_30 : Int32) (w_30 : sj_W) (H : Heap) (locs : List Loc) (ls : Array Slot), lv_has ls 6 [(0, .ref self), (1, .int a1), (2, .int a2), (3, .int a3)] → sj_H G s w_30 H locs → E11 y0_30 w_30 → W p l e rm_X7_rotation s m args below meth c H locs 0 0 (sj_MQ G below (va_Qi Q (sj_B G) (sj_F G)) QX args s rm_X7_rotation) (F0 m 30 ls [.int y0_30]) := by
      intro y0_30 w_30 H locs ls hl hH hv16
      rw [hE12] at hv16
      refine lv_istore (lv' := [(4, .int y0_30), (0, .ref self), (1, .int a1), (2, .int a2), (3, .int a3)]) hx hb dX7_rotation_30 hl (by decide) rfl (fun ls hl => ?_)
      refine lv_iconst (v := 1) hx hb dX7_rotation_32 (by decide) ?_
      refine lv_istore (lv' := [(5, .int 1), (4, .int y0_30), (0, .ref self), (1, .int a1), (2, .int a2), (3, .int a3)]) hx hb dX7_rotation_33 hl (by decide) rfl (fun ls hl => ?_)
      refine wl_X7_rotation_35 hC hD hr hin (fun z4_35 w_35 H locs ls hl hH hv29 => ?_) 64 y0_30 1 w_30 _ _ _ (lv_sub hl [2, 3, 4, 5, 1, 0] rfl) hH hv16
      refine lv_iload hx hb dX7_rotation_70 (lv_at hl 0 rfl) ?_
      exact sj_retI hC hD.2 hH hr rfl hv29 ⟨(Nat.le_of_ble_eq_true rfl), (Nat.le_of_ble_eq_true rfl)⟩ dX7_rotation_72
    clear hE12
    refine lv_if_ne (tgt := 29) hx hb dX7_rotation_22 (by decide) (fun hc => ?_) (fun hc => ?_)
    · have hv17 := hv15.1 hc
      refine lv_iconst (v := 0) hx hb dX7_rotation_29 (by decide) ?_
      exact hJ13 0 w9 _ _ _ (lv_sub hl [0, 1, 2, 3] rfl) hH hv17
    · have hv18 := hv15.2 hc
      refine lv_iconst (v := (-1)) hx hb dX7_rotation_25 (by decide) ?_
      refine lv_goto (tgt := 30) hx hb dX7_rotation_26 (by decide) ?_
      exact hJ13 (-1) w9 _ _ _ (lv_sub hl [0, 1, 2, 3] rfl) hH hv18
  · have hv30 := hv6.2 hc
    refine lv_iconst (v := 0) hx hb dX7_rotation_14 (by decide) ?_
    exact sj_retI hC hD.2 hH hr rfl hv30 ⟨(Nat.le_of_ble_eq_true rfl), (Nat.le_of_ble_eq_true rfl)⟩ dX7_rotation_15
section SJL_X7_rotation
variable {p : Program} {l : Launch} {e : Env} {R : Room} {s : State} {m : MethodId} {args : Array Value} {below : List Frame} {meth : Method} {c : Code} {H : Heap} {locs : List Loc} {cells slots : Nat} {Q : State → Prop} {cc : ByteArray} {pc : Nat} {ls : Array Slot} {rest : List Value} {G : sj_G} {nL : Nat} {w : sj_W}
theorem cg_L_239 {b : Nat} {b0 : Int32} {b1 : Int32} {b2 : Int32} {Qi : Int32 → sj_W → Prop} (hC : sj_C G p l s m args c cc RL nL) (hH : sj_H G s w H locs) (hv : vc_X7_rotation b b0 b1 b2 w Qi) (hT : sj_T w b = 6) (hR : rm_X7_rotation.frames + 1 ≤ R.frames ∧ 8 + (6 + 11) + rm_X7_rotation.locals ≤ R.locals) (hf : cells + 0 ≤ R.cells ∧ slots + 0 ≤ R.slots) (hls : ls.size = nL) (hW : (rest.map fun v => v.category).sum ≤ 8) (hdg : decode cc pc = .ok (.invokevirtual 239, 3)) (kk : ∀ (r : Int32) (w1 : sj_W) (H : Heap) (locs : List Loc), sj_H G s w1 H locs → Qi r w1 → W p l e R s m args below meth c H locs (cells + 0) (slots + 0) Q (F0 m (pc + 3) ls (.int r :: rest))) : W p l e R s m args below meth c H locs cells slots Q (F0 m pc ls (.int b2 :: .int b1 :: .int b0 :: .ref b :: rest)) :=
  sj_xI hH (sj_runV (n := 3) hC hH (As := [.int b0, .int b1, .int b2]) (wk_X7_rotation G l hC.2.2.2.2.2.2 b b0 b1 b2 w Qi (fun _ _ => False) hv) (ci := 5) rfl (by decide) hT mb_948 mb_949 mb_950 mb_5 mb_951 (by decide +kernel) hR hf rfl hls hW hdg) (fun _ _ _ _ _ _ _ h _ _ _ => h.elim) kk
end SJL_X7_rotation
abbrev rm_X7_rowIsTrue : Room := { frames := 3, cells := 0, slots := 0, locals := 68 }
def vc_X7_rowIsTrue (self : Nat) (a1 : Int32) (a2 : Int32) (a3 : Int32) (w : sj_W) (Q : Int32 → sj_W → Prop) : Prop := sj_T w self = 6 ∧ vc_X7_noOrder self a1 a2 a3 w (fun r1 w2 => sj_T w2 self = 6 ∧ vc_X7_fails self r1 w2 (fun r4 w5 => ((¬ r4 = 0 → Q 0 w5) ∧ (r4 = 0 → Q 1 w5))))
set_option maxHeartbeats 4000000 in
set_option maxRecDepth 100000 in
theorem wk_X7_rowIsTrue (G : sj_G) (l : Launch) (hlt : l.stackTraces = false) (self : Nat) (a1 : Int32) (a2 : Int32) (a3 : Int32) (w : sj_W) (Q : Int32 → sj_W → Prop) (QX : String → sj_W → Prop) (hv : vc_X7_rowIsTrue self a1 a2 a3 w Q) : sj_MI G l yX7_rowIsTrue (sj_ws yX7_rowIsTrue cX7_rowIsTrue 4 (some .boolean)) rm_X7_rowIsTrue [.ref self, .int a1, .int a2, .int a3] w Q QX := by
  refine sj_of (by decide +kernel) (Nat.le_of_ble_eq_true rfl) hlt ?_
  intro p e s m args below meth c ls hC hD hr hin hH hl
  have hx := hC.1
  have hb := hC.2.1
  have hl : lv_has ls 4 [(0, .ref self), (1, .int a1), (2, .int a2), (3, .int a3)] := hl
  refine lv_aload_n hx hb dX7_rowIsTrue_0 rfl (lv_at hl 0 rfl) ?_
  refine lv_aload_n hx hb dX7_rowIsTrue_1 rfl (lv_at hl 0 rfl) ?_
  refine lv_iload_n hx hb dX7_rowIsTrue_2 rfl (lv_at hl 1 rfl) ?_
  refine lv_iload_n hx hb dX7_rowIsTrue_3 rfl (lv_at hl 2 rfl) ?_
  refine lv_iload_n hx hb dX7_rowIsTrue_4 rfl (lv_at hl 3 rfl) ?_
  refine cl_X7_150 hC hD hH hv.2 hv.1 ⟨Nat.le_of_ble_eq_true rfl, Nat.le_of_ble_eq_true rfl⟩ ⟨(Nat.le_of_ble_eq_true rfl), (Nat.le_of_ble_eq_true rfl)⟩ ⟨(Nat.le_of_ble_eq_true rfl), (Nat.le_of_ble_eq_true rfl)⟩ hl.1 (Nat.le_of_ble_eq_true rfl) dX7_rowIsTrue_5 (fun r1 w2 H locs hH hv3 => ?_)
  refine cl_X7_73 hC hD hH hv3.2 hv3.1 ⟨Nat.le_of_ble_eq_true rfl, Nat.le_of_ble_eq_true rfl⟩ ⟨(Nat.le_of_ble_eq_true rfl), (Nat.le_of_ble_eq_true rfl)⟩ ⟨(Nat.le_of_ble_eq_true rfl), (Nat.le_of_ble_eq_true rfl)⟩ hl.1 (Nat.le_of_ble_eq_true rfl) dX7_rowIsTrue_8 (fun r4 w5 H locs hH hv6 => ?_)
  refine lv_if_ne (tgt := 18) hx hb dX7_rowIsTrue_11 (by decide) (fun hc => ?_) (fun hc => ?_)
  · have hv7 := hv6.1 hc
    refine lv_iconst (v := 0) hx hb dX7_rowIsTrue_18 (by decide) ?_
    exact sj_retI hC hD.2 hH hr rfl hv7 ⟨(Nat.le_of_ble_eq_true rfl), (Nat.le_of_ble_eq_true rfl)⟩ dX7_rowIsTrue_19
  · have hv8 := hv6.2 hc
    refine lv_iconst (v := 1) hx hb dX7_rowIsTrue_14 (by decide) ?_
    refine lv_goto (tgt := 19) hx hb dX7_rowIsTrue_15 (by decide) ?_
    exact sj_retI hC hD.2 hH hr rfl hv8 ⟨(Nat.le_of_ble_eq_true rfl), (Nat.le_of_ble_eq_true rfl)⟩ dX7_rowIsTrue_19
section SJL_X7_rowIsTrue
variable {p : Program} {l : Launch} {e : Env} {R : Room} {s : State} {m : MethodId} {args : Array Value} {below : List Frame} {meth : Method} {c : Code} {H : Heap} {locs : List Loc} {cells slots : Nat} {Q : State → Prop} {cc : ByteArray} {pc : Nat} {ls : Array Slot} {rest : List Value} {G : sj_G} {nL : Nat} {w : sj_W}
theorem cg_L_263 {b : Nat} {b0 : Int32} {b1 : Int32} {b2 : Int32} {Qi : Int32 → sj_W → Prop} (hC : sj_C G p l s m args c cc RL nL) (hH : sj_H G s w H locs) (hv : vc_X7_rowIsTrue b b0 b1 b2 w Qi) (hT : sj_T w b = 6) (hR : rm_X7_rowIsTrue.frames + 1 ≤ R.frames ∧ 8 + (4 + 11) + rm_X7_rowIsTrue.locals ≤ R.locals) (hf : cells + 0 ≤ R.cells ∧ slots + 0 ≤ R.slots) (hls : ls.size = nL) (hW : (rest.map fun v => v.category).sum ≤ 8) (hdg : decode cc pc = .ok (.invokevirtual 263, 3)) (kk : ∀ (r : Int32) (w1 : sj_W) (H : Heap) (locs : List Loc), sj_H G s w1 H locs → Qi r w1 → W p l e R s m args below meth c H locs (cells + 0) (slots + 0) Q (F0 m (pc + 3) ls (.int r :: rest))) : W p l e R s m args below meth c H locs cells slots Q (F0 m pc ls (.int b2 :: .int b1 :: .int b0 :: .ref b :: rest)) :=
  sj_xI hH (sj_runV (n := 3) hC hH (As := [.int b0, .int b1, .int b2]) (wk_X7_rowIsTrue G l hC.2.2.2.2.2.2 b b0 b1 b2 w Qi (fun _ _ => False) hv) (ci := 5) rfl (by decide) hT mb_991 mb_992 mb_993 mb_5 mb_994 (by decide +kernel) hR hf rfl hls hW hdg) (fun _ _ _ _ _ _ _ h _ _ _ => h.elim) kk
end SJL_X7_rowIsTrue
abbrev rm_X7_set : Room := { frames := 2, cells := 0, slots := 0, locals := 47 }
def vc_X7_set (self : Nat) (a1 : Int32) (a2 : Int32) (a3 : Int32) (a4 : Int64) (w : sj_W) (Q : Int64 → sj_W → Prop) : Prop := vc_X7_isKind a1 w (fun r1 w2 => sj_jn2 (fun (E4 : Int32 → Nat → sj_W → Prop) => ((r1 = 0 → E4 1 self w2) ∧ (¬ r1 = 0 → vc_X7_kindOf a1 w2 (fun r12 w13 => vc_X7_isOf r12 a4 w13 (fun r15 w16 => ((¬ r15 = 0 → vc_X7_isRow a2 w16 (fun r19 w20 => ((r19 = 0 → E4 2 self w20) ∧ (¬ r19 = 0 → sj_T w20 self = 6 ∧ vc_X7_size self a1 a2 w20 (fun r24 w25 => vc_X7_in (a3.toInt64) 0 ((r24 - 1).toInt64) w25 (fun r27 w28 => ((¬ r27 = 0 → E4 0 self w28) ∧ (r27 = 0 → E4 2 self w28)))))))) ∧ (r15 = 0 → E4 1 self w16))))))) (fun (y0_54 : Int32) (y1_54 : Nat) (w_54 : sj_W) => sj_T w_54 y1_54 = 6 ∧ vc_X7_fails y1_54 y0_54 w_54 (fun r33 w34 => ((r33 = 0 → sj_T w34 self = 6 ∧ sj_A w34 40 self ≠ 0 ∧ sj_T w34 self = 6 ∧ vc_X7_at self a1 a2 a3 w34 (fun r37 w38 => sj_T w38 (sj_A w34 40 self) = 8 ∧ vp_in r37 (sj_N w38 (sj_A w34 40 self)) ∧ sj_T w38 self = 6 ∧ sj_A w38 40 self ≠ 0 ∧ sj_T w38 self = 6 ∧ vc_X7_at self a1 a2 a3 w38 (fun r40 w41 => sj_T w41 (sj_A w38 40 self) = 8 ∧ vp_in r40 (sj_N w41 (sj_A w38 40 self)) ∧ ∀ w43 : sj_W, w43 = sj_sl w41 (sj_A w38 40 self) r40.toNatClampNeg a4 → Q (sj_l w38 (sj_A w34 40 self) r37.toNatClampNeg) w43))) ∧ (¬ r33 = 0 → Q 0 w34)))))
set_option maxHeartbeats 4000000 in
set_option maxRecDepth 100000 in
theorem wk_X7_set (G : sj_G) (l : Launch) (hlt : l.stackTraces = false) (self : Nat) (a1 : Int32) (a2 : Int32) (a3 : Int32) (a4 : Int64) (w : sj_W) (Q : Int64 → sj_W → Prop) (QX : String → sj_W → Prop) (hv : vc_X7_set self a1 a2 a3 a4 w Q) : sj_ML G l yX7_set (sj_ws yX7_set cX7_set 8 (some .long)) rm_X7_set [.ref self, .int a1, .int a2, .int a3, .long a4] w Q QX := by
  refine sj_of (by decide +kernel) (Nat.le_of_ble_eq_true rfl) hlt ?_
  intro p e s m args below meth c ls hC hD hr hin hH hl
  have hx := hC.1
  have hb := hC.2.1
  have hl : lv_has ls 8 [(0, .ref self), (1, .int a1), (2, .int a2), (3, .int a3), (4, .long a4)] := hl
  refine lv_aload_n hx hb dX7_set_0 rfl (lv_at hl 0 rfl) ?_
  refine lv_iload_n hx hb dX7_set_1 rfl (lv_at hl 1 rfl) ?_
  refine cl_X7_57 hC hD hH hv ⟨Nat.le_of_ble_eq_true rfl, Nat.le_of_ble_eq_true rfl⟩ ⟨(Nat.le_of_ble_eq_true rfl), (Nat.le_of_ble_eq_true rfl)⟩ ⟨(Nat.le_of_ble_eq_true rfl), (Nat.le_of_ble_eq_true rfl)⟩ hl.1 (Nat.le_of_ble_eq_true rfl) dX7_set_2 (fun r1 w2 H locs hH hv3 => ?_)
  obtain ⟨E4, hE5, hv8⟩ := sj_jn2_e hv3
  have hJ6 : ∀ (y0_54 : Int32) (y1_54 : Nat) (w_54 : sj_W) (H : Heap) (locs : List Loc) (ls : Array Slot), lv_has ls 8 [(0, .ref self), (1, .int a1), (2, .int a2), (3, .int a3), (4, .long a4)] → sj_H G s w_54 H locs → E4 y0_54 y1_54 w_54 → W p l e rm_X7_set s m args below meth c H locs 0 0 (sj_MQ G below (va_Ql Q (sj_B G) (sj_F G)) QX args s rm_X7_set) (F0 m 54 ls [.int y0_54, .ref y1_54]) := by
    intro y0_54 y1_54 w_54 H locs ls hl hH hv9
    rw [hE5] at hv9
    refine cl_X7_73 hC hD hH hv9.2 hv9.1 ⟨Nat.le_of_ble_eq_true rfl, Nat.le_of_ble_eq_true rfl⟩ ⟨(Nat.le_of_ble_eq_true rfl), (Nat.le_of_ble_eq_true rfl)⟩ ⟨(Nat.le_of_ble_eq_true rfl), (Nat.le_of_ble_eq_true rfl)⟩ hl.1 (Nat.le_of_ble_eq_true rfl) dX7_set_54 (fun r33 w34 H locs hH hv35 => ?_)
    refine lv_if_eq (tgt := 62) hx hb dX7_set_57 (by decide) (fun hc => ?_) (fun hc => ?_)
    · have hv36 := hv35.1 hc
      refine lv_aload_n hx hb dX7_set_62 rfl (lv_at hl 0 rfl) ?_
      refine gf_X7_7 hC hH hv36.1 hv36.2.1 dX7_set_63 ?_
      refine lv_aload_n hx hb dX7_set_66 rfl (lv_at hl 0 rfl) ?_
      refine lv_iload_n hx hb dX7_set_67 rfl (lv_at hl 1 rfl) ?_
      refine lv_iload_n hx hb dX7_set_68 rfl (lv_at hl 2 rfl) ?_
      refine lv_iload_n hx hb dX7_set_69 rfl (lv_at hl 3 rfl) ?_
      refine cl_X7_76 hC hD hH hv36.2.2.2 hv36.2.2.1 ⟨Nat.le_of_ble_eq_true rfl, Nat.le_of_ble_eq_true rfl⟩ ⟨(Nat.le_of_ble_eq_true rfl), (Nat.le_of_ble_eq_true rfl)⟩ ⟨(Nat.le_of_ble_eq_true rfl), (Nat.le_of_ble_eq_true rfl)⟩ hl.1 (Nat.le_of_ble_eq_true rfl) dX7_set_70 (fun r37 w38 H locs hH hv39 => ?_)
      refine sj_lald hC hH hv39.1 hv39.2.1 dX7_set_73 ?_
      refine lv_lstore (lv' := [(6, .long (sj_l w38 (sj_A w34 40 self) r37.toNatClampNeg)), (0, .ref self), (1, .int a1), (2, .int a2), (3, .int a3), (4, .long a4)]) hx hb dX7_set_74 hl (by decide) rfl (fun ls hl => ?_)
      refine lv_aload_n hx hb dX7_set_76 rfl (lv_at hl 1 rfl) ?_
      refine gf_X7_7 hC hH hv39.2.2.1 hv39.2.2.2.1 dX7_set_77 ?_
      refine lv_aload_n hx hb dX7_set_80 rfl (lv_at hl 1 rfl) ?_
      refine lv_iload_n hx hb dX7_set_81 rfl (lv_at hl 2 rfl) ?_
      refine lv_iload_n hx hb dX7_set_82 rfl (lv_at hl 3 rfl) ?_
      refine lv_iload_n hx hb dX7_set_83 rfl (lv_at hl 4 rfl) ?_
      refine cl_X7_76 hC hD hH hv39.2.2.2.2.2 hv39.2.2.2.2.1 ⟨Nat.le_of_ble_eq_true rfl, Nat.le_of_ble_eq_true rfl⟩ ⟨(Nat.le_of_ble_eq_true rfl), (Nat.le_of_ble_eq_true rfl)⟩ ⟨(Nat.le_of_ble_eq_true rfl), (Nat.le_of_ble_eq_true rfl)⟩ hl.1 (Nat.le_of_ble_eq_true rfl) dX7_set_84 (fun r40 w41 H locs hH hv42 => ?_)
      refine lv_lload hx hb dX7_set_87 (lv_at hl 5 rfl) ?_
      refine sj_last hC hH hv42.1 hv42.2.1 dX7_set_89 (fun w43 H locs e44 hH => ?_)
      refine lv_lload hx hb dX7_set_90 (lv_at hl 0 rfl) ?_
      exact sj_retL hC hD.2 hH hr (hv42.2.2 w43 e44) ⟨(Nat.le_of_ble_eq_true rfl), (Nat.le_of_ble_eq_true rfl)⟩ dX7_set_92
    · have hv45 := hv35.2 hc
      refine lv_lconst (v := 0) hx hb dX7_set_60 (by decide) ?_
      exact sj_retL hC hD.2 hH hr hv45 ⟨(Nat.le_of_ble_eq_true rfl), (Nat.le_of_ble_eq_true rfl)⟩ dX7_set_61
  clear hE5
  refine lv_if_eq (tgt := 20) hx hb dX7_set_5 (by decide) (fun hc => ?_) (fun hc => ?_)
  · have hv10 := hv8.1 hc
    refine lv_iconst (v := 1) hx hb dX7_set_20 (by decide) ?_
    refine lv_goto (tgt := 54) hx hb dX7_set_21 (by decide) ?_
    exact hJ6 1 self w2 _ _ _ (lv_sub hl [0, 1, 2, 3, 4] rfl) hH hv10
  · have hv11 := hv8.2 hc
    refine lv_iload_n hx hb dX7_set_8 rfl (lv_at hl 1 rfl) ?_
    refine cl_X7_33 hC hD hH hv11 ⟨Nat.le_of_ble_eq_true rfl, Nat.le_of_ble_eq_true rfl⟩ ⟨(Nat.le_of_ble_eq_true rfl), (Nat.le_of_ble_eq_true rfl)⟩ ⟨(Nat.le_of_ble_eq_true rfl), (Nat.le_of_ble_eq_true rfl)⟩ hl.1 (Nat.le_of_ble_eq_true rfl) dX7_set_9 (fun r12 w13 H locs hH hv14 => ?_)
    refine lv_lload hx hb dX7_set_12 (lv_at hl 4 rfl) ?_
    refine cl_X7_65 hC hD hH hv14 ⟨Nat.le_of_ble_eq_true rfl, Nat.le_of_ble_eq_true rfl⟩ ⟨(Nat.le_of_ble_eq_true rfl), (Nat.le_of_ble_eq_true rfl)⟩ ⟨(Nat.le_of_ble_eq_true rfl), (Nat.le_of_ble_eq_true rfl)⟩ hl.1 (Nat.le_of_ble_eq_true rfl) dX7_set_14 (fun r15 w16 H locs hH hv17 => ?_)
    refine lv_if_ne (tgt := 24) hx hb dX7_set_17 (by decide) (fun hc => ?_) (fun hc => ?_)
    · have hv18 := hv17.1 hc
      refine lv_iload_n hx hb dX7_set_24 rfl (lv_at hl 2 rfl) ?_
      refine cl_X7_61 hC hD hH hv18 ⟨Nat.le_of_ble_eq_true rfl, Nat.le_of_ble_eq_true rfl⟩ ⟨(Nat.le_of_ble_eq_true rfl), (Nat.le_of_ble_eq_true rfl)⟩ ⟨(Nat.le_of_ble_eq_true rfl), (Nat.le_of_ble_eq_true rfl)⟩ hl.1 (Nat.le_of_ble_eq_true rfl) dX7_set_25 (fun r19 w20 H locs hH hv21 => ?_)
      refine lv_if_eq (tgt := 49) hx hb dX7_set_28 (by decide) (fun hc => ?_) (fun hc => ?_)
      · have hv22 := hv21.1 hc
        refine lv_iconst (v := 2) hx hb dX7_set_49 (by decide) ?_
        refine lv_goto (tgt := 54) hx hb dX7_set_50 (by decide) ?_
        exact hJ6 2 self w20 _ _ _ (lv_sub hl [0, 1, 2, 3, 4] rfl) hH hv22
      · have hv23 := hv21.2 hc
        refine lv_iload_n hx hb dX7_set_31 rfl (lv_at hl 3 rfl) ?_
        refine lv_i2l hx hb dX7_set_32 rfl ?_
        refine lv_lconst (v := 0) hx hb dX7_set_33 (by decide) ?_
        refine lv_aload_n hx hb dX7_set_34 rfl (lv_at hl 0 rfl) ?_
        refine lv_iload_n hx hb dX7_set_35 rfl (lv_at hl 1 rfl) ?_
        refine lv_iload_n hx hb dX7_set_36 rfl (lv_at hl 2 rfl) ?_
        refine cl_X7_69 hC hD hH hv23.2 hv23.1 ⟨Nat.le_of_ble_eq_true rfl, Nat.le_of_ble_eq_true rfl⟩ ⟨(Nat.le_of_ble_eq_true rfl), (Nat.le_of_ble_eq_true rfl)⟩ ⟨(Nat.le_of_ble_eq_true rfl), (Nat.le_of_ble_eq_true rfl)⟩ hl.1 (Nat.le_of_ble_eq_true rfl) dX7_set_37 (fun r24 w25 H locs hH hv26 => ?_)
        refine lv_iconst (v := 1) hx hb dX7_set_40 (by decide) ?_
        refine lv_isub hx hb dX7_set_41 ?_
        refine lv_i2l hx hb dX7_set_42 rfl ?_
        refine cl_X7_39 hC hD hH hv26 ⟨Nat.le_of_ble_eq_true rfl, Nat.le_of_ble_eq_true rfl⟩ ⟨(Nat.le_of_ble_eq_true rfl), (Nat.le_of_ble_eq_true rfl)⟩ ⟨(Nat.le_of_ble_eq_true rfl), (Nat.le_of_ble_eq_true rfl)⟩ hl.1 (Nat.le_of_ble_eq_true rfl) dX7_set_43 (fun r27 w28 H locs hH hv29 => ?_)
        refine lv_if_ne (tgt := 53) hx hb dX7_set_46 (by decide) (fun hc => ?_) (fun hc => ?_)
        · have hv30 := hv29.1 hc
          refine lv_iconst (v := 0) hx hb dX7_set_53 (by decide) ?_
          exact hJ6 0 self w28 _ _ _ (lv_sub hl [0, 1, 2, 3, 4] rfl) hH hv30
        · have hv31 := hv29.2 hc
          refine lv_iconst (v := 2) hx hb dX7_set_49 (by decide) ?_
          refine lv_goto (tgt := 54) hx hb dX7_set_50 (by decide) ?_
          exact hJ6 2 self w28 _ _ _ (lv_sub hl [0, 1, 2, 3, 4] rfl) hH hv31
    · have hv32 := hv17.2 hc
      refine lv_iconst (v := 1) hx hb dX7_set_20 (by decide) ?_
      refine lv_goto (tgt := 54) hx hb dX7_set_21 (by decide) ?_
      exact hJ6 1 self w16 _ _ _ (lv_sub hl [0, 1, 2, 3, 4] rfl) hH hv32
section SJL_X7_set
variable {p : Program} {l : Launch} {e : Env} {R : Room} {s : State} {m : MethodId} {args : Array Value} {below : List Frame} {meth : Method} {c : Code} {H : Heap} {locs : List Loc} {cells slots : Nat} {Q : State → Prop} {cc : ByteArray} {pc : Nat} {ls : Array Slot} {rest : List Value} {G : sj_G} {nL : Nat} {w : sj_W}
theorem cg_L_153 {b : Nat} {b0 : Int32} {b1 : Int32} {b2 : Int32} {b3 : Int64} {Qi : Int64 → sj_W → Prop} (hC : sj_C G p l s m args c cc RL nL) (hH : sj_H G s w H locs) (hv : vc_X7_set b b0 b1 b2 b3 w Qi) (hT : sj_T w b = 6) (hR : rm_X7_set.frames + 1 ≤ R.frames ∧ 8 + (8 + 11) + rm_X7_set.locals ≤ R.locals) (hf : cells + 0 ≤ R.cells ∧ slots + 0 ≤ R.slots) (hls : ls.size = nL) (hW : (rest.map fun v => v.category).sum ≤ 8) (hdg : decode cc pc = .ok (.invokevirtual 153, 3)) (kk : ∀ (r : Int64) (w1 : sj_W) (H : Heap) (locs : List Loc), sj_H G s w1 H locs → Qi r w1 → W p l e R s m args below meth c H locs (cells + 0) (slots + 0) Q (F0 m (pc + 3) ls (.long r :: rest))) : W p l e R s m args below meth c H locs cells slots Q (F0 m pc ls (.long b3 :: .int b2 :: .int b1 :: .int b0 :: .ref b :: rest)) :=
  sj_xL hH (sj_runV (n := 4) hC hH (As := [.int b0, .int b1, .int b2, .long b3]) (wk_X7_set G l hC.2.2.2.2.2.2 b b0 b1 b2 b3 w Qi (fun _ _ => False) hv) (ci := 5) rfl (by decide) hT mb_781 mb_782 mb_783 mb_5 mb_784 (by decide +kernel) hR hf rfl hls hW hdg) (fun _ _ _ _ _ _ _ h _ _ _ => h.elim) kk
end SJL_X7_set
abbrev rm_X7_share : Room := { frames := 5, cells := 0, slots := 0, locals := 124 }
def vb_X7_share_40 (f0 : Nat) (f1 : Int32) (f2 : Int32) (f4 : Int32) (Q : UInt32 → sj_W → Prop) (E : Int32 → sj_W → Prop) (K : Int32 → Int32 → sj_W → Prop) (v3 : Int32) (v5 : Int32) (w : sj_W) : Prop := ((f4 ≤ v5 → E v3 w) ∧ (¬ f4 ≤ v5 → sj_T w f0 = 6 ∧ vc_X7_isFit f0 f1 v5 w (fun r14 w15 => ((r14 = 0 → K (v3 + 0) (v5 + 1) w15) ∧ (¬ r14 = 0 → sj_T w15 f0 = 6 ∧ vc_X7_spans f0 f1 115 v5 f4 w15 (fun r19 w20 => ((¬ r19 = 0 → K (v3 + 0) (v5 + 1) w20) ∧ (r19 = 0 → K (v3 + 1) (v5 + 1) w20))))))))
def vb_X7_share_7 (f0 : Nat) (f1 : Int32) (Q : UInt32 → sj_W → Prop) (E : Int32 → Int32 → sj_W → Prop) (K : Int32 → Int32 → Int32 → sj_W → Prop) (v2 : Int32) (v3 : Int32) (v4 : Int32) (w : sj_W) : Prop := ((12 ≤ v4 → E v2 v3 w) ∧ (¬ 12 ≤ v4 → vc_X7_isKind f1 w (fun r3 w4 => ((r3 = 0 → E v2 v3 w4) ∧ (¬ r3 = 0 → sj_T w4 f0 = 6 ∧ vc_X7_isFit f0 f1 v4 w4 (fun r8 w9 => ((¬ r8 = 0 → sj_lp2 (vb_X7_share_40 f0 f1 (v2 + 1) v4 Q (fun z3_40 w_40 => K (v2 + 1) z3_40 (v4 + 1) w_40)) 64 v3 0 w9) ∧ (r8 = 0 → K v2 v3 (v4 + 1) w9))))))))
def vc_X7_share (self : Nat) (a1 : Int32) (w : sj_W) (Q : UInt32 → sj_W → Prop) : Prop := sj_lp3 (vb_X7_share_7 self a1 Q (fun z2_7 z3_7 w_7 => vc_X7_isKind a1 w_7 (fun r27 w28 => sj_jn2 (fun (E30 : Int32 → Nat → sj_W → Prop) => ((¬ r27 = 0 → ((2 ≤ z2_7 → E30 0 self w28) ∧ (¬ 2 ≤ z2_7 → E30 2 self w28))) ∧ (r27 = 0 → E30 1 self w28))) (fun (y0_113 : Int32) (y1_113 : Nat) (w_113 : sj_W) => sj_T w_113 y1_113 = 6 ∧ vc_X7_fails y1_113 y0_113 w_113 (fun r40 w41 => ((r40 = 0 → vf_n32 (FP.fdiv (FP.i2f z3_7) (FP.i2f ((z2_7 * (z2_7 - 1)) / 2))) ∧ Q (FP.fdiv (FP.i2f z3_7) (FP.i2f ((z2_7 * (z2_7 - 1)) / 2))) w41) ∧ (¬ r40 = 0 → Q (FP.fconst0) w41))))))) 64 0 0 0 w
set_option maxHeartbeats 4000000 in
set_option maxRecDepth 100000 in
theorem wl_X7_share_40 {p : Program} {l : Launch} {e : Env} {s : State} {m : MethodId} {args : Array Value} {below : List Frame} {meth : Method} {c : Code} {G : sj_G} {f0 : Nat} {f1 : Int32} {f2 : Int32} {f4 : Int32} {Q : UInt32 → sj_W → Prop} {QX : String → sj_W → Prop} {E : Int32 → sj_W → Prop} (hC : sj_C G p l s m args c cX7_share RX7 6) (hD : sj_D meth c) (hr : meth.sig.returnType = (some .float)) (hin : meth.name = "share") (hE : ∀ (v3 : Int32) (w : sj_W) (H : Heap) (locs : List Loc) (ls : Array Slot), lv_has ls 6 [(0, .ref f0), (1, .int f1), (2, .int f2), (3, .int v3), (4, .int f4)] → sj_H G s w H locs → E v3 w → W p l e rm_X7_share s m args below meth c H locs 0 0 (sj_MQ G below (va_Qf Q (sj_B G) (sj_F G)) QX args s rm_X7_share) (F0 m 85 ls [])) : ∀ (n : Nat) (v3 : Int32) (v5 : Int32) (w : sj_W) (H : Heap) (locs : List Loc) (ls : Array Slot), lv_has ls 6 [(0, .ref f0), (1, .int f1), (2, .int f2), (3, .int v3), (4, .int f4), (5, .int v5)] → sj_H G s w H locs → sj_lp2 (vb_X7_share_40 f0 f1 f2 f4 Q E) n v3 v5 w → W p l e rm_X7_share s m args below meth c H locs 0 0 (sj_MQ G below (va_Qf Q (sj_B G) (sj_F G)) QX args s rm_X7_share) (F0 m 40 ls []) := by
  have hx := hC.1
  have hb := hC.2.1
  intro n
  induction n with
  | zero =>
    intro v3 v5 w H locs ls _ _ hv
    exact hv.elim
  | succ n ih =>
    intro v3 v5 w H locs ls hl hH hv
    have hv : vb_X7_share_40 f0 f1 f2 f4 Q E (sj_lp2 (vb_X7_share_40 f0 f1 f2 f4 Q E) n) v3 v5 w := hv
    have hc1 : rm_X7_share.cells = 0 := rfl
    have hc2 : rm_X7_share.slots = 0 := rfl
    refine lv_iload hx hb dX7_share_40 (lv_at hl 5 rfl) ?_
    refine lv_iload hx hb dX7_share_42 (lv_at hl 4 rfl) ?_
    refine lv_icmp_ge (tgt := 85) hx hb dX7_share_44 (by decide) (fun hc => ?_) (fun hc => ?_)
    · have hv12 := hv.1 hc
      exact hE v3 w _ _ _ (lv_sub hl [0, 1, 2, 3, 4] rfl) hH hv12
    · have hv13 := hv.2 hc
      refine lv_iload_n hx hb dX7_share_47 rfl (lv_at hl 3 rfl) ?_
      refine lv_aload_n hx hb dX7_share_48 rfl (lv_at hl 0 rfl) ?_
      refine lv_iload_n hx hb dX7_share_49 rfl (lv_at hl 1 rfl) ?_
      refine lv_iload hx hb dX7_share_50 (lv_at hl 5 rfl) ?_
      refine cl_X7_110 hC hD hH hv13.2 hv13.1 ⟨Nat.le_of_ble_eq_true rfl, Nat.le_of_ble_eq_true rfl⟩ ⟨(Nat.le_of_ble_eq_true rfl), (Nat.le_of_ble_eq_true rfl)⟩ ⟨(Nat.le_of_ble_eq_true rfl), (Nat.le_of_ble_eq_true rfl)⟩ hl.1 (Nat.le_of_ble_eq_true rfl) dX7_share_52 (fun r14 w15 H locs hH hv16 => ?_)
      refine lv_if_eq (tgt := 76) hx hb dX7_share_55 (by decide) (fun hc => ?_) (fun hc => ?_)
      · have hv17 := hv16.1 hc
        refine lv_iconst (v := 0) hx hb dX7_share_76 (by decide) ?_
        refine lv_iadd hx hb dX7_share_77 ?_
        refine lv_istore_n (lv' := [(3, .int (v3 + 0)), (0, .ref f0), (1, .int f1), (2, .int f2), (4, .int f4), (5, .int v5)]) hx hb dX7_share_78 rfl hl (by decide) rfl (fun ls hl => ?_)
        refine lv_iinc (v := (v5 + 1)) (lv' := [(5, .int (v5 + 1)), (3, .int (v3 + 0)), (0, .ref f0), (1, .int f1), (2, .int f2), (4, .int f4)]) hx hb dX7_share_79 hl (k := 5) rfl rfl (by decide) rfl (fun ls hl => ?_)
        refine lv_goto (tgt := 40) hx hb dX7_share_82 (by decide) ?_
        exact ih (v3 + 0) (v5 + 1) w15 _ _ _ (lv_sub hl [2, 3, 4, 1, 5, 0] rfl) hH hv17
      · have hv18 := hv16.2 hc
        refine lv_aload_n hx hb dX7_share_58 rfl (lv_at hl 0 rfl) ?_
        refine lv_iload_n hx hb dX7_share_59 rfl (lv_at hl 1 rfl) ?_
        refine lv_bipush (v := 115) hx hb dX7_share_60 (by decide) ?_
        refine lv_iload hx hb dX7_share_62 (lv_at hl 5 rfl) ?_
        refine lv_iload hx hb dX7_share_64 (lv_at hl 4 rfl) ?_
        refine cl_X7_143 hC hD hH hv18.2 hv18.1 ⟨Nat.le_of_ble_eq_true rfl, Nat.le_of_ble_eq_true rfl⟩ ⟨(Nat.le_of_ble_eq_true rfl), (Nat.le_of_ble_eq_true rfl)⟩ ⟨(Nat.le_of_ble_eq_true rfl), (Nat.le_of_ble_eq_true rfl)⟩ hl.1 (Nat.le_of_ble_eq_true rfl) dX7_share_66 (fun r19 w20 H locs hH hv21 => ?_)
        refine lv_if_ne (tgt := 76) hx hb dX7_share_69 (by decide) (fun hc => ?_) (fun hc => ?_)
        · have hv22 := hv21.1 hc
          refine lv_iconst (v := 0) hx hb dX7_share_76 (by decide) ?_
          refine lv_iadd hx hb dX7_share_77 ?_
          refine lv_istore_n (lv' := [(3, .int (v3 + 0)), (0, .ref f0), (1, .int f1), (2, .int f2), (4, .int f4), (5, .int v5)]) hx hb dX7_share_78 rfl hl (by decide) rfl (fun ls hl => ?_)
          refine lv_iinc (v := (v5 + 1)) (lv' := [(5, .int (v5 + 1)), (3, .int (v3 + 0)), (0, .ref f0), (1, .int f1), (2, .int f2), (4, .int f4)]) hx hb dX7_share_79 hl (k := 5) rfl rfl (by decide) rfl (fun ls hl => ?_)
          refine lv_goto (tgt := 40) hx hb dX7_share_82 (by decide) ?_
          exact ih (v3 + 0) (v5 + 1) w20 _ _ _ (lv_sub hl [2, 3, 4, 1, 5, 0] rfl) hH hv22
        · have hv23 := hv21.2 hc
          refine lv_iconst (v := 1) hx hb dX7_share_72 (by decide) ?_
          refine lv_goto (tgt := 77) hx hb dX7_share_73 (by decide) ?_
          refine lv_iadd hx hb dX7_share_77 ?_
          refine lv_istore_n (lv' := [(3, .int (v3 + 1)), (0, .ref f0), (1, .int f1), (2, .int f2), (4, .int f4), (5, .int v5)]) hx hb dX7_share_78 rfl hl (by decide) rfl (fun ls hl => ?_)
          refine lv_iinc (v := (v5 + 1)) (lv' := [(5, .int (v5 + 1)), (3, .int (v3 + 1)), (0, .ref f0), (1, .int f1), (2, .int f2), (4, .int f4)]) hx hb dX7_share_79 hl (k := 5) rfl rfl (by decide) rfl (fun ls hl => ?_)
          refine lv_goto (tgt := 40) hx hb dX7_share_82 (by decide) ?_
          exact ih (v3 + 1) (v5 + 1) w20 _ _ _ (lv_sub hl [2, 3, 4, 1, 5, 0] rfl) hH hv23
set_option maxHeartbeats 4000000 in
set_option maxRecDepth 100000 in
theorem wl_X7_share_7 {p : Program} {l : Launch} {e : Env} {s : State} {m : MethodId} {args : Array Value} {below : List Frame} {meth : Method} {c : Code} {G : sj_G} {f0 : Nat} {f1 : Int32} {Q : UInt32 → sj_W → Prop} {QX : String → sj_W → Prop} {E : Int32 → Int32 → sj_W → Prop} (hC : sj_C G p l s m args c cX7_share RX7 6) (hD : sj_D meth c) (hr : meth.sig.returnType = (some .float)) (hin : meth.name = "share") (hE : ∀ (v2 : Int32) (v3 : Int32) (w : sj_W) (H : Heap) (locs : List Loc) (ls : Array Slot), lv_has ls 6 [(0, .ref f0), (1, .int f1), (2, .int v2), (3, .int v3)] → sj_H G s w H locs → E v2 v3 w → W p l e rm_X7_share s m args below meth c H locs 0 0 (sj_MQ G below (va_Qf Q (sj_B G) (sj_F G)) QX args s rm_X7_share) (F0 m 91 ls [])) : ∀ (n : Nat) (v2 : Int32) (v3 : Int32) (v4 : Int32) (w : sj_W) (H : Heap) (locs : List Loc) (ls : Array Slot), lv_has ls 6 [(0, .ref f0), (1, .int f1), (2, .int v2), (3, .int v3), (4, .int v4)] → sj_H G s w H locs → sj_lp3 (vb_X7_share_7 f0 f1 Q E) n v2 v3 v4 w → W p l e rm_X7_share s m args below meth c H locs 0 0 (sj_MQ G below (va_Qf Q (sj_B G) (sj_F G)) QX args s rm_X7_share) (F0 m 7 ls []) := by
  have hx := hC.1
  have hb := hC.2.1
  intro n
  induction n with
  | zero =>
    intro v2 v3 v4 w H locs ls _ _ hv
    exact hv.elim
  | succ n ih =>
    intro v2 v3 v4 w H locs ls hl hH hv
    have hv : vb_X7_share_7 f0 f1 Q E (sj_lp3 (vb_X7_share_7 f0 f1 Q E) n) v2 v3 v4 w := hv
    have hc1 : rm_X7_share.cells = 0 := rfl
    have hc2 : rm_X7_share.slots = 0 := rfl
    refine lv_iload hx hb dX7_share_7 (lv_at hl 4 rfl) ?_
    refine lv_bipush (v := 12) hx hb dX7_share_9 (by decide) ?_
    refine lv_icmp_ge (tgt := 91) hx hb dX7_share_11 (by decide) (fun hc => ?_) (fun hc => ?_)
    · have hv1 := hv.1 hc
      exact hE v2 v3 w _ _ _ (lv_sub hl [0, 1, 2, 3] rfl) hH hv1
    · have hv2 := hv.2 hc
      refine lv_iload_n hx hb dX7_share_14 rfl (lv_at hl 1 rfl) ?_
      refine cl_X7_57 hC hD hH hv2 ⟨Nat.le_of_ble_eq_true rfl, Nat.le_of_ble_eq_true rfl⟩ ⟨(Nat.le_of_ble_eq_true rfl), (Nat.le_of_ble_eq_true rfl)⟩ ⟨(Nat.le_of_ble_eq_true rfl), (Nat.le_of_ble_eq_true rfl)⟩ hl.1 (Nat.le_of_ble_eq_true rfl) dX7_share_15 (fun r3 w4 H locs hH hv5 => ?_)
      refine lv_if_eq (tgt := 91) hx hb dX7_share_18 (by decide) (fun hc => ?_) (fun hc => ?_)
      · have hv6 := hv5.1 hc
        exact hE v2 v3 w4 _ _ _ (lv_sub hl [0, 1, 2, 3] rfl) hH hv6
      · have hv7 := hv5.2 hc
        refine lv_aload_n hx hb dX7_share_21 rfl (lv_at hl 0 rfl) ?_
        refine lv_iload_n hx hb dX7_share_22 rfl (lv_at hl 1 rfl) ?_
        refine lv_iload hx hb dX7_share_23 (lv_at hl 4 rfl) ?_
        refine cl_X7_110 hC hD hH hv7.2 hv7.1 ⟨Nat.le_of_ble_eq_true rfl, Nat.le_of_ble_eq_true rfl⟩ ⟨(Nat.le_of_ble_eq_true rfl), (Nat.le_of_ble_eq_true rfl)⟩ ⟨(Nat.le_of_ble_eq_true rfl), (Nat.le_of_ble_eq_true rfl)⟩ hl.1 (Nat.le_of_ble_eq_true rfl) dX7_share_25 (fun r8 w9 H locs hH hv10 => ?_)
        refine lv_if_ne (tgt := 34) hx hb dX7_share_28 (by decide) (fun hc => ?_) (fun hc => ?_)
        · have hv11 := hv10.1 hc
          refine lv_iinc (v := (v2 + 1)) (lv' := [(2, .int (v2 + 1)), (0, .ref f0), (1, .int f1), (3, .int v3), (4, .int v4)]) hx hb dX7_share_34 hl (k := 2) rfl rfl (by decide) rfl (fun ls hl => ?_)
          refine lv_iconst (v := 0) hx hb dX7_share_37 (by decide) ?_
          refine lv_istore (lv' := [(5, .int 0), (2, .int (v2 + 1)), (0, .ref f0), (1, .int f1), (3, .int v3), (4, .int v4)]) hx hb dX7_share_38 hl (by decide) rfl (fun ls hl => ?_)
          refine wl_X7_share_40 hC hD hr hin (fun z3_40 w_40 H locs ls hl hH hv24 => ?_) 64 v3 0 w9 _ _ _ (lv_sub hl [2, 3, 1, 4, 5, 0] rfl) hH hv11
          refine lv_iinc (v := (v4 + 1)) (lv' := [(4, .int (v4 + 1)), (0, .ref f0), (1, .int f1), (2, .int (v2 + 1)), (3, .int z3_40)]) hx hb dX7_share_85 hl (k := 4) rfl rfl (by decide) rfl (fun ls hl => ?_)
          refine lv_goto (tgt := 7) hx hb dX7_share_88 (by decide) ?_
          exact ih (v2 + 1) z3_40 (v4 + 1) w_40 _ _ _ (lv_sub hl [1, 2, 3, 4, 0] rfl) hH hv24
        · have hv25 := hv10.2 hc
          refine lv_goto (tgt := 85) hx hb dX7_share_31 (by decide) ?_
          refine lv_iinc (v := (v4 + 1)) (lv' := [(4, .int (v4 + 1)), (0, .ref f0), (1, .int f1), (2, .int v2), (3, .int v3)]) hx hb dX7_share_85 hl (k := 4) rfl rfl (by decide) rfl (fun ls hl => ?_)
          refine lv_goto (tgt := 7) hx hb dX7_share_88 (by decide) ?_
          exact ih v2 v3 (v4 + 1) w9 _ _ _ (lv_sub hl [1, 2, 3, 4, 0] rfl) hH hv25
set_option maxHeartbeats 4000000 in
set_option maxRecDepth 100000 in
theorem wk_X7_share (G : sj_G) (l : Launch) (hlt : l.stackTraces = false) (self : Nat) (a1 : Int32) (w : sj_W) (Q : UInt32 → sj_W → Prop) (QX : String → sj_W → Prop) (hv : vc_X7_share self a1 w Q) : sj_MF G l yX7_share (sj_ws yX7_share cX7_share 6 (some .float)) rm_X7_share [.ref self, .int a1] w Q QX := by
  refine sj_of (by decide +kernel) (Nat.le_of_ble_eq_true rfl) hlt ?_
  intro p e s m args below meth c ls hC hD hr hin hH hl
  have hx := hC.1
  have hb := hC.2.1
  have hl : lv_has ls 6 [(0, .ref self), (1, .int a1)] := hl
  refine lv_iconst (v := 0) hx hb dX7_share_0 (by decide) ?_
  refine lv_istore_n (lv' := [(2, .int 0), (0, .ref self), (1, .int a1)]) hx hb dX7_share_1 rfl hl (by decide) rfl (fun ls hl => ?_)
  refine lv_iconst (v := 0) hx hb dX7_share_2 (by decide) ?_
  refine lv_istore_n (lv' := [(3, .int 0), (2, .int 0), (0, .ref self), (1, .int a1)]) hx hb dX7_share_3 rfl hl (by decide) rfl (fun ls hl => ?_)
  refine lv_iconst (v := 0) hx hb dX7_share_4 (by decide) ?_
  refine lv_istore (lv' := [(4, .int 0), (3, .int 0), (2, .int 0), (0, .ref self), (1, .int a1)]) hx hb dX7_share_5 hl (by decide) rfl (fun ls hl => ?_)
  refine wl_X7_share_7 hC hD hr hin (fun z2_7 z3_7 w_7 H locs ls hl hH hv26 => ?_) 64 0 0 0 w _ _ _ (lv_sub hl [3, 4, 2, 1, 0] rfl) hH hv
  refine lv_aload_n hx hb dX7_share_91 rfl (lv_at hl 0 rfl) ?_
  refine lv_iload_n hx hb dX7_share_92 rfl (lv_at hl 1 rfl) ?_
  refine cl_X7_57 hC hD hH hv26 ⟨Nat.le_of_ble_eq_true rfl, Nat.le_of_ble_eq_true rfl⟩ ⟨(Nat.le_of_ble_eq_true rfl), (Nat.le_of_ble_eq_true rfl)⟩ ⟨(Nat.le_of_ble_eq_true rfl), (Nat.le_of_ble_eq_true rfl)⟩ hl.1 (Nat.le_of_ble_eq_true rfl) dX7_share_93 (fun r27 w28 H locs hH hv29 => ?_)
  obtain ⟨E30, hE31, hv34⟩ := sj_jn2_e hv29
  have hJ32 : ∀ (y0_113 : Int32) (y1_113 : Nat) (w_113 : sj_W) (H : Heap) (locs : List Loc) (ls : Array Slot), lv_has ls 6 [(2, .int z2_7), (3, .int z3_7)] → sj_H G s w_113 H locs → E30 y0_113 y1_113 w_113 → W p l e rm_X7_share s m args below meth c H locs 0 0 (sj_MQ G below (va_Qf Q (sj_B G) (sj_F G)) QX args s rm_X7_share) (F0 m 113 ls [.int y0_113, .ref y1_113]) := by
    intro y0_113 y1_113 w_113 H locs ls hl hH hv35
    rw [hE31] at hv35
    refine cl_X7_73 hC hD hH hv35.2 hv35.1 ⟨Nat.le_of_ble_eq_true rfl, Nat.le_of_ble_eq_true rfl⟩ ⟨(Nat.le_of_ble_eq_true rfl), (Nat.le_of_ble_eq_true rfl)⟩ ⟨(Nat.le_of_ble_eq_true rfl), (Nat.le_of_ble_eq_true rfl)⟩ hl.1 (Nat.le_of_ble_eq_true rfl) dX7_share_113 (fun r40 w41 H locs hH hv42 => ?_)
    refine lv_if_eq (tgt := 121) hx hb dX7_share_116 (by decide) (fun hc => ?_) (fun hc => ?_)
    · have hv43 := hv42.1 hc
      refine lv_iload_n hx hb dX7_share_121 rfl (lv_at hl 1 rfl) ?_
      refine lv_i2f hx hb dX7_share_122 ?_
      refine lv_iload_n hx hb dX7_share_123 rfl (lv_at hl 0 rfl) ?_
      refine lv_iload_n hx hb dX7_share_124 rfl (lv_at hl 0 rfl) ?_
      refine lv_iconst (v := 1) hx hb dX7_share_125 (by decide) ?_
      refine lv_isub hx hb dX7_share_126 ?_
      refine lv_imul hx hb dX7_share_127 ?_
      refine lv_iconst (v := 2) hx hb dX7_share_128 (by decide) ?_
      refine lv_idiv hx hb dX7_share_129 (by decide) ?_
      refine lv_i2f hx hb dX7_share_130 ?_
      refine lv_fdiv hx hb dX7_share_131 hv43.1 ?_
      exact sj_retF hC hD.2 hH hr hv43.2 ⟨(Nat.le_of_ble_eq_true rfl), (Nat.le_of_ble_eq_true rfl)⟩ dX7_share_132
    · have hv44 := hv42.2 hc
      refine lv_fconst0 hx hb dX7_share_119 ?_
      exact sj_retF hC hD.2 hH hr hv44 ⟨(Nat.le_of_ble_eq_true rfl), (Nat.le_of_ble_eq_true rfl)⟩ dX7_share_120
  clear hE31
  refine lv_if_ne (tgt := 103) hx hb dX7_share_96 (by decide) (fun hc => ?_) (fun hc => ?_)
  · have hv36 := hv34.1 hc
    refine lv_iload_n hx hb dX7_share_103 rfl (lv_at hl 2 rfl) ?_
    refine lv_iconst (v := 2) hx hb dX7_share_104 (by decide) ?_
    refine lv_icmp_ge (tgt := 112) hx hb dX7_share_105 (by decide) (fun hc => ?_) (fun hc => ?_)
    · have hv37 := hv36.1 hc
      refine lv_iconst (v := 0) hx hb dX7_share_112 (by decide) ?_
      exact hJ32 0 self w28 _ _ _ (lv_sub hl [2, 3] rfl) hH hv37
    · have hv38 := hv36.2 hc
      refine lv_iconst (v := 2) hx hb dX7_share_108 (by decide) ?_
      refine lv_goto (tgt := 113) hx hb dX7_share_109 (by decide) ?_
      exact hJ32 2 self w28 _ _ _ (lv_sub hl [2, 3] rfl) hH hv38
  · have hv39 := hv34.2 hc
    refine lv_iconst (v := 1) hx hb dX7_share_99 (by decide) ?_
    refine lv_goto (tgt := 113) hx hb dX7_share_100 (by decide) ?_
    exact hJ32 1 self w28 _ _ _ (lv_sub hl [2, 3] rfl) hH hv39
section SJL_X7_share
variable {p : Program} {l : Launch} {e : Env} {R : Room} {s : State} {m : MethodId} {args : Array Value} {below : List Frame} {meth : Method} {c : Code} {H : Heap} {locs : List Loc} {cells slots : Nat} {Q : State → Prop} {cc : ByteArray} {pc : Nat} {ls : Array Slot} {rest : List Value} {G : sj_G} {nL : Nat} {w : sj_W}
theorem cg_L_249 {b : Nat} {b0 : Int32} {Qi : UInt32 → sj_W → Prop} (hC : sj_C G p l s m args c cc RL nL) (hH : sj_H G s w H locs) (hv : vc_X7_share b b0 w Qi) (hT : sj_T w b = 6) (hR : rm_X7_share.frames + 1 ≤ R.frames ∧ 8 + (6 + 11) + rm_X7_share.locals ≤ R.locals) (hf : cells + 0 ≤ R.cells ∧ slots + 0 ≤ R.slots) (hls : ls.size = nL) (hW : (rest.map fun v => v.category).sum ≤ 8) (hdg : decode cc pc = .ok (.invokevirtual 249, 3)) (kk : ∀ (r : UInt32) (w1 : sj_W) (H : Heap) (locs : List Loc), sj_H G s w1 H locs → Qi r w1 → W p l e R s m args below meth c H locs (cells + 0) (slots + 0) Q (F0 m (pc + 3) ls (.float r :: rest))) : W p l e R s m args below meth c H locs cells slots Q (F0 m pc ls (.int b0 :: .ref b :: rest)) :=
  sj_xF hH (sj_runV (n := 1) hC hH (As := [.int b0]) (wk_X7_share G l hC.2.2.2.2.2.2 b b0 w Qi (fun _ _ => False) hv) (ci := 5) rfl (by decide) hT mb_972 mb_973 mb_974 mb_5 mb_975 (by decide +kernel) hR hf rfl hls hW hdg) (fun _ _ _ _ _ _ _ h _ _ _ => h.elim) kk
end SJL_X7_share
abbrev rm_X7_sort : Room := { frames := 5, cells := 0, slots := 0, locals := 124 }
def vb_X7_sort_59 (f0 : Nat) (f1 : Int32) (f2 : Int32) (f3 : Int32) (Q : Int32 → sj_W → Prop) (E : Int32 → sj_W → Prop) (K : Int32 → Int32 → sj_W → Prop) (v4 : Int32) (v5 : Int32) (w : sj_W) : Prop := ((12 ≤ v5 → E v4 w) ∧ (¬ 12 ≤ v5 → sj_T w f0 = 6 ∧ vc_X7_isFit f0 f1 v5 w (fun r31 w32 => sj_jn1 (fun (E34 : Int32 → sj_W → Prop) => ((r31 = 0 → E34 1 w32) ∧ (¬ r31 = 0 → sj_T w32 f0 = 6 ∧ vc_X7_spans f0 f1 f2 v5 f3 w32 (fun r42 w43 => E34 r42 w43)))) (fun (y0_89 : Int32) (w_89 : sj_W) => ((y0_89 < 0 → K (v4 + 1) (v5 + 1) w_89) ∧ (¬ y0_89 < 0 → ((¬ y0_89 = 0 → K (v4 + 0) (v5 + 1) w_89) ∧ (y0_89 = 0 → ((f3 ≤ v5 → K (v4 + 0) (v5 + 1) w_89) ∧ (¬ f3 ≤ v5 → K (v4 + 1) (v5 + 1) w_89))))))))))
def vb_X7_sort_35 (f0 : Nat) (f1 : Int32) (f2 : Int32) (Q : Int32 → sj_W → Prop) (E : sj_W → Prop) (K : Int32 → sj_W → Prop) (v3 : Int32) (w : sj_W) : Prop := ((12 ≤ v3 → E w) ∧ (¬ 12 ≤ v3 → sj_T w f0 = 6 ∧ vc_X7_isFit f0 f1 v3 w (fun r25 w26 => ((¬ r25 = 0 → sj_lp2 (vb_X7_sort_59 f0 f1 f2 v3 Q (fun z4_59 w_59 => sj_T w_59 f0 = 6 ∧ sj_A w_59 45 f0 ≠ 0 ∧ sj_T w_59 (sj_A w_59 45 f0) = 7 ∧ vp_in z4_59 (sj_N w_59 (sj_A w_59 45 f0)) ∧ ∀ w52 : sj_W, w52 = sj_si w_59 (sj_A w_59 45 f0) z4_59.toNatClampNeg v3 → sj_T w52 f0 = 6 ∧ sj_T w52 f0 = 6 ∧ ∀ w54 : sj_W, w54 = sj_sI w52 46 f0 ((sj_I w52 46 f0) + 1) → K (v3 + 1) w54)) 64 0 0 w26) ∧ (r25 = 0 → K (v3 + 1) w26)))))
def vc_X7_sort (self : Nat) (a1 : Int32) (a2 : Int32) (w : sj_W) (Q : Int32 → sj_W → Prop) : Prop := vc_X7_isKind a1 w (fun r1 w2 => sj_jn2 (fun (E4 : Int32 → Nat → sj_W → Prop) => ((r1 = 0 → E4 1 self w2) ∧ (¬ r1 = 0 → vc_X7_isOrder a2 w2 (fun r12 w13 => ((r12 = 0 → E4 1 self w13) ∧ (¬ r12 = 0 → E4 0 self w13)))))) (fun (y0_20 : Int32) (y1_20 : Nat) (w_20 : sj_W) => sj_T w_20 y1_20 = 6 ∧ vc_X7_fails y1_20 y0_20 w_20 (fun r17 w18 => ((r17 = 0 → sj_T w18 self = 6 ∧ ∀ w21 : sj_W, w21 = sj_sI w18 46 self 0 → sj_lp1 (vb_X7_sort_35 self a1 a2 Q (fun w_35 => sj_T w_35 self = 6 ∧ Q (sj_I w_35 46 self) w_35)) 64 0 w21) ∧ (¬ r17 = 0 → Q 0 w18)))))
set_option maxHeartbeats 4000000 in
set_option maxRecDepth 100000 in
theorem wl_X7_sort_59 {p : Program} {l : Launch} {e : Env} {s : State} {m : MethodId} {args : Array Value} {below : List Frame} {meth : Method} {c : Code} {G : sj_G} {f0 : Nat} {f1 : Int32} {f2 : Int32} {f3 : Int32} {Q : Int32 → sj_W → Prop} {QX : String → sj_W → Prop} {E : Int32 → sj_W → Prop} (hC : sj_C G p l s m args c cX7_sort RX7 7) (hD : sj_D meth c) (hr : meth.sig.returnType = (some .int)) (hin : meth.name = "sort") (hE : ∀ (v4 : Int32) (w : sj_W) (H : Heap) (locs : List Loc) (ls : Array Slot), lv_has ls 7 [(0, .ref f0), (1, .int f1), (2, .int f2), (3, .int f3), (4, .int v4)] → sj_H G s w H locs → E v4 w → W p l e rm_X7_sort s m args below meth c H locs 0 0 (sj_MQ G below (va_Qi Q (sj_B G) (sj_F G)) QX args s rm_X7_sort) (F0 m 123 ls [])) : ∀ (n : Nat) (v4 : Int32) (v5 : Int32) (w : sj_W) (H : Heap) (locs : List Loc) (ls : Array Slot), lv_has ls 7 [(0, .ref f0), (1, .int f1), (2, .int f2), (3, .int f3), (4, .int v4), (5, .int v5)] → sj_H G s w H locs → sj_lp2 (vb_X7_sort_59 f0 f1 f2 f3 Q E) n v4 v5 w → W p l e rm_X7_sort s m args below meth c H locs 0 0 (sj_MQ G below (va_Qi Q (sj_B G) (sj_F G)) QX args s rm_X7_sort) (F0 m 59 ls []) := by
  have hx := hC.1
  have hb := hC.2.1
  intro n
  induction n with
  | zero =>
    intro v4 v5 w H locs ls _ _ hv
    exact hv.elim
  | succ n ih =>
    intro v4 v5 w H locs ls hl hH hv
    have hv : vb_X7_sort_59 f0 f1 f2 f3 Q E (sj_lp2 (vb_X7_sort_59 f0 f1 f2 f3 Q E) n) v4 v5 w := hv
    have hc1 : rm_X7_sort.cells = 0 := rfl
    have hc2 : rm_X7_sort.slots = 0 := rfl
    refine lv_iload hx hb dX7_sort_59 (lv_at hl 5 rfl) ?_
    refine lv_bipush (v := 12) hx hb dX7_sort_61 (by decide) ?_
    refine lv_icmp_ge (tgt := 123) hx hb dX7_sort_63 (by decide) (fun hc => ?_) (fun hc => ?_)
    · have hv29 := hv.1 hc
      exact hE v4 w _ _ _ (lv_sub hl [0, 1, 2, 3, 4] rfl) hH hv29
    · have hv30 := hv.2 hc
      refine lv_aload_n hx hb dX7_sort_66 rfl (lv_at hl 0 rfl) ?_
      refine lv_iload_n hx hb dX7_sort_67 rfl (lv_at hl 1 rfl) ?_
      refine lv_iload hx hb dX7_sort_68 (lv_at hl 5 rfl) ?_
      refine cl_X7_110 hC hD hH hv30.2 hv30.1 ⟨Nat.le_of_ble_eq_true rfl, Nat.le_of_ble_eq_true rfl⟩ ⟨(Nat.le_of_ble_eq_true rfl), (Nat.le_of_ble_eq_true rfl)⟩ ⟨(Nat.le_of_ble_eq_true rfl), (Nat.le_of_ble_eq_true rfl)⟩ hl.1 (Nat.le_of_ble_eq_true rfl) dX7_sort_70 (fun r31 w32 H locs hH hv33 => ?_)
      obtain ⟨E34, hE35, hv38⟩ := sj_jn1_e hv33
      have hJ36 : ∀ (y0_89 : Int32) (w_89 : sj_W) (H : Heap) (locs : List Loc) (ls : Array Slot), lv_has ls 7 [(0, .ref f0), (1, .int f1), (2, .int f2), (3, .int f3), (4, .int v4), (5, .int v5)] → sj_H G s w_89 H locs → E34 y0_89 w_89 → W p l e rm_X7_sort s m args below meth c H locs 0 0 (sj_MQ G below (va_Qi Q (sj_B G) (sj_F G)) QX args s rm_X7_sort) (F0 m 89 ls [.int y0_89]) := by
        intro y0_89 w_89 H locs ls hl hH hv39
        rw [hE35] at hv39
        refine lv_istore (lv' := [(6, .int y0_89), (0, .ref f0), (1, .int f1), (2, .int f2), (3, .int f3), (4, .int v4), (5, .int v5)]) hx hb dX7_sort_89 hl (by decide) rfl (fun ls hl => ?_)
        refine lv_iload hx hb dX7_sort_91 (lv_at hl 5 rfl) ?_
        refine lv_iload hx hb dX7_sort_93 (lv_at hl 0 rfl) ?_
        refine lv_if_lt (tgt := 109) hx hb dX7_sort_95 (by decide) (fun hc => ?_) (fun hc => ?_)
        · have hv45 := hv39.1 hc
          refine lv_iconst (v := 1) hx hb dX7_sort_109 (by decide) ?_
          refine lv_goto (tgt := 114) hx hb dX7_sort_110 (by decide) ?_
          refine lv_iadd hx hb dX7_sort_114 ?_
          refine lv_istore (lv' := [(4, .int (v4 + 1)), (6, .int y0_89), (0, .ref f0), (1, .int f1), (2, .int f2), (3, .int f3), (5, .int v5)]) hx hb dX7_sort_115 hl (by decide) rfl (fun ls hl => ?_)
          refine lv_iinc (v := (v5 + 1)) (lv' := [(5, .int (v5 + 1)), (4, .int (v4 + 1)), (6, .int y0_89), (0, .ref f0), (1, .int f1), (2, .int f2), (3, .int f3)]) hx hb dX7_sort_117 hl (k := 6) rfl rfl (by decide) rfl (fun ls hl => ?_)
          refine lv_goto (tgt := 59) hx hb dX7_sort_120 (by decide) ?_
          exact ih (v4 + 1) (v5 + 1) w_89 _ _ _ (lv_sub hl [3, 4, 5, 6, 1, 0] rfl) hH hv45
        · have hv46 := hv39.2 hc
          refine lv_iload hx hb dX7_sort_98 (lv_at hl 0 rfl) ?_
          refine lv_if_ne (tgt := 113) hx hb dX7_sort_100 (by decide) (fun hc => ?_) (fun hc => ?_)
          · have hv47 := hv46.1 hc
            refine lv_iconst (v := 0) hx hb dX7_sort_113 (by decide) ?_
            refine lv_iadd hx hb dX7_sort_114 ?_
            refine lv_istore (lv' := [(4, .int (v4 + 0)), (6, .int y0_89), (0, .ref f0), (1, .int f1), (2, .int f2), (3, .int f3), (5, .int v5)]) hx hb dX7_sort_115 hl (by decide) rfl (fun ls hl => ?_)
            refine lv_iinc (v := (v5 + 1)) (lv' := [(5, .int (v5 + 1)), (4, .int (v4 + 0)), (6, .int y0_89), (0, .ref f0), (1, .int f1), (2, .int f2), (3, .int f3)]) hx hb dX7_sort_117 hl (k := 6) rfl rfl (by decide) rfl (fun ls hl => ?_)
            refine lv_goto (tgt := 59) hx hb dX7_sort_120 (by decide) ?_
            exact ih (v4 + 0) (v5 + 1) w_89 _ _ _ (lv_sub hl [3, 4, 5, 6, 1, 0] rfl) hH hv47
          · have hv48 := hv46.2 hc
            refine lv_iload hx hb dX7_sort_103 (lv_at hl 6 rfl) ?_
            refine lv_iload_n hx hb dX7_sort_105 rfl (lv_at hl 4 rfl) ?_
            refine lv_icmp_ge (tgt := 113) hx hb dX7_sort_106 (by decide) (fun hc => ?_) (fun hc => ?_)
            · have hv49 := hv48.1 hc
              refine lv_iconst (v := 0) hx hb dX7_sort_113 (by decide) ?_
              refine lv_iadd hx hb dX7_sort_114 ?_
              refine lv_istore (lv' := [(4, .int (v4 + 0)), (6, .int y0_89), (0, .ref f0), (1, .int f1), (2, .int f2), (3, .int f3), (5, .int v5)]) hx hb dX7_sort_115 hl (by decide) rfl (fun ls hl => ?_)
              refine lv_iinc (v := (v5 + 1)) (lv' := [(5, .int (v5 + 1)), (4, .int (v4 + 0)), (6, .int y0_89), (0, .ref f0), (1, .int f1), (2, .int f2), (3, .int f3)]) hx hb dX7_sort_117 hl (k := 6) rfl rfl (by decide) rfl (fun ls hl => ?_)
              refine lv_goto (tgt := 59) hx hb dX7_sort_120 (by decide) ?_
              exact ih (v4 + 0) (v5 + 1) w_89 _ _ _ (lv_sub hl [3, 4, 5, 6, 1, 0] rfl) hH hv49
            · have hv50 := hv48.2 hc
              refine lv_iconst (v := 1) hx hb dX7_sort_109 (by decide) ?_
              refine lv_goto (tgt := 114) hx hb dX7_sort_110 (by decide) ?_
              refine lv_iadd hx hb dX7_sort_114 ?_
              refine lv_istore (lv' := [(4, .int (v4 + 1)), (6, .int y0_89), (0, .ref f0), (1, .int f1), (2, .int f2), (3, .int f3), (5, .int v5)]) hx hb dX7_sort_115 hl (by decide) rfl (fun ls hl => ?_)
              refine lv_iinc (v := (v5 + 1)) (lv' := [(5, .int (v5 + 1)), (4, .int (v4 + 1)), (6, .int y0_89), (0, .ref f0), (1, .int f1), (2, .int f2), (3, .int f3)]) hx hb dX7_sort_117 hl (k := 6) rfl rfl (by decide) rfl (fun ls hl => ?_)
              refine lv_goto (tgt := 59) hx hb dX7_sort_120 (by decide) ?_
              exact ih (v4 + 1) (v5 + 1) w_89 _ _ _ (lv_sub hl [3, 4, 5, 6, 1, 0] rfl) hH hv50
      clear hE35
      refine lv_if_eq (tgt := 88) hx hb dX7_sort_73 (by decide) (fun hc => ?_) (fun hc => ?_)
      · have hv40 := hv38.1 hc
        refine lv_iconst (v := 1) hx hb dX7_sort_88 (by decide) ?_
        exact hJ36 1 w32 _ _ _ (lv_sub hl [0, 1, 2, 3, 4, 5] rfl) hH hv40
      · have hv41 := hv38.2 hc
        refine lv_aload_n hx hb dX7_sort_76 rfl (lv_at hl 0 rfl) ?_
        refine lv_iload_n hx hb dX7_sort_77 rfl (lv_at hl 1 rfl) ?_
        refine lv_iload_n hx hb dX7_sort_78 rfl (lv_at hl 2 rfl) ?_
        refine lv_iload hx hb dX7_sort_79 (lv_at hl 5 rfl) ?_
        refine lv_iload_n hx hb dX7_sort_81 rfl (lv_at hl 3 rfl) ?_
        refine cl_X7_143 hC hD hH hv41.2 hv41.1 ⟨Nat.le_of_ble_eq_true rfl, Nat.le_of_ble_eq_true rfl⟩ ⟨(Nat.le_of_ble_eq_true rfl), (Nat.le_of_ble_eq_true rfl)⟩ ⟨(Nat.le_of_ble_eq_true rfl), (Nat.le_of_ble_eq_true rfl)⟩ hl.1 (Nat.le_of_ble_eq_true rfl) dX7_sort_82 (fun r42 w43 H locs hH hv44 => ?_)
        refine lv_goto (tgt := 89) hx hb dX7_sort_85 (by decide) ?_
        exact hJ36 r42 w43 _ _ _ (lv_sub hl [0, 1, 2, 3, 4, 5] rfl) hH hv44
set_option maxHeartbeats 4000000 in
set_option maxRecDepth 100000 in
theorem wl_X7_sort_35 {p : Program} {l : Launch} {e : Env} {s : State} {m : MethodId} {args : Array Value} {below : List Frame} {meth : Method} {c : Code} {G : sj_G} {f0 : Nat} {f1 : Int32} {f2 : Int32} {Q : Int32 → sj_W → Prop} {QX : String → sj_W → Prop} {E : sj_W → Prop} (hC : sj_C G p l s m args c cX7_sort RX7 7) (hD : sj_D meth c) (hr : meth.sig.returnType = (some .int)) (hin : meth.name = "sort") (hE : ∀ (w : sj_W) (H : Heap) (locs : List Loc) (ls : Array Slot), lv_has ls 7 [(0, .ref f0)] → sj_H G s w H locs → E w → W p l e rm_X7_sort s m args below meth c H locs 0 0 (sj_MQ G below (va_Qi Q (sj_B G) (sj_F G)) QX args s rm_X7_sort) (F0 m 147 ls [])) : ∀ (n : Nat) (v3 : Int32) (w : sj_W) (H : Heap) (locs : List Loc) (ls : Array Slot), lv_has ls 7 [(0, .ref f0), (1, .int f1), (2, .int f2), (3, .int v3)] → sj_H G s w H locs → sj_lp1 (vb_X7_sort_35 f0 f1 f2 Q E) n v3 w → W p l e rm_X7_sort s m args below meth c H locs 0 0 (sj_MQ G below (va_Qi Q (sj_B G) (sj_F G)) QX args s rm_X7_sort) (F0 m 35 ls []) := by
  have hx := hC.1
  have hb := hC.2.1
  intro n
  induction n with
  | zero =>
    intro v3 w H locs ls _ _ hv
    exact hv.elim
  | succ n ih =>
    intro v3 w H locs ls hl hH hv
    have hv : vb_X7_sort_35 f0 f1 f2 Q E (sj_lp1 (vb_X7_sort_35 f0 f1 f2 Q E) n) v3 w := hv
    have hc1 : rm_X7_sort.cells = 0 := rfl
    have hc2 : rm_X7_sort.slots = 0 := rfl
    refine lv_iload_n hx hb dX7_sort_35 rfl (lv_at hl 3 rfl) ?_
    refine lv_bipush (v := 12) hx hb dX7_sort_36 (by decide) ?_
    refine lv_icmp_ge (tgt := 147) hx hb dX7_sort_38 (by decide) (fun hc => ?_) (fun hc => ?_)
    · have hv23 := hv.1 hc
      exact hE  w _ _ _ (lv_sub hl [0] rfl) hH hv23
    · have hv24 := hv.2 hc
      refine lv_aload_n hx hb dX7_sort_41 rfl (lv_at hl 0 rfl) ?_
      refine lv_iload_n hx hb dX7_sort_42 rfl (lv_at hl 1 rfl) ?_
      refine lv_iload_n hx hb dX7_sort_43 rfl (lv_at hl 3 rfl) ?_
      refine cl_X7_110 hC hD hH hv24.2 hv24.1 ⟨Nat.le_of_ble_eq_true rfl, Nat.le_of_ble_eq_true rfl⟩ ⟨(Nat.le_of_ble_eq_true rfl), (Nat.le_of_ble_eq_true rfl)⟩ ⟨(Nat.le_of_ble_eq_true rfl), (Nat.le_of_ble_eq_true rfl)⟩ hl.1 (Nat.le_of_ble_eq_true rfl) dX7_sort_44 (fun r25 w26 H locs hH hv27 => ?_)
      refine lv_if_ne (tgt := 53) hx hb dX7_sort_47 (by decide) (fun hc => ?_) (fun hc => ?_)
      · have hv28 := hv27.1 hc
        refine lv_iconst (v := 0) hx hb dX7_sort_53 (by decide) ?_
        refine lv_istore (lv' := [(4, .int 0), (0, .ref f0), (1, .int f1), (2, .int f2), (3, .int v3)]) hx hb dX7_sort_54 hl (by decide) rfl (fun ls hl => ?_)
        refine lv_iconst (v := 0) hx hb dX7_sort_56 (by decide) ?_
        refine lv_istore (lv' := [(5, .int 0), (4, .int 0), (0, .ref f0), (1, .int f1), (2, .int f2), (3, .int v3)]) hx hb dX7_sort_57 hl (by decide) rfl (fun ls hl => ?_)
        refine wl_X7_sort_59 hC hD hr hin (fun z4_59 w_59 H locs ls hl hH hv51 => ?_) 64 0 0 w26 _ _ _ (lv_sub hl [2, 3, 4, 5, 1, 0] rfl) hH hv28
        refine lv_aload_n hx hb dX7_sort_123 rfl (lv_at hl 0 rfl) ?_
        refine gf_X7_26 hC hH hv51.1 hv51.2.1 dX7_sort_124 ?_
        refine lv_iload hx hb dX7_sort_127 (lv_at hl 4 rfl) ?_
        refine lv_iload_n hx hb dX7_sort_129 rfl (lv_at hl 3 rfl) ?_
        refine sj_iast hC hH hv51.2.2.1 hv51.2.2.2.1 dX7_sort_130 (fun w52 H locs e53 hH => ?_)
        refine lv_aload_n hx hb dX7_sort_131 rfl (lv_at hl 0 rfl) ?_
        refine lv_dup hx hb dX7_sort_132 rfl ?_
        refine gf_X7_147 hC hH (hv51.2.2.2.2 w52 e53).1 dX7_sort_133 ?_
        refine lv_iconst (v := 1) hx hb dX7_sort_136 (by decide) ?_
        refine lv_iadd hx hb dX7_sort_137 ?_
        refine pf_X7_147 hC hH (hv51.2.2.2.2 w52 e53).2.1 dX7_sort_138 (fun w54 H locs e55 hH => ?_)
        refine lv_iinc (v := (v3 + 1)) (lv' := [(3, .int (v3 + 1)), (0, .ref f0), (1, .int f1), (2, .int f2), (4, .int z4_59)]) hx hb dX7_sort_141 hl (k := 3) rfl rfl (by decide) rfl (fun ls hl => ?_)
        refine lv_goto (tgt := 35) hx hb dX7_sort_144 (by decide) ?_
        exact ih (v3 + 1) w54 _ _ _ (lv_sub hl [1, 2, 3, 0] rfl) hH ((hv51.2.2.2.2 w52 e53).2.2 w54 e55)
      · have hv56 := hv27.2 hc
        refine lv_goto (tgt := 141) hx hb dX7_sort_50 (by decide) ?_
        refine lv_iinc (v := (v3 + 1)) (lv' := [(3, .int (v3 + 1)), (0, .ref f0), (1, .int f1), (2, .int f2)]) hx hb dX7_sort_141 hl (k := 3) rfl rfl (by decide) rfl (fun ls hl => ?_)
        refine lv_goto (tgt := 35) hx hb dX7_sort_144 (by decide) ?_
        exact ih (v3 + 1) w26 _ _ _ (lv_sub hl [1, 2, 3, 0] rfl) hH hv56
set_option maxHeartbeats 4000000 in
set_option maxRecDepth 100000 in
theorem wk_X7_sort (G : sj_G) (l : Launch) (hlt : l.stackTraces = false) (self : Nat) (a1 : Int32) (a2 : Int32) (w : sj_W) (Q : Int32 → sj_W → Prop) (QX : String → sj_W → Prop) (hv : vc_X7_sort self a1 a2 w Q) : sj_MI G l yX7_sort (sj_ws yX7_sort cX7_sort 7 (some .int)) rm_X7_sort [.ref self, .int a1, .int a2] w Q QX := by
  refine sj_of (by decide +kernel) (Nat.le_of_ble_eq_true rfl) hlt ?_
  intro p e s m args below meth c ls hC hD hr hin hH hl
  have hx := hC.1
  have hb := hC.2.1
  have hl : lv_has ls 7 [(0, .ref self), (1, .int a1), (2, .int a2)] := hl
  refine lv_aload_n hx hb dX7_sort_0 rfl (lv_at hl 0 rfl) ?_
  refine lv_iload_n hx hb dX7_sort_1 rfl (lv_at hl 1 rfl) ?_
  refine cl_X7_57 hC hD hH hv ⟨Nat.le_of_ble_eq_true rfl, Nat.le_of_ble_eq_true rfl⟩ ⟨(Nat.le_of_ble_eq_true rfl), (Nat.le_of_ble_eq_true rfl)⟩ ⟨(Nat.le_of_ble_eq_true rfl), (Nat.le_of_ble_eq_true rfl)⟩ hl.1 (Nat.le_of_ble_eq_true rfl) dX7_sort_2 (fun r1 w2 H locs hH hv3 => ?_)
  obtain ⟨E4, hE5, hv8⟩ := sj_jn2_e hv3
  have hJ6 : ∀ (y0_20 : Int32) (y1_20 : Nat) (w_20 : sj_W) (H : Heap) (locs : List Loc) (ls : Array Slot), lv_has ls 7 [(0, .ref self), (1, .int a1), (2, .int a2)] → sj_H G s w_20 H locs → E4 y0_20 y1_20 w_20 → W p l e rm_X7_sort s m args below meth c H locs 0 0 (sj_MQ G below (va_Qi Q (sj_B G) (sj_F G)) QX args s rm_X7_sort) (F0 m 20 ls [.int y0_20, .ref y1_20]) := by
    intro y0_20 y1_20 w_20 H locs ls hl hH hv9
    rw [hE5] at hv9
    refine cl_X7_73 hC hD hH hv9.2 hv9.1 ⟨Nat.le_of_ble_eq_true rfl, Nat.le_of_ble_eq_true rfl⟩ ⟨(Nat.le_of_ble_eq_true rfl), (Nat.le_of_ble_eq_true rfl)⟩ ⟨(Nat.le_of_ble_eq_true rfl), (Nat.le_of_ble_eq_true rfl)⟩ hl.1 (Nat.le_of_ble_eq_true rfl) dX7_sort_20 (fun r17 w18 H locs hH hv19 => ?_)
    refine lv_if_eq (tgt := 28) hx hb dX7_sort_23 (by decide) (fun hc => ?_) (fun hc => ?_)
    · have hv20 := hv19.1 hc
      refine lv_aload_n hx hb dX7_sort_28 rfl (lv_at hl 0 rfl) ?_
      refine lv_iconst (v := 0) hx hb dX7_sort_29 (by decide) ?_
      refine pf_X7_147 hC hH hv20.1 dX7_sort_30 (fun w21 H locs e22 hH => ?_)
      refine lv_iconst (v := 0) hx hb dX7_sort_33 (by decide) ?_
      refine lv_istore_n (lv' := [(3, .int 0), (0, .ref self), (1, .int a1), (2, .int a2)]) hx hb dX7_sort_34 rfl hl (by decide) rfl (fun ls hl => ?_)
      refine wl_X7_sort_35 hC hD hr hin (fun w_35 H locs ls hl hH hv57 => ?_) 64 0 w21 _ _ _ (lv_sub hl [1, 2, 3, 0] rfl) hH (hv20.2 w21 e22)
      refine lv_aload_n hx hb dX7_sort_147 rfl (lv_at hl 0 rfl) ?_
      refine gf_X7_147 hC hH hv57.1 dX7_sort_148 ?_
      exact sj_retI hC hD.2 hH hr rfl hv57.2 ⟨(Nat.le_of_ble_eq_true rfl), (Nat.le_of_ble_eq_true rfl)⟩ dX7_sort_151
    · have hv58 := hv19.2 hc
      refine lv_iconst (v := 0) hx hb dX7_sort_26 (by decide) ?_
      exact sj_retI hC hD.2 hH hr rfl hv58 ⟨(Nat.le_of_ble_eq_true rfl), (Nat.le_of_ble_eq_true rfl)⟩ dX7_sort_27
  clear hE5
  refine lv_if_eq (tgt := 19) hx hb dX7_sort_5 (by decide) (fun hc => ?_) (fun hc => ?_)
  · have hv10 := hv8.1 hc
    refine lv_iconst (v := 1) hx hb dX7_sort_19 (by decide) ?_
    exact hJ6 1 self w2 _ _ _ (lv_sub hl [0, 1, 2] rfl) hH hv10
  · have hv11 := hv8.2 hc
    refine lv_iload_n hx hb dX7_sort_8 rfl (lv_at hl 2 rfl) ?_
    refine cl_X7_140 hC hD hH hv11 ⟨Nat.le_of_ble_eq_true rfl, Nat.le_of_ble_eq_true rfl⟩ ⟨(Nat.le_of_ble_eq_true rfl), (Nat.le_of_ble_eq_true rfl)⟩ ⟨(Nat.le_of_ble_eq_true rfl), (Nat.le_of_ble_eq_true rfl)⟩ hl.1 (Nat.le_of_ble_eq_true rfl) dX7_sort_9 (fun r12 w13 H locs hH hv14 => ?_)
    refine lv_if_eq (tgt := 19) hx hb dX7_sort_12 (by decide) (fun hc => ?_) (fun hc => ?_)
    · have hv15 := hv14.1 hc
      refine lv_iconst (v := 1) hx hb dX7_sort_19 (by decide) ?_
      exact hJ6 1 self w13 _ _ _ (lv_sub hl [0, 1, 2] rfl) hH hv15
    · have hv16 := hv14.2 hc
      refine lv_iconst (v := 0) hx hb dX7_sort_15 (by decide) ?_
      refine lv_goto (tgt := 20) hx hb dX7_sort_16 (by decide) ?_
      exact hJ6 0 self w13 _ _ _ (lv_sub hl [0, 1, 2] rfl) hH hv16
section SJL_X7_sort
variable {p : Program} {l : Launch} {e : Env} {R : Room} {s : State} {m : MethodId} {args : Array Value} {below : List Frame} {meth : Method} {c : Code} {H : Heap} {locs : List Loc} {cells slots : Nat} {Q : State → Prop} {cc : ByteArray} {pc : Nat} {ls : Array Slot} {rest : List Value} {G : sj_G} {nL : Nat} {w : sj_W}
theorem cg_L_211 {b : Nat} {b0 : Int32} {b1 : Int32} {Qi : Int32 → sj_W → Prop} (hC : sj_C G p l s m args c cc RL nL) (hH : sj_H G s w H locs) (hv : vc_X7_sort b b0 b1 w Qi) (hT : sj_T w b = 6) (hR : rm_X7_sort.frames + 1 ≤ R.frames ∧ 8 + (7 + 11) + rm_X7_sort.locals ≤ R.locals) (hf : cells + 0 ≤ R.cells ∧ slots + 0 ≤ R.slots) (hls : ls.size = nL) (hW : (rest.map fun v => v.category).sum ≤ 8) (hdg : decode cc pc = .ok (.invokevirtual 211, 3)) (kk : ∀ (r : Int32) (w1 : sj_W) (H : Heap) (locs : List Loc), sj_H G s w1 H locs → Qi r w1 → W p l e R s m args below meth c H locs (cells + 0) (slots + 0) Q (F0 m (pc + 3) ls (.int r :: rest))) : W p l e R s m args below meth c H locs cells slots Q (F0 m pc ls (.int b1 :: .int b0 :: .ref b :: rest)) :=
  sj_xI hH (sj_runV (n := 2) hC hH (As := [.int b0, .int b1]) (wk_X7_sort G l hC.2.2.2.2.2.2 b b0 b1 w Qi (fun _ _ => False) hv) (ci := 5) rfl (by decide) hT mb_900 mb_901 mb_902 mb_5 mb_903 (by decide +kernel) hR hf rfl hls hW hdg) (fun _ _ _ _ _ _ _ h _ _ _ => h.elim) kk
end SJL_X7_sort
abbrev rm_X7_sorted : Room := { frames := 1, cells := 0, slots := 0, locals := 25 }
def vc_X7_sorted (self : Nat) (a1 : Int32) (w : sj_W) (Q : Int32 → sj_W → Prop) : Prop := sj_T w self = 6 ∧ vc_X7_in (a1.toInt64) 0 (((sj_I w 46 self) - 1).toInt64) w (fun r1 w2 => sj_jn2 (fun (E4 : Int32 → Nat → sj_W → Prop) => ((r1 = 0 → E4 1 self w2) ∧ (¬ r1 = 0 → E4 0 self w2))) (fun (y0_22 : Int32) (y1_22 : Nat) (w_22 : sj_W) => sj_T w_22 y1_22 = 6 ∧ vc_X7_fails y1_22 y0_22 w_22 (fun r12 w13 => ((r12 = 0 → sj_T w13 self = 6 ∧ sj_A w13 45 self ≠ 0 ∧ sj_T w13 (sj_A w13 45 self) = 7 ∧ vp_in a1 (sj_N w13 (sj_A w13 45 self)) ∧ Q (sj_i w13 (sj_A w13 45 self) a1.toNatClampNeg) w13) ∧ (¬ r12 = 0 → Q 0 w13)))))
set_option maxHeartbeats 4000000 in
set_option maxRecDepth 100000 in
theorem wk_X7_sorted (G : sj_G) (l : Launch) (hlt : l.stackTraces = false) (self : Nat) (a1 : Int32) (w : sj_W) (Q : Int32 → sj_W → Prop) (QX : String → sj_W → Prop) (hv : vc_X7_sorted self a1 w Q) : sj_MI G l yX7_sorted (sj_ws yX7_sorted cX7_sorted 2 (some .int)) rm_X7_sorted [.ref self, .int a1] w Q QX := by
  refine sj_of (by decide +kernel) (Nat.le_of_ble_eq_true rfl) hlt ?_
  intro p e s m args below meth c ls hC hD hr hin hH hl
  have hx := hC.1
  have hb := hC.2.1
  have hl : lv_has ls 2 [(0, .ref self), (1, .int a1)] := hl
  refine lv_aload_n hx hb dX7_sorted_0 rfl (lv_at hl 0 rfl) ?_
  refine lv_iload_n hx hb dX7_sorted_1 rfl (lv_at hl 1 rfl) ?_
  refine lv_i2l hx hb dX7_sorted_2 rfl ?_
  refine lv_lconst (v := 0) hx hb dX7_sorted_3 (by decide) ?_
  refine lv_aload_n hx hb dX7_sorted_4 rfl (lv_at hl 0 rfl) ?_
  refine gf_X7_147 hC hH hv.1 dX7_sorted_5 ?_
  refine lv_iconst (v := 1) hx hb dX7_sorted_8 (by decide) ?_
  refine lv_isub hx hb dX7_sorted_9 ?_
  refine lv_i2l hx hb dX7_sorted_10 rfl ?_
  refine cl_X7_39 hC hD hH hv.2 ⟨Nat.le_of_ble_eq_true rfl, Nat.le_of_ble_eq_true rfl⟩ ⟨(Nat.le_of_ble_eq_true rfl), (Nat.le_of_ble_eq_true rfl)⟩ ⟨(Nat.le_of_ble_eq_true rfl), (Nat.le_of_ble_eq_true rfl)⟩ hl.1 (Nat.le_of_ble_eq_true rfl) dX7_sorted_11 (fun r1 w2 H locs hH hv3 => ?_)
  obtain ⟨E4, hE5, hv8⟩ := sj_jn2_e hv3
  have hJ6 : ∀ (y0_22 : Int32) (y1_22 : Nat) (w_22 : sj_W) (H : Heap) (locs : List Loc) (ls : Array Slot), lv_has ls 2 [(0, .ref self), (1, .int a1)] → sj_H G s w_22 H locs → E4 y0_22 y1_22 w_22 → W p l e rm_X7_sorted s m args below meth c H locs 0 0 (sj_MQ G below (va_Qi Q (sj_B G) (sj_F G)) QX args s rm_X7_sorted) (F0 m 22 ls [.int y0_22, .ref y1_22]) := by
    intro y0_22 y1_22 w_22 H locs ls hl hH hv9
    rw [hE5] at hv9
    refine cl_X7_73 hC hD hH hv9.2 hv9.1 ⟨Nat.le_of_ble_eq_true rfl, Nat.le_of_ble_eq_true rfl⟩ ⟨(Nat.le_of_ble_eq_true rfl), (Nat.le_of_ble_eq_true rfl)⟩ ⟨(Nat.le_of_ble_eq_true rfl), (Nat.le_of_ble_eq_true rfl)⟩ hl.1 (Nat.le_of_ble_eq_true rfl) dX7_sorted_22 (fun r12 w13 H locs hH hv14 => ?_)
    refine lv_if_eq (tgt := 32) hx hb dX7_sorted_25 (by decide) (fun hc => ?_) (fun hc => ?_)
    · have hv15 := hv14.1 hc
      refine lv_aload_n hx hb dX7_sorted_32 rfl (lv_at hl 0 rfl) ?_
      refine gf_X7_26 hC hH hv15.1 hv15.2.1 dX7_sorted_33 ?_
      refine lv_iload_n hx hb dX7_sorted_36 rfl (lv_at hl 1 rfl) ?_
      refine sj_iald hC hH hv15.2.2.1 hv15.2.2.2.1 dX7_sorted_37 ?_
      exact sj_retI hC hD.2 hH hr rfl hv15.2.2.2.2 ⟨(Nat.le_of_ble_eq_true rfl), (Nat.le_of_ble_eq_true rfl)⟩ dX7_sorted_38
    · have hv16 := hv14.2 hc
      refine lv_iconst (v := 0) hx hb dX7_sorted_28 (by decide) ?_
      refine lv_goto (tgt := 38) hx hb dX7_sorted_29 (by decide) ?_
      exact sj_retI hC hD.2 hH hr rfl hv16 ⟨(Nat.le_of_ble_eq_true rfl), (Nat.le_of_ble_eq_true rfl)⟩ dX7_sorted_38
  clear hE5
  refine lv_if_eq (tgt := 21) hx hb dX7_sorted_14 (by decide) (fun hc => ?_) (fun hc => ?_)
  · have hv10 := hv8.1 hc
    refine lv_iconst (v := 1) hx hb dX7_sorted_21 (by decide) ?_
    exact hJ6 1 self w2 _ _ _ (lv_sub hl [0, 1] rfl) hH hv10
  · have hv11 := hv8.2 hc
    refine lv_iconst (v := 0) hx hb dX7_sorted_17 (by decide) ?_
    refine lv_goto (tgt := 22) hx hb dX7_sorted_18 (by decide) ?_
    exact hJ6 0 self w2 _ _ _ (lv_sub hl [0, 1] rfl) hH hv11
section SJL_X7_sorted
variable {p : Program} {l : Launch} {e : Env} {R : Room} {s : State} {m : MethodId} {args : Array Value} {below : List Frame} {meth : Method} {c : Code} {H : Heap} {locs : List Loc} {cells slots : Nat} {Q : State → Prop} {cc : ByteArray} {pc : Nat} {ls : Array Slot} {rest : List Value} {G : sj_G} {nL : Nat} {w : sj_W}
theorem cg_L_215 {b : Nat} {b0 : Int32} {Qi : Int32 → sj_W → Prop} (hC : sj_C G p l s m args c cc RL nL) (hH : sj_H G s w H locs) (hv : vc_X7_sorted b b0 w Qi) (hT : sj_T w b = 6) (hR : rm_X7_sorted.frames + 1 ≤ R.frames ∧ 8 + (2 + 11) + rm_X7_sorted.locals ≤ R.locals) (hf : cells + 0 ≤ R.cells ∧ slots + 0 ≤ R.slots) (hls : ls.size = nL) (hW : (rest.map fun v => v.category).sum ≤ 8) (hdg : decode cc pc = .ok (.invokevirtual 215, 3)) (kk : ∀ (r : Int32) (w1 : sj_W) (H : Heap) (locs : List Loc), sj_H G s w1 H locs → Qi r w1 → W p l e R s m args below meth c H locs (cells + 0) (slots + 0) Q (F0 m (pc + 3) ls (.int r :: rest))) : W p l e R s m args below meth c H locs cells slots Q (F0 m pc ls (.int b0 :: .ref b :: rest)) :=
  sj_xI hH (sj_runV (n := 1) hC hH (As := [.int b0]) (wk_X7_sorted G l hC.2.2.2.2.2.2 b b0 w Qi (fun _ _ => False) hv) (ci := 5) rfl (by decide) hT mb_904 mb_905 mb_906 mb_5 mb_907 (by decide +kernel) hR hf rfl hls hW hdg) (fun _ _ _ _ _ _ _ h _ _ _ => h.elim) kk
end SJL_X7_sorted
abbrev rm_X7_span : Room := { frames := 2, cells := 0, slots := 0, locals := 45 }
def vc_X7_span (self : Nat) (a1 : Int32) (a2 : Int32) (a3 : Int32) (a4 : Int32) (w : sj_W) (Q : Int32 → sj_W → Prop) : Prop := vc_X7_isSpan a1 w (fun r1 w2 => sj_jn2 (fun (E4 : Int32 → Nat → sj_W → Prop) => ((r1 = 0 → E4 1 self w2) ∧ (¬ r1 = 0 → vc_X7_isRow a2 w2 (fun r12 w13 => ((¬ r12 = 0 → vc_X7_in (a3.toInt64) 0 32 w13 (fun r16 w17 => ((r16 = 0 → E4 2 self w17) ∧ (¬ r16 = 0 → vc_X7_in (a4.toInt64) (a3.toInt64) 32 w17 (fun r21 w22 => ((r21 = 0 → E4 2 self w22) ∧ (¬ r21 = 0 → E4 0 self w22))))))) ∧ (r12 = 0 → E4 1 self w13)))))) (fun (y0_50 : Int32) (y1_50 : Nat) (w_50 : sj_W) => sj_T w_50 y1_50 = 6 ∧ vc_X7_fails y1_50 y0_50 w_50 (fun r27 w28 => ((r27 = 0 → sj_T w28 self = 6 ∧ sj_A w28 42 self ≠ 0 ∧ sj_T w28 (sj_A w28 42 self) = 7 ∧ vp_in a1 (sj_N w28 (sj_A w28 42 self)) ∧ ∀ w31 : sj_W, w31 = sj_si w28 (sj_A w28 42 self) a1.toNatClampNeg a2 → sj_T w31 self = 6 ∧ sj_A w31 43 self ≠ 0 ∧ sj_T w31 (sj_A w31 43 self) = 7 ∧ vp_in a1 (sj_N w31 (sj_A w31 43 self)) ∧ ∀ w33 : sj_W, w33 = sj_si w31 (sj_A w31 43 self) a1.toNatClampNeg a3 → sj_T w33 self = 6 ∧ sj_A w33 44 self ≠ 0 ∧ sj_T w33 (sj_A w33 44 self) = 7 ∧ vp_in a1 (sj_N w33 (sj_A w33 44 self)) ∧ ∀ w35 : sj_W, w35 = sj_si w33 (sj_A w33 44 self) a1.toNatClampNeg a4 → Q (a4 - a3) w35) ∧ (¬ r27 = 0 → Q 0 w28)))))
set_option maxHeartbeats 4000000 in
set_option maxRecDepth 100000 in
theorem wk_X7_span (G : sj_G) (l : Launch) (hlt : l.stackTraces = false) (self : Nat) (a1 : Int32) (a2 : Int32) (a3 : Int32) (a4 : Int32) (w : sj_W) (Q : Int32 → sj_W → Prop) (QX : String → sj_W → Prop) (hv : vc_X7_span self a1 a2 a3 a4 w Q) : sj_MI G l yX7_span (sj_ws yX7_span cX7_span 5 (some .int)) rm_X7_span [.ref self, .int a1, .int a2, .int a3, .int a4] w Q QX := by
  refine sj_of (by decide +kernel) (Nat.le_of_ble_eq_true rfl) hlt ?_
  intro p e s m args below meth c ls hC hD hr hin hH hl
  have hx := hC.1
  have hb := hC.2.1
  have hl : lv_has ls 5 [(0, .ref self), (1, .int a1), (2, .int a2), (3, .int a3), (4, .int a4)] := hl
  refine lv_aload_n hx hb dX7_span_0 rfl (lv_at hl 0 rfl) ?_
  refine lv_iload_n hx hb dX7_span_1 rfl (lv_at hl 1 rfl) ?_
  refine cl_X7_105 hC hD hH hv ⟨Nat.le_of_ble_eq_true rfl, Nat.le_of_ble_eq_true rfl⟩ ⟨(Nat.le_of_ble_eq_true rfl), (Nat.le_of_ble_eq_true rfl)⟩ ⟨(Nat.le_of_ble_eq_true rfl), (Nat.le_of_ble_eq_true rfl)⟩ hl.1 (Nat.le_of_ble_eq_true rfl) dX7_span_2 (fun r1 w2 H locs hH hv3 => ?_)
  obtain ⟨E4, hE5, hv8⟩ := sj_jn2_e hv3
  have hJ6 : ∀ (y0_50 : Int32) (y1_50 : Nat) (w_50 : sj_W) (H : Heap) (locs : List Loc) (ls : Array Slot), lv_has ls 5 [(0, .ref self), (1, .int a1), (2, .int a2), (3, .int a3), (4, .int a4)] → sj_H G s w_50 H locs → E4 y0_50 y1_50 w_50 → W p l e rm_X7_span s m args below meth c H locs 0 0 (sj_MQ G below (va_Qi Q (sj_B G) (sj_F G)) QX args s rm_X7_span) (F0 m 50 ls [.int y0_50, .ref y1_50]) := by
    intro y0_50 y1_50 w_50 H locs ls hl hH hv9
    rw [hE5] at hv9
    refine cl_X7_73 hC hD hH hv9.2 hv9.1 ⟨Nat.le_of_ble_eq_true rfl, Nat.le_of_ble_eq_true rfl⟩ ⟨(Nat.le_of_ble_eq_true rfl), (Nat.le_of_ble_eq_true rfl)⟩ ⟨(Nat.le_of_ble_eq_true rfl), (Nat.le_of_ble_eq_true rfl)⟩ hl.1 (Nat.le_of_ble_eq_true rfl) dX7_span_50 (fun r27 w28 H locs hH hv29 => ?_)
    refine lv_if_eq (tgt := 58) hx hb dX7_span_53 (by decide) (fun hc => ?_) (fun hc => ?_)
    · have hv30 := hv29.1 hc
      refine lv_aload_n hx hb dX7_span_58 rfl (lv_at hl 0 rfl) ?_
      refine gf_X7_17 hC hH hv30.1 hv30.2.1 dX7_span_59 ?_
      refine lv_iload_n hx hb dX7_span_62 rfl (lv_at hl 1 rfl) ?_
      refine lv_iload_n hx hb dX7_span_63 rfl (lv_at hl 2 rfl) ?_
      refine sj_iast hC hH hv30.2.2.1 hv30.2.2.2.1 dX7_span_64 (fun w31 H locs e32 hH => ?_)
      refine lv_aload_n hx hb dX7_span_65 rfl (lv_at hl 0 rfl) ?_
      refine gf_X7_20 hC hH (hv30.2.2.2.2 w31 e32).1 (hv30.2.2.2.2 w31 e32).2.1 dX7_span_66 ?_
      refine lv_iload_n hx hb dX7_span_69 rfl (lv_at hl 1 rfl) ?_
      refine lv_iload_n hx hb dX7_span_70 rfl (lv_at hl 3 rfl) ?_
      refine sj_iast hC hH (hv30.2.2.2.2 w31 e32).2.2.1 (hv30.2.2.2.2 w31 e32).2.2.2.1 dX7_span_71 (fun w33 H locs e34 hH => ?_)
      refine lv_aload_n hx hb dX7_span_72 rfl (lv_at hl 0 rfl) ?_
      refine gf_X7_23 hC hH ((hv30.2.2.2.2 w31 e32).2.2.2.2 w33 e34).1 ((hv30.2.2.2.2 w31 e32).2.2.2.2 w33 e34).2.1 dX7_span_73 ?_
      refine lv_iload_n hx hb dX7_span_76 rfl (lv_at hl 1 rfl) ?_
      refine lv_iload hx hb dX7_span_77 (lv_at hl 4 rfl) ?_
      refine sj_iast hC hH ((hv30.2.2.2.2 w31 e32).2.2.2.2 w33 e34).2.2.1 ((hv30.2.2.2.2 w31 e32).2.2.2.2 w33 e34).2.2.2.1 dX7_span_79 (fun w35 H locs e36 hH => ?_)
      refine lv_iload hx hb dX7_span_80 (lv_at hl 4 rfl) ?_
      refine lv_iload_n hx hb dX7_span_82 rfl (lv_at hl 3 rfl) ?_
      refine lv_isub hx hb dX7_span_83 ?_
      exact sj_retI hC hD.2 hH hr rfl (((hv30.2.2.2.2 w31 e32).2.2.2.2 w33 e34).2.2.2.2 w35 e36) ⟨(Nat.le_of_ble_eq_true rfl), (Nat.le_of_ble_eq_true rfl)⟩ dX7_span_84
    · have hv37 := hv29.2 hc
      refine lv_iconst (v := 0) hx hb dX7_span_56 (by decide) ?_
      exact sj_retI hC hD.2 hH hr rfl hv37 ⟨(Nat.le_of_ble_eq_true rfl), (Nat.le_of_ble_eq_true rfl)⟩ dX7_span_57
  clear hE5
  refine lv_if_eq (tgt := 15) hx hb dX7_span_5 (by decide) (fun hc => ?_) (fun hc => ?_)
  · have hv10 := hv8.1 hc
    refine lv_iconst (v := 1) hx hb dX7_span_15 (by decide) ?_
    refine lv_goto (tgt := 50) hx hb dX7_span_16 (by decide) ?_
    exact hJ6 1 self w2 _ _ _ (lv_sub hl [0, 1, 2, 3, 4] rfl) hH hv10
  · have hv11 := hv8.2 hc
    refine lv_iload_n hx hb dX7_span_8 rfl (lv_at hl 2 rfl) ?_
    refine cl_X7_61 hC hD hH hv11 ⟨Nat.le_of_ble_eq_true rfl, Nat.le_of_ble_eq_true rfl⟩ ⟨(Nat.le_of_ble_eq_true rfl), (Nat.le_of_ble_eq_true rfl)⟩ ⟨(Nat.le_of_ble_eq_true rfl), (Nat.le_of_ble_eq_true rfl)⟩ hl.1 (Nat.le_of_ble_eq_true rfl) dX7_span_9 (fun r12 w13 H locs hH hv14 => ?_)
    refine lv_if_ne (tgt := 19) hx hb dX7_span_12 (by decide) (fun hc => ?_) (fun hc => ?_)
    · have hv15 := hv14.1 hc
      refine lv_iload_n hx hb dX7_span_19 rfl (lv_at hl 3 rfl) ?_
      refine lv_i2l hx hb dX7_span_20 rfl ?_
      refine lv_lconst (v := 0) hx hb dX7_span_21 (by decide) ?_
      refine lv_ldc2 (v := 32) hx hb hC.2.2.2.1 (hC.2.2.2.2.1 _ mb_834) dX7_span_22 ?_
      refine cl_X7_39 hC hD hH hv15 ⟨Nat.le_of_ble_eq_true rfl, Nat.le_of_ble_eq_true rfl⟩ ⟨(Nat.le_of_ble_eq_true rfl), (Nat.le_of_ble_eq_true rfl)⟩ ⟨(Nat.le_of_ble_eq_true rfl), (Nat.le_of_ble_eq_true rfl)⟩ hl.1 (Nat.le_of_ble_eq_true rfl) dX7_span_25 (fun r16 w17 H locs hH hv18 => ?_)
      refine lv_if_eq (tgt := 49) hx hb dX7_span_28 (by decide) (fun hc => ?_) (fun hc => ?_)
      · have hv19 := hv18.1 hc
        refine lv_iconst (v := 2) hx hb dX7_span_49 (by decide) ?_
        exact hJ6 2 self w17 _ _ _ (lv_sub hl [0, 1, 2, 3, 4] rfl) hH hv19
      · have hv20 := hv18.2 hc
        refine lv_iload hx hb dX7_span_31 (lv_at hl 4 rfl) ?_
        refine lv_i2l hx hb dX7_span_33 rfl ?_
        refine lv_iload_n hx hb dX7_span_34 rfl (lv_at hl 3 rfl) ?_
        refine lv_i2l hx hb dX7_span_35 rfl ?_
        refine lv_ldc2 (v := 32) hx hb hC.2.2.2.1 (hC.2.2.2.2.1 _ mb_834) dX7_span_36 ?_
        refine cl_X7_39 hC hD hH hv20 ⟨Nat.le_of_ble_eq_true rfl, Nat.le_of_ble_eq_true rfl⟩ ⟨(Nat.le_of_ble_eq_true rfl), (Nat.le_of_ble_eq_true rfl)⟩ ⟨(Nat.le_of_ble_eq_true rfl), (Nat.le_of_ble_eq_true rfl)⟩ hl.1 (Nat.le_of_ble_eq_true rfl) dX7_span_39 (fun r21 w22 H locs hH hv23 => ?_)
        refine lv_if_eq (tgt := 49) hx hb dX7_span_42 (by decide) (fun hc => ?_) (fun hc => ?_)
        · have hv24 := hv23.1 hc
          refine lv_iconst (v := 2) hx hb dX7_span_49 (by decide) ?_
          exact hJ6 2 self w22 _ _ _ (lv_sub hl [0, 1, 2, 3, 4] rfl) hH hv24
        · have hv25 := hv23.2 hc
          refine lv_iconst (v := 0) hx hb dX7_span_45 (by decide) ?_
          refine lv_goto (tgt := 50) hx hb dX7_span_46 (by decide) ?_
          exact hJ6 0 self w22 _ _ _ (lv_sub hl [0, 1, 2, 3, 4] rfl) hH hv25
    · have hv26 := hv14.2 hc
      refine lv_iconst (v := 1) hx hb dX7_span_15 (by decide) ?_
      refine lv_goto (tgt := 50) hx hb dX7_span_16 (by decide) ?_
      exact hJ6 1 self w13 _ _ _ (lv_sub hl [0, 1, 2, 3, 4] rfl) hH hv26
section SJL_X7_span
variable {p : Program} {l : Launch} {e : Env} {R : Room} {s : State} {m : MethodId} {args : Array Value} {below : List Frame} {meth : Method} {c : Code} {H : Heap} {locs : List Loc} {cells slots : Nat} {Q : State → Prop} {cc : ByteArray} {pc : Nat} {ls : Array Slot} {rest : List Value} {G : sj_G} {nL : Nat} {w : sj_W}
theorem cg_L_182 {b : Nat} {b0 : Int32} {b1 : Int32} {b2 : Int32} {b3 : Int32} {Qi : Int32 → sj_W → Prop} (hC : sj_C G p l s m args c cc RL nL) (hH : sj_H G s w H locs) (hv : vc_X7_span b b0 b1 b2 b3 w Qi) (hT : sj_T w b = 6) (hR : rm_X7_span.frames + 1 ≤ R.frames ∧ 8 + (5 + 11) + rm_X7_span.locals ≤ R.locals) (hf : cells + 0 ≤ R.cells ∧ slots + 0 ≤ R.slots) (hls : ls.size = nL) (hW : (rest.map fun v => v.category).sum ≤ 8) (hdg : decode cc pc = .ok (.invokevirtual 182, 3)) (kk : ∀ (r : Int32) (w1 : sj_W) (H : Heap) (locs : List Loc), sj_H G s w1 H locs → Qi r w1 → W p l e R s m args below meth c H locs (cells + 0) (slots + 0) Q (F0 m (pc + 3) ls (.int r :: rest))) : W p l e R s m args below meth c H locs cells slots Q (F0 m pc ls (.int b3 :: .int b2 :: .int b1 :: .int b0 :: .ref b :: rest)) :=
  sj_xI hH (sj_runV (n := 4) hC hH (As := [.int b0, .int b1, .int b2, .int b3]) (wk_X7_span G l hC.2.2.2.2.2.2 b b0 b1 b2 b3 w Qi (fun _ _ => False) hv) (ci := 5) rfl (by decide) hT mb_826 mb_827 mb_828 mb_5 mb_829 (by decide +kernel) hR hf rfl hls hW hdg) (fun _ _ _ _ _ _ _ h _ _ _ => h.elim) kk
end SJL_X7_span
abbrev rm_X7_tells : Room := { frames := 2, cells := 0, slots := 0, locals := 45 }
def vc_X7_tells (self : Nat) (a1 : Int32) (a2 : Int32) (w : sj_W) (Q : Int32 → sj_W → Prop) : Prop := vc_X7_isSpan a1 w (fun r1 w2 => sj_jn2 (fun (E4 : Int32 → Nat → sj_W → Prop) => ((¬ r1 = 0 → ((a2 = 114 → E4 0 self w2) ∧ (¬ a2 = 114 → ((a2 = 102 → E4 0 self w2) ∧ (¬ a2 = 102 → ((¬ a2 = 116 → E4 2 self w2) ∧ (a2 = 116 → E4 0 self w2))))))) ∧ (r1 = 0 → E4 1 self w2))) (fun (y0_35 : Int32) (y1_35 : Nat) (w_35 : sj_W) => sj_T w_35 y1_35 = 6 ∧ vc_X7_fails y1_35 y0_35 w_35 (fun r18 w19 => ((r18 = 0 → ((¬ a2 = 114 → ((¬ a2 = 102 → sj_T w19 self = 6 ∧ sj_A w19 44 self ≠ 0 ∧ sj_T w19 (sj_A w19 44 self) = 7 ∧ vp_in a1 (sj_N w19 (sj_A w19 44 self)) ∧ Q (sj_i w19 (sj_A w19 44 self) a1.toNatClampNeg) w19) ∧ (a2 = 102 → sj_T w19 self = 6 ∧ sj_A w19 43 self ≠ 0 ∧ sj_T w19 (sj_A w19 43 self) = 7 ∧ vp_in a1 (sj_N w19 (sj_A w19 43 self)) ∧ Q (sj_i w19 (sj_A w19 43 self) a1.toNatClampNeg) w19))) ∧ (a2 = 114 → sj_T w19 self = 6 ∧ sj_A w19 42 self ≠ 0 ∧ sj_T w19 (sj_A w19 42 self) = 7 ∧ vp_in a1 (sj_N w19 (sj_A w19 42 self)) ∧ Q (sj_i w19 (sj_A w19 42 self) a1.toNatClampNeg) w19))) ∧ (¬ r18 = 0 → Q 0 w19)))))
set_option maxHeartbeats 4000000 in
set_option maxRecDepth 100000 in
theorem wk_X7_tells (G : sj_G) (l : Launch) (hlt : l.stackTraces = false) (self : Nat) (a1 : Int32) (a2 : Int32) (w : sj_W) (Q : Int32 → sj_W → Prop) (QX : String → sj_W → Prop) (hv : vc_X7_tells self a1 a2 w Q) : sj_MI G l yX7_tells (sj_ws yX7_tells cX7_tells 3 (some .int)) rm_X7_tells [.ref self, .int a1, .int a2] w Q QX := by
  refine sj_of (by decide +kernel) (Nat.le_of_ble_eq_true rfl) hlt ?_
  intro p e s m args below meth c ls hC hD hr hin hH hl
  have hx := hC.1
  have hb := hC.2.1
  have hl : lv_has ls 3 [(0, .ref self), (1, .int a1), (2, .int a2)] := hl
  refine lv_aload_n hx hb dX7_tells_0 rfl (lv_at hl 0 rfl) ?_
  refine lv_iload_n hx hb dX7_tells_1 rfl (lv_at hl 1 rfl) ?_
  refine cl_X7_105 hC hD hH hv ⟨Nat.le_of_ble_eq_true rfl, Nat.le_of_ble_eq_true rfl⟩ ⟨(Nat.le_of_ble_eq_true rfl), (Nat.le_of_ble_eq_true rfl)⟩ ⟨(Nat.le_of_ble_eq_true rfl), (Nat.le_of_ble_eq_true rfl)⟩ hl.1 (Nat.le_of_ble_eq_true rfl) dX7_tells_2 (fun r1 w2 H locs hH hv3 => ?_)
  obtain ⟨E4, hE5, hv8⟩ := sj_jn2_e hv3
  have hJ6 : ∀ (y0_35 : Int32) (y1_35 : Nat) (w_35 : sj_W) (H : Heap) (locs : List Loc) (ls : Array Slot), lv_has ls 3 [(0, .ref self), (1, .int a1), (2, .int a2)] → sj_H G s w_35 H locs → E4 y0_35 y1_35 w_35 → W p l e rm_X7_tells s m args below meth c H locs 0 0 (sj_MQ G below (va_Qi Q (sj_B G) (sj_F G)) QX args s rm_X7_tells) (F0 m 35 ls [.int y0_35, .ref y1_35]) := by
    intro y0_35 y1_35 w_35 H locs ls hl hH hv9
    rw [hE5] at hv9
    refine cl_X7_73 hC hD hH hv9.2 hv9.1 ⟨Nat.le_of_ble_eq_true rfl, Nat.le_of_ble_eq_true rfl⟩ ⟨(Nat.le_of_ble_eq_true rfl), (Nat.le_of_ble_eq_true rfl)⟩ ⟨(Nat.le_of_ble_eq_true rfl), (Nat.le_of_ble_eq_true rfl)⟩ hl.1 (Nat.le_of_ble_eq_true rfl) dX7_tells_35 (fun r18 w19 H locs hH hv20 => ?_)
    refine lv_if_eq (tgt := 43) hx hb dX7_tells_38 (by decide) (fun hc => ?_) (fun hc => ?_)
    · have hv21 := hv20.1 hc
      refine lv_iload_n hx hb dX7_tells_43 rfl (lv_at hl 2 rfl) ?_
      refine lv_bipush (v := 114) hx hb dX7_tells_44 (by decide) ?_
      refine lv_icmp_ne (tgt := 58) hx hb dX7_tells_46 (by decide) (fun hc => ?_) (fun hc => ?_)
      · have hv22 := hv21.1 hc
        refine lv_iload_n hx hb dX7_tells_58 rfl (lv_at hl 2 rfl) ?_
        refine lv_bipush (v := 102) hx hb dX7_tells_59 (by decide) ?_
        refine lv_icmp_ne (tgt := 73) hx hb dX7_tells_61 (by decide) (fun hc => ?_) (fun hc => ?_)
        · have hv23 := hv22.1 hc
          refine lv_aload_n hx hb dX7_tells_73 rfl (lv_at hl 0 rfl) ?_
          refine gf_X7_23 hC hH hv23.1 hv23.2.1 dX7_tells_74 ?_
          refine lv_iload_n hx hb dX7_tells_77 rfl (lv_at hl 1 rfl) ?_
          refine sj_iald hC hH hv23.2.2.1 hv23.2.2.2.1 dX7_tells_78 ?_
          exact sj_retI hC hD.2 hH hr rfl hv23.2.2.2.2 ⟨(Nat.le_of_ble_eq_true rfl), (Nat.le_of_ble_eq_true rfl)⟩ dX7_tells_79
        · have hv24 := hv22.2 hc
          refine lv_aload_n hx hb dX7_tells_64 rfl (lv_at hl 0 rfl) ?_
          refine gf_X7_20 hC hH hv24.1 hv24.2.1 dX7_tells_65 ?_
          refine lv_iload_n hx hb dX7_tells_68 rfl (lv_at hl 1 rfl) ?_
          refine sj_iald hC hH hv24.2.2.1 hv24.2.2.2.1 dX7_tells_69 ?_
          refine lv_goto (tgt := 79) hx hb dX7_tells_70 (by decide) ?_
          exact sj_retI hC hD.2 hH hr rfl hv24.2.2.2.2 ⟨(Nat.le_of_ble_eq_true rfl), (Nat.le_of_ble_eq_true rfl)⟩ dX7_tells_79
      · have hv25 := hv21.2 hc
        refine lv_aload_n hx hb dX7_tells_49 rfl (lv_at hl 0 rfl) ?_
        refine gf_X7_17 hC hH hv25.1 hv25.2.1 dX7_tells_50 ?_
        refine lv_iload_n hx hb dX7_tells_53 rfl (lv_at hl 1 rfl) ?_
        refine sj_iald hC hH hv25.2.2.1 hv25.2.2.2.1 dX7_tells_54 ?_
        refine lv_goto (tgt := 79) hx hb dX7_tells_55 (by decide) ?_
        exact sj_retI hC hD.2 hH hr rfl hv25.2.2.2.2 ⟨(Nat.le_of_ble_eq_true rfl), (Nat.le_of_ble_eq_true rfl)⟩ dX7_tells_79
    · have hv26 := hv20.2 hc
      refine lv_iconst (v := 0) hx hb dX7_tells_41 (by decide) ?_
      exact sj_retI hC hD.2 hH hr rfl hv26 ⟨(Nat.le_of_ble_eq_true rfl), (Nat.le_of_ble_eq_true rfl)⟩ dX7_tells_42
  clear hE5
  refine lv_if_ne (tgt := 12) hx hb dX7_tells_5 (by decide) (fun hc => ?_) (fun hc => ?_)
  · have hv10 := hv8.1 hc
    refine lv_iload_n hx hb dX7_tells_12 rfl (lv_at hl 2 rfl) ?_
    refine lv_bipush (v := 114) hx hb dX7_tells_13 (by decide) ?_
    refine lv_icmp_eq (tgt := 30) hx hb dX7_tells_15 (by decide) (fun hc => ?_) (fun hc => ?_)
    · have hv11 := hv10.1 hc
      refine lv_iconst (v := 0) hx hb dX7_tells_30 (by decide) ?_
      refine lv_goto (tgt := 35) hx hb dX7_tells_31 (by decide) ?_
      exact hJ6 0 self w2 _ _ _ (lv_sub hl [0, 1, 2] rfl) hH hv11
    · have hv12 := hv10.2 hc
      refine lv_iload_n hx hb dX7_tells_18 rfl (lv_at hl 2 rfl) ?_
      refine lv_bipush (v := 102) hx hb dX7_tells_19 (by decide) ?_
      refine lv_icmp_eq (tgt := 30) hx hb dX7_tells_21 (by decide) (fun hc => ?_) (fun hc => ?_)
      · have hv13 := hv12.1 hc
        refine lv_iconst (v := 0) hx hb dX7_tells_30 (by decide) ?_
        refine lv_goto (tgt := 35) hx hb dX7_tells_31 (by decide) ?_
        exact hJ6 0 self w2 _ _ _ (lv_sub hl [0, 1, 2] rfl) hH hv13
      · have hv14 := hv12.2 hc
        refine lv_iload_n hx hb dX7_tells_24 rfl (lv_at hl 2 rfl) ?_
        refine lv_bipush (v := 116) hx hb dX7_tells_25 (by decide) ?_
        refine lv_icmp_ne (tgt := 34) hx hb dX7_tells_27 (by decide) (fun hc => ?_) (fun hc => ?_)
        · have hv15 := hv14.1 hc
          refine lv_iconst (v := 2) hx hb dX7_tells_34 (by decide) ?_
          exact hJ6 2 self w2 _ _ _ (lv_sub hl [0, 1, 2] rfl) hH hv15
        · have hv16 := hv14.2 hc
          refine lv_iconst (v := 0) hx hb dX7_tells_30 (by decide) ?_
          refine lv_goto (tgt := 35) hx hb dX7_tells_31 (by decide) ?_
          exact hJ6 0 self w2 _ _ _ (lv_sub hl [0, 1, 2] rfl) hH hv16
  · have hv17 := hv8.2 hc
    refine lv_iconst (v := 1) hx hb dX7_tells_8 (by decide) ?_
    refine lv_goto (tgt := 35) hx hb dX7_tells_9 (by decide) ?_
    exact hJ6 1 self w2 _ _ _ (lv_sub hl [0, 1, 2] rfl) hH hv17
section SJL_X7_tells
variable {p : Program} {l : Launch} {e : Env} {R : Room} {s : State} {m : MethodId} {args : Array Value} {below : List Frame} {meth : Method} {c : Code} {H : Heap} {locs : List Loc} {cells slots : Nat} {Q : State → Prop} {cc : ByteArray} {pc : Nat} {ls : Array Slot} {rest : List Value} {G : sj_G} {nL : Nat} {w : sj_W}
theorem cg_L_186 {b : Nat} {b0 : Int32} {b1 : Int32} {Qi : Int32 → sj_W → Prop} (hC : sj_C G p l s m args c cc RL nL) (hH : sj_H G s w H locs) (hv : vc_X7_tells b b0 b1 w Qi) (hT : sj_T w b = 6) (hR : rm_X7_tells.frames + 1 ≤ R.frames ∧ 8 + (3 + 11) + rm_X7_tells.locals ≤ R.locals) (hf : cells + 0 ≤ R.cells ∧ slots + 0 ≤ R.slots) (hls : ls.size = nL) (hW : (rest.map fun v => v.category).sum ≤ 8) (hdg : decode cc pc = .ok (.invokevirtual 186, 3)) (kk : ∀ (r : Int32) (w1 : sj_W) (H : Heap) (locs : List Loc), sj_H G s w1 H locs → Qi r w1 → W p l e R s m args below meth c H locs (cells + 0) (slots + 0) Q (F0 m (pc + 3) ls (.int r :: rest))) : W p l e R s m args below meth c H locs cells slots Q (F0 m pc ls (.int b1 :: .int b0 :: .ref b :: rest)) :=
  sj_xI hH (sj_runV (n := 2) hC hH (As := [.int b0, .int b1]) (wk_X7_tells G l hC.2.2.2.2.2.2 b b0 b1 w Qi (fun _ _ => False) hv) (ci := 5) rfl (by decide) hT mb_835 mb_836 mb_837 mb_5 mb_838 (by decide +kernel) hR hf rfl hls hW hdg) (fun _ _ _ _ _ _ _ h _ _ _ => h.elim) kk
end SJL_X7_tells
abbrev rm_X7_thrown : Room := { frames := 0, cells := 0, slots := 0, locals := 0 }
def vc_X7_thrown (self : Nat) (w : sj_W) (Q : Int32 → sj_W → Prop) : Prop := sj_T w self = 6 ∧ Q (sj_I w 47 self) w
set_option maxHeartbeats 4000000 in
set_option maxRecDepth 100000 in
theorem wk_X7_thrown (G : sj_G) (l : Launch) (hlt : l.stackTraces = false) (self : Nat) (w : sj_W) (Q : Int32 → sj_W → Prop) (QX : String → sj_W → Prop) (hv : vc_X7_thrown self w Q) : sj_MI G l yX7_thrown (sj_ws yX7_thrown cX7_thrown 1 (some .int)) rm_X7_thrown [.ref self] w Q QX := by
  refine sj_of (by decide +kernel) (Nat.le_of_ble_eq_true rfl) hlt ?_
  intro p e s m args below meth c ls hC hD hr hin hH hl
  have hx := hC.1
  have hb := hC.2.1
  have hl : lv_has ls 1 [(0, .ref self)] := hl
  refine lv_aload_n hx hb dX7_thrown_0 rfl (lv_at hl 0 rfl) ?_
  refine gf_X7_29 hC hH hv.1 dX7_thrown_1 ?_
  exact sj_retI hC hD.2 hH hr rfl hv.2 ⟨(Nat.le_of_ble_eq_true rfl), (Nat.le_of_ble_eq_true rfl)⟩ dX7_thrown_4
section SJL_X7_thrown
variable {p : Program} {l : Launch} {e : Env} {R : Room} {s : State} {m : MethodId} {args : Array Value} {below : List Frame} {meth : Method} {c : Code} {H : Heap} {locs : List Loc} {cells slots : Nat} {Q : State → Prop} {cc : ByteArray} {pc : Nat} {ls : Array Slot} {rest : List Value} {G : sj_G} {nL : Nat} {w : sj_W}
theorem cg_L_146 {b : Nat} {Qi : Int32 → sj_W → Prop} (hC : sj_C G p l s m args c cc RL nL) (hH : sj_H G s w H locs) (hv : vc_X7_thrown b w Qi) (hT : sj_T w b = 6) (hR : rm_X7_thrown.frames + 1 ≤ R.frames ∧ 8 + (1 + 11) + rm_X7_thrown.locals ≤ R.locals) (hf : cells + 0 ≤ R.cells ∧ slots + 0 ≤ R.slots) (hls : ls.size = nL) (hW : (rest.map fun v => v.category).sum ≤ 8) (hdg : decode cc pc = .ok (.invokevirtual 146, 3)) (kk : ∀ (r : Int32) (w1 : sj_W) (H : Heap) (locs : List Loc), sj_H G s w1 H locs → Qi r w1 → W p l e R s m args below meth c H locs (cells + 0) (slots + 0) Q (F0 m (pc + 3) ls (.int r :: rest))) : W p l e R s m args below meth c H locs cells slots Q (F0 m pc ls (.ref b :: rest)) :=
  sj_xI hH (sj_runV (n := 0) hC hH (As := []) (wk_X7_thrown G l hC.2.2.2.2.2.2 b w Qi (fun _ _ => False) hv) (ci := 5) rfl (by decide) hT mb_735 mb_736 mb_737 mb_5 mb_738 (by decide +kernel) hR hf rfl hls hW hdg) (fun _ _ _ _ _ _ _ h _ _ _ => h.elim) kk
end SJL_X7_thrown

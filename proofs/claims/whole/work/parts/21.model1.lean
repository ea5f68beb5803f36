abbrev rm_X7_kindOf : Room := { frames := 0, cells := 0, slots := 0, locals := 0 }
def vc_X7_kindOf (a1 : Int32) (w : sj_W) (Q : Int32 → sj_W → Prop) : Prop := ((¬ a1 = 98 → ((¬ a1 = 115 → ((¬ a1 = 105 → ((¬ a1 = 108 → Q (-1) w) ∧ (a1 = 108 → Q 3 w))) ∧ (a1 = 105 → Q 2 w))) ∧ (a1 = 115 → Q 1 w))) ∧ (a1 = 98 → Q 0 w))
set_option maxHeartbeats 4000000 in
set_option maxRecDepth 100000 in
theorem wk_X7_kindOf (G : sj_G) (l : Launch) (hlt : l.stackTraces = false) (a1 : Int32) (w : sj_W) (Q : Int32 → sj_W → Prop) (QX : String → sj_W → Prop) (hv : vc_X7_kindOf a1 w Q) : sj_MI G l yX7_kindOf (sj_ws yX7_kindOf cX7_kindOf 1 (some .int)) rm_X7_kindOf [.int a1] w Q QX := by
  refine sj_of (by decide +kernel) (Nat.le_of_ble_eq_true rfl) hlt ?_
  intro p e s m args below meth c ls hC hD hr hin hH hl
  have hx := hC.1
  have hb := hC.2.1
  have hl : lv_has ls 1 [(0, .int a1)] := hl
  refine lv_iload_n hx hb dX7_kindOf_0 rfl (lv_at hl 0 rfl) ?_
  refine lv_bipush (v := 98) hx hb dX7_kindOf_1 (by decide) ?_
  refine lv_icmp_ne (tgt := 10) hx hb dX7_kindOf_3 (by decide) (fun hc => ?_) (fun hc => ?_)
  · have hv1 := hv.1 hc
    refine lv_iload_n hx hb dX7_kindOf_10 rfl (lv_at hl 0 rfl) ?_
    refine lv_bipush (v := 115) hx hb dX7_kindOf_11 (by decide) ?_
    refine lv_icmp_ne (tgt := 20) hx hb dX7_kindOf_13 (by decide) (fun hc => ?_) (fun hc => ?_)
    · have hv2 := hv1.1 hc
      refine lv_iload_n hx hb dX7_kindOf_20 rfl (lv_at hl 0 rfl) ?_
      refine lv_bipush (v := 105) hx hb dX7_kindOf_21 (by decide) ?_
      refine lv_icmp_ne (tgt := 30) hx hb dX7_kindOf_23 (by decide) (fun hc => ?_) (fun hc => ?_)
      · have hv3 := hv2.1 hc
        refine lv_iload_n hx hb dX7_kindOf_30 rfl (lv_at hl 0 rfl) ?_
        refine lv_bipush (v := 108) hx hb dX7_kindOf_31 (by decide) ?_
        refine lv_icmp_ne (tgt := 40) hx hb dX7_kindOf_33 (by decide) (fun hc => ?_) (fun hc => ?_)
        · have hv4 := hv3.1 hc
          refine lv_iconst (v := (-1)) hx hb dX7_kindOf_40 (by decide) ?_
          exact sj_retI hC hD.2 hH hr rfl hv4 ⟨(Nat.le_of_ble_eq_true rfl), (Nat.le_of_ble_eq_true rfl)⟩ dX7_kindOf_41
        · have hv5 := hv3.2 hc
          refine lv_iconst (v := 3) hx hb dX7_kindOf_36 (by decide) ?_
          refine lv_goto (tgt := 41) hx hb dX7_kindOf_37 (by decide) ?_
          exact sj_retI hC hD.2 hH hr rfl hv5 ⟨(Nat.le_of_ble_eq_true rfl), (Nat.le_of_ble_eq_true rfl)⟩ dX7_kindOf_41
      · have hv6 := hv2.2 hc
        refine lv_iconst (v := 2) hx hb dX7_kindOf_26 (by decide) ?_
        refine lv_goto (tgt := 41) hx hb dX7_kindOf_27 (by decide) ?_
        exact sj_retI hC hD.2 hH hr rfl hv6 ⟨(Nat.le_of_ble_eq_true rfl), (Nat.le_of_ble_eq_true rfl)⟩ dX7_kindOf_41
    · have hv7 := hv1.2 hc
      refine lv_iconst (v := 1) hx hb dX7_kindOf_16 (by decide) ?_
      refine lv_goto (tgt := 41) hx hb dX7_kindOf_17 (by decide) ?_
      exact sj_retI hC hD.2 hH hr rfl hv7 ⟨(Nat.le_of_ble_eq_true rfl), (Nat.le_of_ble_eq_true rfl)⟩ dX7_kindOf_41
  · have hv8 := hv.2 hc
    refine lv_iconst (v := 0) hx hb dX7_kindOf_6 (by decide) ?_
    refine lv_goto (tgt := 41) hx hb dX7_kindOf_7 (by decide) ?_
    exact sj_retI hC hD.2 hH hr rfl hv8 ⟨(Nat.le_of_ble_eq_true rfl), (Nat.le_of_ble_eq_true rfl)⟩ dX7_kindOf_41
section SJL_X7_kindOf
variable {p : Program} {l : Launch} {e : Env} {R : Room} {s : State} {m : MethodId} {args : Array Value} {below : List Frame} {meth : Method} {c : Code} {H : Heap} {locs : List Loc} {cells slots : Nat} {Q : State → Prop} {cc : ByteArray} {pc : Nat} {ls : Array Slot} {rest : List Value} {G : sj_G} {nL : Nat} {w : sj_W}
theorem cl_X7_33 {rmM : Room} {QcM : Array Value → State → Outcome → State → Prop} {QX : String → sj_W → Prop} {b0 : Int32} {Qi : Int32 → sj_W → Prop} (hC : sj_C G p l s m args c cc RX7 nL) (hD : sj_D meth c) (hH : sj_H G s w H locs) (hv : vc_X7_kindOf b0 w Qi) (hR : rm_X7_kindOf.frames + 1 ≤ R.frames ∧ 8 + (1 + 11) + rm_X7_kindOf.locals ≤ R.locals) (hf : cells + 0 ≤ R.cells ∧ slots + 0 ≤ R.slots) (hfM : cells + 0 ≤ rmM.cells ∧ slots + 0 ≤ rmM.slots) (hls : ls.size = nL) (hW : (rest.map fun v => v.category).sum ≤ 8) (hdg : decode cc pc = .ok (.invokestatic 33, 3)) (kk : ∀ (r : Int32) (w1 : sj_W) (H : Heap) (locs : List Loc), sj_H G s w1 H locs → Qi r w1 → W p l e R s m args below meth c H locs (cells + 0) (slots + 0) (sj_MQ G below QcM QX args s rmM) (F0 m (pc + 3) ls (.int r :: rest))) : W p l e R s m args below meth c H locs cells slots (sj_MQ G below QcM QX args s rmM) (F0 m pc ls (.int b0 :: rest)) :=
  sj_cI hD hH (sj_runS (n := 1) hC hH (As := [.int b0]) (wk_X7_kindOf G l hC.2.2.2.2.2.2 b0 w Qi QX hv) mb_746 mb_747 mb_5 mb_748 (by decide +kernel) hR hf rfl hls hW hdg) hfM kk
end SJL_X7_kindOf
abbrev rm_X7_at : Room := { frames := 1, cells := 0, slots := 0, locals := 20 }
def vc_X7_at (self : Nat) (a1 : Int32) (a2 : Int32) (a3 : Int32) (w : sj_W) (Q : Int32 → sj_W → Prop) : Prop := vc_X7_kindOf a1 w (fun r1 w2 => Q ((32 * ((4 * r1) + a2)) + a3) w2)
set_option maxHeartbeats 4000000 in
set_option maxRecDepth 100000 in
theorem wk_X7_at (G : sj_G) (l : Launch) (hlt : l.stackTraces = false) (self : Nat) (a1 : Int32) (a2 : Int32) (a3 : Int32) (w : sj_W) (Q : Int32 → sj_W → Prop) (QX : String → sj_W → Prop) (hv : vc_X7_at self a1 a2 a3 w Q) : sj_MI G l yX7_at (sj_ws yX7_at cX7_at 4 (some .int)) rm_X7_at [.ref self, .int a1, .int a2, .int a3] w Q QX := by
  refine sj_of (by decide +kernel) (Nat.le_of_ble_eq_true rfl) hlt ?_
  intro p e s m args below meth c ls hC hD hr hin hH hl
  have hx := hC.1
  have hb := hC.2.1
  have hl : lv_has ls 4 [(0, .ref self), (1, .int a1), (2, .int a2), (3, .int a3)] := hl
  refine lv_bipush (v := 32) hx hb dX7_at_0 (by decide) ?_
  refine lv_iconst (v := 4) hx hb dX7_at_2 (by decide) ?_
  refine lv_iload_n hx hb dX7_at_3 rfl (lv_at hl 1 rfl) ?_
  refine cl_X7_33 hC hD hH hv ⟨Nat.le_of_ble_eq_true rfl, Nat.le_of_ble_eq_true rfl⟩ ⟨(Nat.le_of_ble_eq_true rfl), (Nat.le_of_ble_eq_true rfl)⟩ ⟨(Nat.le_of_ble_eq_true rfl), (Nat.le_of_ble_eq_true rfl)⟩ hl.1 (Nat.le_of_ble_eq_true rfl) dX7_at_4 (fun r1 w2 H locs hH hv3 => ?_)
  refine lv_imul hx hb dX7_at_7 ?_
  refine lv_iload_n hx hb dX7_at_8 rfl (lv_at hl 2 rfl) ?_
  refine lv_iadd hx hb dX7_at_9 ?_
  refine lv_imul hx hb dX7_at_10 ?_
  refine lv_iload_n hx hb dX7_at_11 rfl (lv_at hl 3 rfl) ?_
  refine lv_iadd hx hb dX7_at_12 ?_
  exact sj_retI hC hD.2 hH hr rfl hv3 ⟨(Nat.le_of_ble_eq_true rfl), (Nat.le_of_ble_eq_true rfl)⟩ dX7_at_13
section SJL_X7_at
variable {p : Program} {l : Launch} {e : Env} {R : Room} {s : State} {m : MethodId} {args : Array Value} {below : List Frame} {meth : Method} {c : Code} {H : Heap} {locs : List Loc} {cells slots : Nat} {Q : State → Prop} {cc : ByteArray} {pc : Nat} {ls : Array Slot} {rest : List Value} {G : sj_G} {nL : Nat} {w : sj_W}
theorem cl_X7_76 {rmM : Room} {QcM : Array Value → State → Outcome → State → Prop} {QX : String → sj_W → Prop} {b : Nat} {b0 : Int32} {b1 : Int32} {b2 : Int32} {Qi : Int32 → sj_W → Prop} (hC : sj_C G p l s m args c cc RX7 nL) (hD : sj_D meth c) (hH : sj_H G s w H locs) (hv : vc_X7_at b b0 b1 b2 w Qi) (hT : sj_T w b = 6) (hR : rm_X7_at.frames + 1 ≤ R.frames ∧ 8 + (4 + 11) + rm_X7_at.locals ≤ R.locals) (hf : cells + 0 ≤ R.cells ∧ slots + 0 ≤ R.slots) (hfM : cells + 0 ≤ rmM.cells ∧ slots + 0 ≤ rmM.slots) (hls : ls.size = nL) (hW : (rest.map fun v => v.category).sum ≤ 8) (hdg : decode cc pc = .ok (.invokevirtual 76, 3)) (kk : ∀ (r : Int32) (w1 : sj_W) (H : Heap) (locs : List Loc), sj_H G s w1 H locs → Qi r w1 → W p l e R s m args below meth c H locs (cells + 0) (slots + 0) (sj_MQ G below QcM QX args s rmM) (F0 m (pc + 3) ls (.int r :: rest))) : W p l e R s m args below meth c H locs cells slots (sj_MQ G below QcM QX args s rmM) (F0 m pc ls (.int b2 :: .int b1 :: .int b0 :: .ref b :: rest)) :=
  sj_cI hD hH (sj_runV (n := 3) hC hH (As := [.int b0, .int b1, .int b2]) (wk_X7_at G l hC.2.2.2.2.2.2 b b0 b1 b2 w Qi QX hv) (ci := 5) rfl (by decide) hT mb_773 mb_775 mb_s28 mb_5 mb_776 (by decide +kernel) hR hf rfl hls hW hdg) hfM kk
end SJL_X7_at
abbrev rm_X7_alike : Room := { frames := 2, cells := 0, slots := 0, locals := 43 }
def vb_X7_alike_3 (f0 : Nat) (f1 : Int32) (f2 : Int32) (f3 : Int32) (f4 : Int32) (f5 : Int32) (f6 : Int32) (f7 : Int32) (Q : Int32 → sj_W → Prop) (E : Int32 → sj_W → Prop) (K : Int32 → sj_W → Prop) (v8 : Int32) (w : sj_W) : Prop := ((f4 ≤ v8 → E v8 w) ∧ (¬ f4 ≤ v8 → ((f7 ≤ v8 → E v8 w) ∧ (¬ f7 ≤ v8 → sj_T w f0 = 6 ∧ sj_A w 40 f0 ≠ 0 ∧ sj_T w f0 = 6 ∧ vc_X7_at f0 f1 f2 (f3 + v8) w (fun r5 w6 => sj_T w6 (sj_A w 40 f0) = 8 ∧ vp_in r5 (sj_N w6 (sj_A w 40 f0)) ∧ sj_T w6 f0 = 6 ∧ sj_A w6 40 f0 ≠ 0 ∧ sj_T w6 f0 = 6 ∧ vc_X7_at f0 f1 f5 (f6 + v8) w6 (fun r8 w9 => sj_T w9 (sj_A w6 40 f0) = 8 ∧ vp_in r8 (sj_N w9 (sj_A w6 40 f0)) ∧ ((¬ (lg_cmp (sj_l w6 (sj_A w 40 f0) r5.toNatClampNeg) (sj_l w9 (sj_A w6 40 f0) r8.toNatClampNeg)) = 0 → E v8 w9) ∧ ((lg_cmp (sj_l w6 (sj_A w 40 f0) r5.toNatClampNeg) (sj_l w9 (sj_A w6 40 f0) r8.toNatClampNeg)) = 0 → K (v8 + 1) w9))))))))
def vc_X7_alike (self : Nat) (a1 : Int32) (a2 : Int32) (a3 : Int32) (a4 : Int32) (a5 : Int32) (a6 : Int32) (a7 : Int32) (w : sj_W) (Q : Int32 → sj_W → Prop) : Prop := sj_lp1 (vb_X7_alike_3 self a1 a2 a3 a4 a5 a6 a7 Q (fun z8_3 w_3 => Q z8_3 w_3)) 64 0 w
set_option maxHeartbeats 4000000 in
set_option maxRecDepth 100000 in
theorem wl_X7_alike_3 {p : Program} {l : Launch} {e : Env} {s : State} {m : MethodId} {args : Array Value} {below : List Frame} {meth : Method} {c : Code} {G : sj_G} {f0 : Nat} {f1 : Int32} {f2 : Int32} {f3 : Int32} {f4 : Int32} {f5 : Int32} {f6 : Int32} {f7 : Int32} {Q : Int32 → sj_W → Prop} {QX : String → sj_W → Prop} {E : Int32 → sj_W → Prop} (hC : sj_C G p l s m args c cX7_alike RX7 9) (hD : sj_D meth c) (hr : meth.sig.returnType = (some .int)) (hin : meth.name = "alike") (hE : ∀ (v8 : Int32) (w : sj_W) (H : Heap) (locs : List Loc) (ls : Array Slot), lv_has ls 9 [(8, .int v8)] → sj_H G s w H locs → E v8 w → W p l e rm_X7_alike s m args below meth c H locs 0 0 (sj_MQ G below (va_Qi Q (sj_B G) (sj_F G)) QX args s rm_X7_alike) (F0 m 59 ls [])) : ∀ (n : Nat) (v8 : Int32) (w : sj_W) (H : Heap) (locs : List Loc) (ls : Array Slot), lv_has ls 9 [(0, .ref f0), (1, .int f1), (2, .int f2), (3, .int f3), (4, .int f4), (5, .int f5), (6, .int f6), (7, .int f7), (8, .int v8)] → sj_H G s w H locs → sj_lp1 (vb_X7_alike_3 f0 f1 f2 f3 f4 f5 f6 f7 Q E) n v8 w → W p l e rm_X7_alike s m args below meth c H locs 0 0 (sj_MQ G below (va_Qi Q (sj_B G) (sj_F G)) QX args s rm_X7_alike) (F0 m 3 ls []) := by
  have hx := hC.1
  have hb := hC.2.1
  intro n
  induction n with
  | zero =>
    intro v8 w H locs ls _ _ hv
    exact hv.elim
  | succ n ih =>
    intro v8 w H locs ls hl hH hv
    have hv : vb_X7_alike_3 f0 f1 f2 f3 f4 f5 f6 f7 Q E (sj_lp1 (vb_X7_alike_3 f0 f1 f2 f3 f4 f5 f6 f7 Q E) n) v8 w := hv
    have hc1 : rm_X7_alike.cells = 0 := rfl
    have hc2 : rm_X7_alike.slots = 0 := rfl
    refine lv_iload hx hb dX7_alike_3 (lv_at hl 8 rfl) ?_
    refine lv_iload hx hb dX7_alike_5 (lv_at hl 4 rfl) ?_
    refine lv_icmp_ge (tgt := 59) hx hb dX7_alike_7 (by decide) (fun hc => ?_) (fun hc => ?_)
    · have hv1 := hv.1 hc
      exact hE v8 w _ _ _ (lv_sub hl [8] rfl) hH hv1
    · have hv2 := hv.2 hc
      refine lv_iload hx hb dX7_alike_10 (lv_at hl 8 rfl) ?_
      refine lv_iload hx hb dX7_alike_12 (lv_at hl 7 rfl) ?_
      refine lv_icmp_ge (tgt := 59) hx hb dX7_alike_14 (by decide) (fun hc => ?_) (fun hc => ?_)
      · have hv3 := hv2.1 hc
        exact hE v8 w _ _ _ (lv_sub hl [8] rfl) hH hv3
      · have hv4 := hv2.2 hc
        refine lv_aload_n hx hb dX7_alike_17 rfl (lv_at hl 0 rfl) ?_
        refine gf_X7_7 hC hH hv4.1 hv4.2.1 dX7_alike_18 ?_
        refine lv_aload_n hx hb dX7_alike_21 rfl (lv_at hl 0 rfl) ?_
        refine lv_iload_n hx hb dX7_alike_22 rfl (lv_at hl 1 rfl) ?_
        refine lv_iload_n hx hb dX7_alike_23 rfl (lv_at hl 2 rfl) ?_
        refine lv_iload_n hx hb dX7_alike_24 rfl (lv_at hl 3 rfl) ?_
        refine lv_iload hx hb dX7_alike_25 (lv_at hl 8 rfl) ?_
        refine lv_iadd hx hb dX7_alike_27 ?_
        refine cl_X7_76 hC hD hH hv4.2.2.2 hv4.2.2.1 ⟨Nat.le_of_ble_eq_true rfl, Nat.le_of_ble_eq_true rfl⟩ ⟨(Nat.le_of_ble_eq_true rfl), (Nat.le_of_ble_eq_true rfl)⟩ ⟨(Nat.le_of_ble_eq_true rfl), (Nat.le_of_ble_eq_true rfl)⟩ hl.1 (Nat.le_of_ble_eq_true rfl) dX7_alike_28 (fun r5 w6 H locs hH hv7 => ?_)
        refine sj_lald hC hH hv7.1 hv7.2.1 dX7_alike_31 ?_
        refine lv_aload_n hx hb dX7_alike_32 rfl (lv_at hl 0 rfl) ?_
        refine gf_X7_7 hC hH hv7.2.2.1 hv7.2.2.2.1 dX7_alike_33 ?_
        refine lv_aload_n hx hb dX7_alike_36 rfl (lv_at hl 0 rfl) ?_
        refine lv_iload_n hx hb dX7_alike_37 rfl (lv_at hl 1 rfl) ?_
        refine lv_iload hx hb dX7_alike_38 (lv_at hl 5 rfl) ?_
        refine lv_iload hx hb dX7_alike_40 (lv_at hl 6 rfl) ?_
        refine lv_iload hx hb dX7_alike_42 (lv_at hl 8 rfl) ?_
        refine lv_iadd hx hb dX7_alike_44 ?_
        refine cl_X7_76 hC hD hH hv7.2.2.2.2.2 hv7.2.2.2.2.1 ⟨Nat.le_of_ble_eq_true rfl, Nat.le_of_ble_eq_true rfl⟩ ⟨(Nat.le_of_ble_eq_true rfl), (Nat.le_of_ble_eq_true rfl)⟩ ⟨(Nat.le_of_ble_eq_true rfl), (Nat.le_of_ble_eq_true rfl)⟩ hl.1 (Nat.le_of_ble_eq_true rfl) dX7_alike_45 (fun r8 w9 H locs hH hv10 => ?_)
        refine sj_lald hC hH hv10.1 hv10.2.1 dX7_alike_48 ?_
        refine W.lcmp hx hb dX7_alike_49 ?_
        refine lv_if_ne (tgt := 59) hx hb dX7_alike_50 (by decide) (fun hc => ?_) (fun hc => ?_)
        · have hv11 := hv10.2.2.1 hc
          exact hE v8 w9 _ _ _ (lv_sub hl [8] rfl) hH hv11
        · have hv12 := hv10.2.2.2 hc
          refine lv_iinc (v := (v8 + 1)) (lv' := [(8, .int (v8 + 1)), (0, .ref f0), (1, .int f1), (2, .int f2), (3, .int f3), (4, .int f4), (5, .int f5), (6, .int f6), (7, .int f7)]) hx hb dX7_alike_53 hl (k := 8) rfl rfl (by decide) rfl (fun ls hl => ?_)
          refine lv_goto (tgt := 3) hx hb dX7_alike_56 (by decide) ?_
          exact ih (v8 + 1) w9 _ _ _ (lv_sub hl [1, 2, 3, 4, 5, 6, 7, 8, 0] rfl) hH hv12
set_option maxHeartbeats 4000000 in
set_option maxRecDepth 100000 in
theorem wk_X7_alike (G : sj_G) (l : Launch) (hlt : l.stackTraces = false) (self : Nat) (a1 : Int32) (a2 : Int32) (a3 : Int32) (a4 : Int32) (a5 : Int32) (a6 : Int32) (a7 : Int32) (w : sj_W) (Q : Int32 → sj_W → Prop) (QX : String → sj_W → Prop) (hv : vc_X7_alike self a1 a2 a3 a4 a5 a6 a7 w Q) : sj_MI G l yX7_alike (sj_ws yX7_alike cX7_alike 9 (some .int)) rm_X7_alike [.ref self, .int a1, .int a2, .int a3, .int a4, .int a5, .int a6, .int a7] w Q QX := by
  refine sj_of (by decide +kernel) (Nat.le_of_ble_eq_true rfl) hlt ?_
  intro p e s m args below meth c ls hC hD hr hin hH hl
  have hx := hC.1
  have hb := hC.2.1
  have hl : lv_has ls 9 [(0, .ref self), (1, .int a1), (2, .int a2), (3, .int a3), (4, .int a4), (5, .int a5), (6, .int a6), (7, .int a7)] := hl
  refine lv_iconst (v := 0) hx hb dX7_alike_0 (by decide) ?_
  refine lv_istore (lv' := [(8, .int 0), (0, .ref self), (1, .int a1), (2, .int a2), (3, .int a3), (4, .int a4), (5, .int a5), (6, .int a6), (7, .int a7)]) hx hb dX7_alike_1 hl (by decide) rfl (fun ls hl => ?_)
  refine wl_X7_alike_3 hC hD hr hin (fun z8_3 w_3 H locs ls hl hH hv13 => ?_) 64 0 w _ _ _ (lv_sub hl [1, 2, 3, 4, 5, 6, 7, 8, 0] rfl) hH hv
  refine lv_iload hx hb dX7_alike_59 (lv_at hl 0 rfl) ?_
  exact sj_retI hC hD.2 hH hr rfl hv13 ⟨(Nat.le_of_ble_eq_true rfl), (Nat.le_of_ble_eq_true rfl)⟩ dX7_alike_61
section SJL_X7_alike
variable {p : Program} {l : Launch} {e : Env} {R : Room} {s : State} {m : MethodId} {args : Array Value} {below : List Frame} {meth : Method} {c : Code} {H : Heap} {locs : List Loc} {cells slots : Nat} {Q : State → Prop} {cc : ByteArray} {pc : Nat} {ls : Array Slot} {rest : List Value} {G : sj_G} {nL : Nat} {w : sj_W}
theorem cl_X7_114 {rmM : Room} {QcM : Array Value → State → Outcome → State → Prop} {QX : String → sj_W → Prop} {b : Nat} {b0 : Int32} {b1 : Int32} {b2 : Int32} {b3 : Int32} {b4 : Int32} {b5 : Int32} {b6 : Int32} {Qi : Int32 → sj_W → Prop} (hC : sj_C G p l s m args c cc RX7 nL) (hD : sj_D meth c) (hH : sj_H G s w H locs) (hv : vc_X7_alike b b0 b1 b2 b3 b4 b5 b6 w Qi) (hT : sj_T w b = 6) (hR : rm_X7_alike.frames + 1 ≤ R.frames ∧ 8 + (9 + 11) + rm_X7_alike.locals ≤ R.locals) (hf : cells + 0 ≤ R.cells ∧ slots + 0 ≤ R.slots) (hfM : cells + 0 ≤ rmM.cells ∧ slots + 0 ≤ rmM.slots) (hls : ls.size = nL) (hW : (rest.map fun v => v.category).sum ≤ 8) (hdg : decode cc pc = .ok (.invokevirtual 114, 3)) (kk : ∀ (r : Int32) (w1 : sj_W) (H : Heap) (locs : List Loc), sj_H G s w1 H locs → Qi r w1 → W p l e R s m args below meth c H locs (cells + 0) (slots + 0) (sj_MQ G below QcM QX args s rmM) (F0 m (pc + 3) ls (.int r :: rest))) : W p l e R s m args below meth c H locs cells slots (sj_MQ G below QcM QX args s rmM) (F0 m pc ls (.int b6 :: .int b5 :: .int b4 :: .int b3 :: .int b2 :: .int b1 :: .int b0 :: .ref b :: rest)) :=
  sj_cI hD hH (sj_runV (n := 7) hC hH (As := [.int b0, .int b1, .int b2, .int b3, .int b4, .int b5, .int b6]) (wk_X7_alike G l hC.2.2.2.2.2.2 b b0 b1 b2 b3 b4 b5 b6 w Qi QX hv) (ci := 5) rfl (by decide) hT mb_870 mb_872 mb_s36 mb_5 mb_873 (by decide +kernel) hR hf rfl hls hW hdg) hfM kk
end SJL_X7_alike
abbrev rm_X7_isLess : Room := { frames := 0, cells := 0, slots := 0, locals := 0 }
def vc_X7_isLess (a1 : Int64) (a2 : Int64) (a3 : Int32) (w : sj_W) (Q : Int32 → sj_W → Prop) : Prop := ((¬ a3 = 117 → ((0 ≤ (lg_cmp a1 a2) → Q 0 w) ∧ (¬ 0 ≤ (lg_cmp a1 a2) → Q 1 w))) ∧ (a3 = 117 → sj_jn1 (fun (E5 : Int32 → sj_W → Prop) => ((0 ≤ (lg_cmp a1 0) → E5 0 w) ∧ (¬ 0 ≤ (lg_cmp a1 0) → E5 1 w))) (fun (y0_18 : Int32) (w_18 : sj_W) => sj_jn2 (fun (E13 : Int32 → Int32 → sj_W → Prop) => ((0 ≤ (lg_cmp a2 0) → E13 0 y0_18 w_18) ∧ (¬ 0 ≤ (lg_cmp a2 0) → E13 1 y0_18 w_18))) (fun (y0_29 : Int32) (y1_29 : Int32) (w_29 : sj_W) => ((y1_29 = y0_29 → ((0 ≤ (lg_cmp a1 a2) → Q 0 w_29) ∧ (¬ 0 ≤ (lg_cmp a1 a2) → Q 1 w_29))) ∧ (¬ y1_29 = y0_29 → ((0 ≤ (lg_cmp a2 0) → Q 0 w_29) ∧ (¬ 0 ≤ (lg_cmp a2 0) → Q 1 w_29))))))))
set_option maxHeartbeats 4000000 in
set_option maxRecDepth 100000 in
theorem wk_X7_isLess (G : sj_G) (l : Launch) (hlt : l.stackTraces = false) (a1 : Int64) (a2 : Int64) (a3 : Int32) (w : sj_W) (Q : Int32 → sj_W → Prop) (QX : String → sj_W → Prop) (hv : vc_X7_isLess a1 a2 a3 w Q) : sj_MI G l yX7_isLess (sj_ws yX7_isLess cX7_isLess 5 (some .boolean)) rm_X7_isLess [.long a1, .long a2, .int a3] w Q QX := by
  refine sj_of (by decide +kernel) (Nat.le_of_ble_eq_true rfl) hlt ?_
  intro p e s m args below meth c ls hC hD hr hin hH hl
  have hx := hC.1
  have hb := hC.2.1
  have hl : lv_has ls 5 [(0, .long a1), (2, .long a2), (4, .int a3)] := hl
  refine lv_iload hx hb dX7_isLess_0 (lv_at hl 2 rfl) ?_
  refine lv_bipush (v := 117) hx hb dX7_isLess_2 (by decide) ?_
  refine lv_icmp_ne (tgt := 46) hx hb dX7_isLess_4 (by decide) (fun hc => ?_) (fun hc => ?_)
  · have hv1 := hv.1 hc
    refine lv_lload_n hx hb dX7_isLess_46 rfl (lv_at hl 0 rfl) ?_
    refine lv_lload_n hx hb dX7_isLess_47 rfl (lv_at hl 1 rfl) ?_
    refine W.lcmp hx hb dX7_isLess_48 ?_
    refine lv_if_ge (tgt := 56) hx hb dX7_isLess_49 (by decide) (fun hc => ?_) (fun hc => ?_)
    · have hv2 := hv1.1 hc
      refine lv_iconst (v := 0) hx hb dX7_isLess_56 (by decide) ?_
      exact sj_retI hC hD.2 hH hr rfl hv2 ⟨(Nat.le_of_ble_eq_true rfl), (Nat.le_of_ble_eq_true rfl)⟩ dX7_isLess_57
    · have hv3 := hv1.2 hc
      refine lv_iconst (v := 1) hx hb dX7_isLess_52 (by decide) ?_
      refine lv_goto (tgt := 57) hx hb dX7_isLess_53 (by decide) ?_
      exact sj_retI hC hD.2 hH hr rfl hv3 ⟨(Nat.le_of_ble_eq_true rfl), (Nat.le_of_ble_eq_true rfl)⟩ dX7_isLess_57
  · have hv4 := hv.2 hc
    refine lv_lload_n hx hb dX7_isLess_7 rfl (lv_at hl 0 rfl) ?_
    refine lv_lconst (v := 0) hx hb dX7_isLess_8 (by decide) ?_
    refine W.lcmp hx hb dX7_isLess_9 ?_
    obtain ⟨E5, hE6, hv9⟩ := sj_jn1_e hv4
    have hJ7 : ∀ (y0_18 : Int32) (w_18 : sj_W) (H : Heap) (locs : List Loc) (ls : Array Slot), lv_has ls 5 [(0, .long a1), (2, .long a2)] → sj_H G s w_18 H locs → E5 y0_18 w_18 → W p l e rm_X7_isLess s m args below meth c H locs 0 0 (sj_MQ G below (va_Qi Q (sj_B G) (sj_F G)) QX args s rm_X7_isLess) (F0 m 18 ls [.int y0_18]) := by
      intro y0_18 w_18 H locs ls hl hH hv10
      rw [hE6] at hv10
      refine lv_lload_n hx hb dX7_isLess_18 rfl (lv_at hl 1 rfl) ?_
      refine lv_lconst (v := 0) hx hb dX7_isLess_19 (by decide) ?_
      refine W.lcmp hx hb dX7_isLess_20 ?_
      obtain ⟨E13, hE14, hv17⟩ := sj_jn2_e hv10
      have hJ15 : ∀ (y0_29 : Int32) (y1_29 : Int32) (w_29 : sj_W) (H : Heap) (locs : List Loc) (ls : Array Slot), lv_has ls 5 [(0, .long a1), (2, .long a2)] → sj_H G s w_29 H locs → E13 y0_29 y1_29 w_29 → W p l e rm_X7_isLess s m args below meth c H locs 0 0 (sj_MQ G below (va_Qi Q (sj_B G) (sj_F G)) QX args s rm_X7_isLess) (F0 m 29 ls [.int y0_29, .int y1_29]) := by
        intro y0_29 y1_29 w_29 H locs ls hl hH hv18
        rw [hE14] at hv18
        refine lv_icmp_eq (tgt := 46) hx hb dX7_isLess_29 (by decide) (fun hc => ?_) (fun hc => ?_)
        · have hv21 := hv18.1 hc
          refine lv_lload_n hx hb dX7_isLess_46 rfl (lv_at hl 0 rfl) ?_
          refine lv_lload_n hx hb dX7_isLess_47 rfl (lv_at hl 1 rfl) ?_
          refine W.lcmp hx hb dX7_isLess_48 ?_
          refine lv_if_ge (tgt := 56) hx hb dX7_isLess_49 (by decide) (fun hc => ?_) (fun hc => ?_)
          · have hv22 := hv21.1 hc
            refine lv_iconst (v := 0) hx hb dX7_isLess_56 (by decide) ?_
            exact sj_retI hC hD.2 hH hr rfl hv22 ⟨(Nat.le_of_ble_eq_true rfl), (Nat.le_of_ble_eq_true rfl)⟩ dX7_isLess_57
          · have hv23 := hv21.2 hc
            refine lv_iconst (v := 1) hx hb dX7_isLess_52 (by decide) ?_
            refine lv_goto (tgt := 57) hx hb dX7_isLess_53 (by decide) ?_
            exact sj_retI hC hD.2 hH hr rfl hv23 ⟨(Nat.le_of_ble_eq_true rfl), (Nat.le_of_ble_eq_true rfl)⟩ dX7_isLess_57
        · have hv24 := hv18.2 hc
          refine lv_lload_n hx hb dX7_isLess_32 rfl (lv_at hl 1 rfl) ?_
          refine lv_lconst (v := 0) hx hb dX7_isLess_33 (by decide) ?_
          refine W.lcmp hx hb dX7_isLess_34 ?_
          refine lv_if_ge (tgt := 42) hx hb dX7_isLess_35 (by decide) (fun hc => ?_) (fun hc => ?_)
          · have hv25 := hv24.1 hc
            refine lv_iconst (v := 0) hx hb dX7_isLess_42 (by decide) ?_
            refine lv_goto (tgt := 57) hx hb dX7_isLess_43 (by decide) ?_
            exact sj_retI hC hD.2 hH hr rfl hv25 ⟨(Nat.le_of_ble_eq_true rfl), (Nat.le_of_ble_eq_true rfl)⟩ dX7_isLess_57
          · have hv26 := hv24.2 hc
            refine lv_iconst (v := 1) hx hb dX7_isLess_38 (by decide) ?_
            refine lv_goto (tgt := 57) hx hb dX7_isLess_39 (by decide) ?_
            exact sj_retI hC hD.2 hH hr rfl hv26 ⟨(Nat.le_of_ble_eq_true rfl), (Nat.le_of_ble_eq_true rfl)⟩ dX7_isLess_57
      clear hE14
      refine lv_if_ge (tgt := 28) hx hb dX7_isLess_21 (by decide) (fun hc => ?_) (fun hc => ?_)
      · have hv19 := hv17.1 hc
        refine lv_iconst (v := 0) hx hb dX7_isLess_28 (by decide) ?_
        exact hJ15 0 y0_18 w_18 _ _ _ (lv_sub hl [0, 1] rfl) hH hv19
      · have hv20 := hv17.2 hc
        refine lv_iconst (v := 1) hx hb dX7_isLess_24 (by decide) ?_
        refine lv_goto (tgt := 29) hx hb dX7_isLess_25 (by decide) ?_
        exact hJ15 1 y0_18 w_18 _ _ _ (lv_sub hl [0, 1] rfl) hH hv20
    clear hE6
    refine lv_if_ge (tgt := 17) hx hb dX7_isLess_10 (by decide) (fun hc => ?_) (fun hc => ?_)
    · have hv11 := hv9.1 hc
      refine lv_iconst (v := 0) hx hb dX7_isLess_17 (by decide) ?_
      exact hJ7 0 w _ _ _ (lv_sub hl [0, 1] rfl) hH hv11
    · have hv12 := hv9.2 hc
      refine lv_iconst (v := 1) hx hb dX7_isLess_13 (by decide) ?_
      refine lv_goto (tgt := 18) hx hb dX7_isLess_14 (by decide) ?_
      exact hJ7 1 w _ _ _ (lv_sub hl [0, 1] rfl) hH hv12
section SJL_X7_isLess
variable {p : Program} {l : Launch} {e : Env} {R : Room} {s : State} {m : MethodId} {args : Array Value} {below : List Frame} {meth : Method} {c : Code} {H : Heap} {locs : List Loc} {cells slots : Nat} {Q : State → Prop} {cc : ByteArray} {pc : Nat} {ls : Array Slot} {rest : List Value} {G : sj_G} {nL : Nat} {w : sj_W}
theorem cl_X7_118 {rmM : Room} {QcM : Array Value → State → Outcome → State → Prop} {QX : String → sj_W → Prop} {b0 : Int64} {b1 : Int64} {b2 : Int32} {Qi : Int32 → sj_W → Prop} (hC : sj_C G p l s m args c cc RX7 nL) (hD : sj_D meth c) (hH : sj_H G s w H locs) (hv : vc_X7_isLess b0 b1 b2 w Qi) (hR : rm_X7_isLess.frames + 1 ≤ R.frames ∧ 8 + (5 + 11) + rm_X7_isLess.locals ≤ R.locals) (hf : cells + 0 ≤ R.cells ∧ slots + 0 ≤ R.slots) (hfM : cells + 0 ≤ rmM.cells ∧ slots + 0 ≤ rmM.slots) (hls : ls.size = nL) (hW : (rest.map fun v => v.category).sum ≤ 8) (hdg : decode cc pc = .ok (.invokestatic 118, 3)) (kk : ∀ (r : Int32) (w1 : sj_W) (H : Heap) (locs : List Loc), sj_H G s w1 H locs → Qi r w1 → W p l e R s m args below meth c H locs (cells + 0) (slots + 0) (sj_MQ G below QcM QX args s rmM) (F0 m (pc + 3) ls (.int r :: rest))) : W p l e R s m args below meth c H locs cells slots (sj_MQ G below QcM QX args s rmM) (F0 m pc ls (.int b2 :: .long b1 :: .long b0 :: rest)) :=
  sj_cI hD hH (sj_runS (n := 3) hC hH (As := [.long b0, .long b1, .int b2]) (wk_X7_isLess G l hC.2.2.2.2.2.2 b0 b1 b2 w Qi QX hv) mb_874 mb_875 mb_5 mb_876 (by decide +kernel) hR hf rfl hls hW hdg) hfM kk
end SJL_X7_isLess
abbrev rm_X7_compared : Room := { frames := 3, cells := 0, slots := 0, locals := 71 }
def vc_X7_compared (self : Nat) (a1 : Int32) (a2 : Int32) (a3 : Int32) (a4 : Int32) (a5 : Int32) (a6 : Int32) (a7 : Int32) (a8 : Int32) (w : sj_W) (Q : Int32 → sj_W → Prop) : Prop := sj_T w self = 6 ∧ vc_X7_alike self a1 a3 a4 a5 a6 a7 a8 w (fun r1 w2 => ((r1 = a5 → ((a8 ≤ a5 → ((a5 ≤ a8 → Q 0 w2) ∧ (¬ a5 ≤ a8 → Q 1 w2))) ∧ (¬ a8 ≤ a5 → Q (-1) w2))) ∧ (¬ r1 = a5 → ((¬ r1 = a8 → sj_T w2 self = 6 ∧ sj_A w2 40 self ≠ 0 ∧ sj_T w2 self = 6 ∧ vc_X7_at self a1 a3 (a4 + r1) w2 (fun r11 w12 => sj_T w12 (sj_A w2 40 self) = 8 ∧ vp_in r11 (sj_N w12 (sj_A w2 40 self)) ∧ sj_T w12 self = 6 ∧ sj_A w12 40 self ≠ 0 ∧ sj_T w12 self = 6 ∧ vc_X7_at self a1 a6 (a7 + r1) w12 (fun r14 w15 => sj_T w15 (sj_A w12 40 self) = 8 ∧ vp_in r14 (sj_N w15 (sj_A w12 40 self)) ∧ vc_X7_isLess (sj_l w12 (sj_A w2 40 self) r11.toNatClampNeg) (sj_l w15 (sj_A w12 40 self) r14.toNatClampNeg) a2 w15 (fun r17 w18 => ((r17 = 0 → Q 1 w18) ∧ (¬ r17 = 0 → Q (-1) w18)))))) ∧ (r1 = a8 → ((a8 ≤ a5 → ((a5 ≤ a8 → Q 0 w2) ∧ (¬ a5 ≤ a8 → Q 1 w2))) ∧ (¬ a8 ≤ a5 → Q (-1) w2)))))))
set_option maxHeartbeats 4000000 in
set_option maxRecDepth 100000 in
theorem wk_X7_compared (G : sj_G) (l : Launch) (hlt : l.stackTraces = false) (self : Nat) (a1 : Int32) (a2 : Int32) (a3 : Int32) (a4 : Int32) (a5 : Int32) (a6 : Int32) (a7 : Int32) (a8 : Int32) (w : sj_W) (Q : Int32 → sj_W → Prop) (QX : String → sj_W → Prop) (hv : vc_X7_compared self a1 a2 a3 a4 a5 a6 a7 a8 w Q) : sj_MI G l yX7_compared (sj_ws yX7_compared cX7_compared 10 (some .int)) rm_X7_compared [.ref self, .int a1, .int a2, .int a3, .int a4, .int a5, .int a6, .int a7, .int a8] w Q QX := by
  refine sj_of (by decide +kernel) (Nat.le_of_ble_eq_true rfl) hlt ?_
  intro p e s m args below meth c ls hC hD hr hin hH hl
  have hx := hC.1
  have hb := hC.2.1
  have hl : lv_has ls 10 [(0, .ref self), (1, .int a1), (2, .int a2), (3, .int a3), (4, .int a4), (5, .int a5), (6, .int a6), (7, .int a7), (8, .int a8)] := hl
  refine lv_aload_n hx hb dX7_compared_0 rfl (lv_at hl 0 rfl) ?_
  refine lv_iload_n hx hb dX7_compared_1 rfl (lv_at hl 1 rfl) ?_
  refine lv_iload_n hx hb dX7_compared_2 rfl (lv_at hl 3 rfl) ?_
  refine lv_iload hx hb dX7_compared_3 (lv_at hl 4 rfl) ?_
  refine lv_iload hx hb dX7_compared_5 (lv_at hl 5 rfl) ?_
  refine lv_iload hx hb dX7_compared_7 (lv_at hl 6 rfl) ?_
  refine lv_iload hx hb dX7_compared_9 (lv_at hl 7 rfl) ?_
  refine lv_iload hx hb dX7_compared_11 (lv_at hl 8 rfl) ?_
  refine cl_X7_114 hC hD hH hv.2 hv.1 ⟨Nat.le_of_ble_eq_true rfl, Nat.le_of_ble_eq_true rfl⟩ ⟨(Nat.le_of_ble_eq_true rfl), (Nat.le_of_ble_eq_true rfl)⟩ ⟨(Nat.le_of_ble_eq_true rfl), (Nat.le_of_ble_eq_true rfl)⟩ hl.1 (Nat.le_of_ble_eq_true rfl) dX7_compared_13 (fun r1 w2 H locs hH hv3 => ?_)
  refine lv_istore (lv' := [(9, .int r1), (0, .ref self), (1, .int a1), (2, .int a2), (3, .int a3), (4, .int a4), (5, .int a5), (6, .int a6), (7, .int a7), (8, .int a8)]) hx hb dX7_compared_16 hl (by decide) rfl (fun ls hl => ?_)
  refine lv_iload hx hb dX7_compared_18 (lv_at hl 0 rfl) ?_
  refine lv_iload hx hb dX7_compared_20 (lv_at hl 6 rfl) ?_
  refine lv_icmp_eq (tgt := 32) hx hb dX7_compared_22 (by decide) (fun hc => ?_) (fun hc => ?_)
  · have hv4 := hv3.1 hc
    refine lv_iload hx hb dX7_compared_32 (lv_at hl 6 rfl) ?_
    refine lv_iload hx hb dX7_compared_34 (lv_at hl 9 rfl) ?_
    refine lv_icmp_ge (tgt := 43) hx hb dX7_compared_36 (by decide) (fun hc => ?_) (fun hc => ?_)
    · have hv5 := hv4.1 hc
      refine lv_iload hx hb dX7_compared_43 (lv_at hl 6 rfl) ?_
      refine lv_iload hx hb dX7_compared_45 (lv_at hl 9 rfl) ?_
      refine lv_icmp_le (tgt := 54) hx hb dX7_compared_47 (by decide) (fun hc => ?_) (fun hc => ?_)
      · have hv6 := hv5.1 hc
        refine lv_iconst (v := 0) hx hb dX7_compared_54 (by decide) ?_
        exact sj_retI hC hD.2 hH hr rfl hv6 ⟨(Nat.le_of_ble_eq_true rfl), (Nat.le_of_ble_eq_true rfl)⟩ dX7_compared_55
      · have hv7 := hv5.2 hc
        refine lv_iconst (v := 1) hx hb dX7_compared_50 (by decide) ?_
        refine lv_goto (tgt := 55) hx hb dX7_compared_51 (by decide) ?_
        exact sj_retI hC hD.2 hH hr rfl hv7 ⟨(Nat.le_of_ble_eq_true rfl), (Nat.le_of_ble_eq_true rfl)⟩ dX7_compared_55
    · have hv8 := hv4.2 hc
      refine lv_iconst (v := (-1)) hx hb dX7_compared_39 (by decide) ?_
      refine lv_goto (tgt := 55) hx hb dX7_compared_40 (by decide) ?_
      exact sj_retI hC hD.2 hH hr rfl hv8 ⟨(Nat.le_of_ble_eq_true rfl), (Nat.le_of_ble_eq_true rfl)⟩ dX7_compared_55
  · have hv9 := hv3.2 hc
    refine lv_iload hx hb dX7_compared_25 (lv_at hl 0 rfl) ?_
    refine lv_iload hx hb dX7_compared_27 (lv_at hl 9 rfl) ?_
    refine lv_icmp_ne (tgt := 56) hx hb dX7_compared_29 (by decide) (fun hc => ?_) (fun hc => ?_)
    · have hv10 := hv9.1 hc
      refine lv_aload_n hx hb dX7_compared_56 rfl (lv_at hl 1 rfl) ?_
      refine gf_X7_7 hC hH hv10.1 hv10.2.1 dX7_compared_57 ?_
      refine lv_aload_n hx hb dX7_compared_60 rfl (lv_at hl 1 rfl) ?_
      refine lv_iload_n hx hb dX7_compared_61 rfl (lv_at hl 2 rfl) ?_
      refine lv_iload_n hx hb dX7_compared_62 rfl (lv_at hl 4 rfl) ?_
      refine lv_iload hx hb dX7_compared_63 (lv_at hl 5 rfl) ?_
      refine lv_iload hx hb dX7_compared_65 (lv_at hl 0 rfl) ?_
      refine lv_iadd hx hb dX7_compared_67 ?_
      refine cl_X7_76 hC hD hH hv10.2.2.2 hv10.2.2.1 ⟨Nat.le_of_ble_eq_true rfl, Nat.le_of_ble_eq_true rfl⟩ ⟨(Nat.le_of_ble_eq_true rfl), (Nat.le_of_ble_eq_true rfl)⟩ ⟨(Nat.le_of_ble_eq_true rfl), (Nat.le_of_ble_eq_true rfl)⟩ hl.1 (Nat.le_of_ble_eq_true rfl) dX7_compared_68 (fun r11 w12 H locs hH hv13 => ?_)
      refine sj_lald hC hH hv13.1 hv13.2.1 dX7_compared_71 ?_
      refine lv_aload_n hx hb dX7_compared_72 rfl (lv_at hl 1 rfl) ?_
      refine gf_X7_7 hC hH hv13.2.2.1 hv13.2.2.2.1 dX7_compared_73 ?_
      refine lv_aload_n hx hb dX7_compared_76 rfl (lv_at hl 1 rfl) ?_
      refine lv_iload_n hx hb dX7_compared_77 rfl (lv_at hl 2 rfl) ?_
      refine lv_iload hx hb dX7_compared_78 (lv_at hl 7 rfl) ?_
      refine lv_iload hx hb dX7_compared_80 (lv_at hl 8 rfl) ?_
      refine lv_iload hx hb dX7_compared_82 (lv_at hl 0 rfl) ?_
      refine lv_iadd hx hb dX7_compared_84 ?_
      refine cl_X7_76 hC hD hH hv13.2.2.2.2.2 hv13.2.2.2.2.1 ⟨Nat.le_of_ble_eq_true rfl, Nat.le_of_ble_eq_true rfl⟩ ⟨(Nat.le_of_ble_eq_true rfl), (Nat.le_of_ble_eq_true rfl)⟩ ⟨(Nat.le_of_ble_eq_true rfl), (Nat.le_of_ble_eq_true rfl)⟩ hl.1 (Nat.le_of_ble_eq_true rfl) dX7_compared_85 (fun r14 w15 H locs hH hv16 => ?_)
      refine sj_lald hC hH hv16.1 hv16.2.1 dX7_compared_88 ?_
      refine lv_iload_n hx hb dX7_compared_89 rfl (lv_at hl 3 rfl) ?_
      refine cl_X7_118 hC hD hH hv16.2.2 ⟨Nat.le_of_ble_eq_true rfl, Nat.le_of_ble_eq_true rfl⟩ ⟨(Nat.le_of_ble_eq_true rfl), (Nat.le_of_ble_eq_true rfl)⟩ ⟨(Nat.le_of_ble_eq_true rfl), (Nat.le_of_ble_eq_true rfl)⟩ hl.1 (Nat.le_of_ble_eq_true rfl) dX7_compared_90 (fun r17 w18 H locs hH hv19 => ?_)
      refine lv_if_eq (tgt := 100) hx hb dX7_compared_93 (by decide) (fun hc => ?_) (fun hc => ?_)
      · have hv20 := hv19.1 hc
        refine lv_iconst (v := 1) hx hb dX7_compared_100 (by decide) ?_
        exact sj_retI hC hD.2 hH hr rfl hv20 ⟨(Nat.le_of_ble_eq_true rfl), (Nat.le_of_ble_eq_true rfl)⟩ dX7_compared_101
      · have hv21 := hv19.2 hc
        refine lv_iconst (v := (-1)) hx hb dX7_compared_96 (by decide) ?_
        refine lv_goto (tgt := 101) hx hb dX7_compared_97 (by decide) ?_
        exact sj_retI hC hD.2 hH hr rfl hv21 ⟨(Nat.le_of_ble_eq_true rfl), (Nat.le_of_ble_eq_true rfl)⟩ dX7_compared_101
    · have hv22 := hv9.2 hc
      refine lv_iload hx hb dX7_compared_32 (lv_at hl 6 rfl) ?_
      refine lv_iload hx hb dX7_compared_34 (lv_at hl 9 rfl) ?_
      refine lv_icmp_ge (tgt := 43) hx hb dX7_compared_36 (by decide) (fun hc => ?_) (fun hc => ?_)
      · have hv23 := hv22.1 hc
        refine lv_iload hx hb dX7_compared_43 (lv_at hl 6 rfl) ?_
        refine lv_iload hx hb dX7_compared_45 (lv_at hl 9 rfl) ?_
        refine lv_icmp_le (tgt := 54) hx hb dX7_compared_47 (by decide) (fun hc => ?_) (fun hc => ?_)
        · have hv24 := hv23.1 hc
          refine lv_iconst (v := 0) hx hb dX7_compared_54 (by decide) ?_
          exact sj_retI hC hD.2 hH hr rfl hv24 ⟨(Nat.le_of_ble_eq_true rfl), (Nat.le_of_ble_eq_true rfl)⟩ dX7_compared_55
        · have hv25 := hv23.2 hc
          refine lv_iconst (v := 1) hx hb dX7_compared_50 (by decide) ?_
          refine lv_goto (tgt := 55) hx hb dX7_compared_51 (by decide) ?_
          exact sj_retI hC hD.2 hH hr rfl hv25 ⟨(Nat.le_of_ble_eq_true rfl), (Nat.le_of_ble_eq_true rfl)⟩ dX7_compared_55
      · have hv26 := hv22.2 hc
        refine lv_iconst (v := (-1)) hx hb dX7_compared_39 (by decide) ?_
        refine lv_goto (tgt := 55) hx hb dX7_compared_40 (by decide) ?_
        exact sj_retI hC hD.2 hH hr rfl hv26 ⟨(Nat.le_of_ble_eq_true rfl), (Nat.le_of_ble_eq_true rfl)⟩ dX7_compared_55
section SJL_X7_compared
variable {p : Program} {l : Launch} {e : Env} {R : Room} {s : State} {m : MethodId} {args : Array Value} {below : List Frame} {meth : Method} {c : Code} {H : Heap} {locs : List Loc} {cells slots : Nat} {Q : State → Prop} {cc : ByteArray} {pc : Nat} {ls : Array Slot} {rest : List Value} {G : sj_G} {nL : Nat} {w : sj_W}
theorem cl_X7_122 {rmM : Room} {QcM : Array Value → State → Outcome → State → Prop} {QX : String → sj_W → Prop} {b : Nat} {b0 : Int32} {b1 : Int32} {b2 : Int32} {b3 : Int32} {b4 : Int32} {b5 : Int32} {b6 : Int32} {b7 : Int32} {Qi : Int32 → sj_W → Prop} (hC : sj_C G p l s m args c cc RX7 nL) (hD : sj_D meth c) (hH : sj_H G s w H locs) (hv : vc_X7_compared b b0 b1 b2 b3 b4 b5 b6 b7 w Qi) (hT : sj_T w b = 6) (hR : rm_X7_compared.frames + 1 ≤ R.frames ∧ 8 + (10 + 11) + rm_X7_compared.locals ≤ R.locals) (hf : cells + 0 ≤ R.cells ∧ slots + 0 ≤ R.slots) (hfM : cells + 0 ≤ rmM.cells ∧ slots + 0 ≤ rmM.slots) (hls : ls.size = nL) (hW : (rest.map fun v => v.category).sum ≤ 8) (hdg : decode cc pc = .ok (.invokevirtual 122, 3)) (kk : ∀ (r : Int32) (w1 : sj_W) (H : Heap) (locs : List Loc), sj_H G s w1 H locs → Qi r w1 → W p l e R s m args below meth c H locs (cells + 0) (slots + 0) (sj_MQ G below QcM QX args s rmM) (F0 m (pc + 3) ls (.int r :: rest))) : W p l e R s m args below meth c H locs cells slots (sj_MQ G below QcM QX args s rmM) (F0 m pc ls (.int b7 :: .int b6 :: .int b5 :: .int b4 :: .int b3 :: .int b2 :: .int b1 :: .int b0 :: .ref b :: rest)) :=
  sj_cI hD hH (sj_runV (n := 8) hC hH (As := [.int b0, .int b1, .int b2, .int b3, .int b4, .int b5, .int b6, .int b7]) (wk_X7_compared G l hC.2.2.2.2.2.2 b b0 b1 b2 b3 b4 b5 b6 b7 w Qi QX hv) (ci := 5) rfl (by decide) hT mb_866 mb_868 mb_s35 mb_5 mb_869 (by decide +kernel) hR hf rfl hls hW hdg) hfM kk
end SJL_X7_compared
abbrev rm_X7_answer : Room := { frames := 4, cells := 0, slots := 0, locals := 100 }
def vc_X7_answer (self : Nat) (a1 : Int32) (a2 : Int32) (a3 : Int32) (a4 : Int32) (a5 : Int32) (a6 : Int32) (a7 : Int32) (a8 : Int32) (w : sj_W) (Q : Int32 → sj_W → Prop) : Prop := ((a2 = 99 → sj_jn3 (fun (E2 : Int32 → Int32 → Nat → sj_W → Prop) => ((¬ a2 = 99 → E2 117 a1 self w) ∧ (a2 = 99 → E2 115 a1 self w))) (fun (y0_27 : Int32) (y1_27 : Int32) (y2_27 : Nat) (w_27 : sj_W) => sj_T w_27 y2_27 = 6 ∧ vc_X7_compared y2_27 y1_27 y0_27 a3 a4 a5 a6 a7 a8 w_27 (fun r10 w11 => Q r10 w11))) ∧ (¬ a2 = 99 → ((¬ a2 = 117 → sj_T w self = 6 ∧ vc_X7_alike self a1 a3 a4 a5 a6 a7 a8 w (fun r15 w16 => sj_jn1 (fun (E18 : Int32 → sj_W → Prop) => ((¬ a5 = a8 → E18 0 w16) ∧ (a5 = a8 → ((¬ r15 = a5 → E18 0 w16) ∧ (r15 = a5 → E18 1 w16))))) (fun (y0_79 : Int32) (w_79 : sj_W) => ((¬ a2 = 101 → ((y0_79 = 0 → Q r15 w_79) ∧ (¬ y0_79 = 0 → Q (-1) w_79))) ∧ (a2 = 101 → ((y0_79 = 0 → Q 0 w_79) ∧ (¬ y0_79 = 0 → Q 1 w_79))))))) ∧ (a2 = 117 → sj_jn3 (fun (E35 : Int32 → Int32 → Nat → sj_W → Prop) => ((¬ a2 = 99 → E35 117 a1 self w) ∧ (a2 = 99 → E35 115 a1 self w))) (fun (y0_27 : Int32) (y1_27 : Int32) (y2_27 : Nat) (w_27 : sj_W) => sj_T w_27 y2_27 = 6 ∧ vc_X7_compared y2_27 y1_27 y0_27 a3 a4 a5 a6 a7 a8 w_27 (fun r43 w44 => Q r43 w44))))))
set_option maxHeartbeats 4000000 in
set_option maxRecDepth 100000 in
theorem wk_X7_answer (G : sj_G) (l : Launch) (hlt : l.stackTraces = false) (self : Nat) (a1 : Int32) (a2 : Int32) (a3 : Int32) (a4 : Int32) (a5 : Int32) (a6 : Int32) (a7 : Int32) (a8 : Int32) (w : sj_W) (Q : Int32 → sj_W → Prop) (QX : String → sj_W → Prop) (hv : vc_X7_answer self a1 a2 a3 a4 a5 a6 a7 a8 w Q) : sj_MI G l yX7_answer (sj_ws yX7_answer cX7_answer 11 (some .int)) rm_X7_answer [.ref self, .int a1, .int a2, .int a3, .int a4, .int a5, .int a6, .int a7, .int a8] w Q QX := by
  refine sj_of (by decide +kernel) (Nat.le_of_ble_eq_true rfl) hlt ?_
  intro p e s m args below meth c ls hC hD hr hin hH hl
  have hx := hC.1
  have hb := hC.2.1
  have hl : lv_has ls 11 [(0, .ref self), (1, .int a1), (2, .int a2), (3, .int a3), (4, .int a4), (5, .int a5), (6, .int a6), (7, .int a7), (8, .int a8)] := hl
  refine lv_iload_n hx hb dX7_answer_0 rfl (lv_at hl 2 rfl) ?_
  refine lv_bipush (v := 99) hx hb dX7_answer_1 (by decide) ?_
  refine lv_icmp_eq (tgt := 12) hx hb dX7_answer_3 (by decide) (fun hc => ?_) (fun hc => ?_)
  · have hv1 := hv.1 hc
    refine lv_aload_n hx hb dX7_answer_12 rfl (lv_at hl 0 rfl) ?_
    refine lv_iload_n hx hb dX7_answer_13 rfl (lv_at hl 1 rfl) ?_
    refine lv_iload_n hx hb dX7_answer_14 rfl (lv_at hl 2 rfl) ?_
    refine lv_bipush (v := 99) hx hb dX7_answer_15 (by decide) ?_
    obtain ⟨E2, hE3, hv6⟩ := sj_jn3_e hv1
    have hJ4 : ∀ (y0_27 : Int32) (y1_27 : Int32) (y2_27 : Nat) (w_27 : sj_W) (H : Heap) (locs : List Loc) (ls : Array Slot), lv_has ls 11 [(3, .int a3), (4, .int a4), (5, .int a5), (6, .int a6), (7, .int a7), (8, .int a8)] → sj_H G s w_27 H locs → E2 y0_27 y1_27 y2_27 w_27 → W p l e rm_X7_answer s m args below meth c H locs 0 0 (sj_MQ G below (va_Qi Q (sj_B G) (sj_F G)) QX args s rm_X7_answer) (F0 m 27 ls [.int y0_27, .int y1_27, .ref y2_27]) := by
      intro y0_27 y1_27 y2_27 w_27 H locs ls hl hH hv7
      rw [hE3] at hv7
      refine lv_iload_n hx hb dX7_answer_27 rfl (lv_at hl 0 rfl) ?_
      refine lv_iload hx hb dX7_answer_28 (lv_at hl 1 rfl) ?_
      refine lv_iload hx hb dX7_answer_30 (lv_at hl 2 rfl) ?_
      refine lv_iload hx hb dX7_answer_32 (lv_at hl 3 rfl) ?_
      refine lv_iload hx hb dX7_answer_34 (lv_at hl 4 rfl) ?_
      refine lv_iload hx hb dX7_answer_36 (lv_at hl 5 rfl) ?_
      refine cl_X7_122 hC hD hH hv7.2 hv7.1 ⟨Nat.le_of_ble_eq_true rfl, Nat.le_of_ble_eq_true rfl⟩ ⟨(Nat.le_of_ble_eq_true rfl), (Nat.le_of_ble_eq_true rfl)⟩ ⟨(Nat.le_of_ble_eq_true rfl), (Nat.le_of_ble_eq_true rfl)⟩ hl.1 (Nat.le_of_ble_eq_true rfl) dX7_answer_38 (fun r10 w11 H locs hH hv12 => ?_)
      exact sj_retI hC hD.2 hH hr rfl hv12 ⟨(Nat.le_of_ble_eq_true rfl), (Nat.le_of_ble_eq_true rfl)⟩ dX7_answer_41
    clear hE3
    refine lv_icmp_ne (tgt := 25) hx hb dX7_answer_17 (by decide) (fun hc => ?_) (fun hc => ?_)
    · have hv8 := hv6.1 hc
      refine lv_bipush (v := 117) hx hb dX7_answer_25 (by decide) ?_
      exact hJ4 117 a1 self w _ _ _ (lv_sub hl [3, 4, 5, 6, 7, 8] rfl) hH hv8
    · have hv9 := hv6.2 hc
      refine lv_bipush (v := 115) hx hb dX7_answer_20 (by decide) ?_
      refine lv_goto (tgt := 27) hx hb dX7_answer_22 (by decide) ?_
      exact hJ4 115 a1 self w _ _ _ (lv_sub hl [3, 4, 5, 6, 7, 8] rfl) hH hv9
  · have hv13 := hv.2 hc
    refine lv_iload_n hx hb dX7_answer_6 rfl (lv_at hl 2 rfl) ?_
    refine lv_bipush (v := 117) hx hb dX7_answer_7 (by decide) ?_
    refine lv_icmp_ne (tgt := 42) hx hb dX7_answer_9 (by decide) (fun hc => ?_) (fun hc => ?_)
    · have hv14 := hv13.1 hc
      refine lv_aload_n hx hb dX7_answer_42 rfl (lv_at hl 0 rfl) ?_
      refine lv_iload_n hx hb dX7_answer_43 rfl (lv_at hl 1 rfl) ?_
      refine lv_iload_n hx hb dX7_answer_44 rfl (lv_at hl 3 rfl) ?_
      refine lv_iload hx hb dX7_answer_45 (lv_at hl 4 rfl) ?_
      refine lv_iload hx hb dX7_answer_47 (lv_at hl 5 rfl) ?_
      refine lv_iload hx hb dX7_answer_49 (lv_at hl 6 rfl) ?_
      refine lv_iload hx hb dX7_answer_51 (lv_at hl 7 rfl) ?_
      refine lv_iload hx hb dX7_answer_53 (lv_at hl 8 rfl) ?_
      refine cl_X7_114 hC hD hH hv14.2 hv14.1 ⟨Nat.le_of_ble_eq_true rfl, Nat.le_of_ble_eq_true rfl⟩ ⟨(Nat.le_of_ble_eq_true rfl), (Nat.le_of_ble_eq_true rfl)⟩ ⟨(Nat.le_of_ble_eq_true rfl), (Nat.le_of_ble_eq_true rfl)⟩ hl.1 (Nat.le_of_ble_eq_true rfl) dX7_answer_55 (fun r15 w16 H locs hH hv17 => ?_)
      refine lv_istore (lv' := [(9, .int r15), (0, .ref self), (1, .int a1), (2, .int a2), (3, .int a3), (4, .int a4), (5, .int a5), (6, .int a6), (7, .int a7), (8, .int a8)]) hx hb dX7_answer_58 hl (by decide) rfl (fun ls hl => ?_)
      refine lv_iload hx hb dX7_answer_60 (lv_at hl 6 rfl) ?_
      refine lv_iload hx hb dX7_answer_62 (lv_at hl 9 rfl) ?_
      obtain ⟨E18, hE19, hv22⟩ := sj_jn1_e hv17
      have hJ20 : ∀ (y0_79 : Int32) (w_79 : sj_W) (H : Heap) (locs : List Loc) (ls : Array Slot), lv_has ls 11 [(2, .int a2), (9, .int r15)] → sj_H G s w_79 H locs → E18 y0_79 w_79 → W p l e rm_X7_answer s m args below meth c H locs 0 0 (sj_MQ G below (va_Qi Q (sj_B G) (sj_F G)) QX args s rm_X7_answer) (F0 m 79 ls [.int y0_79]) := by
        intro y0_79 w_79 H locs ls hl hH hv23
        rw [hE19] at hv23
        refine lv_istore (lv' := [(10, .int y0_79), (2, .int a2), (9, .int r15)]) hx hb dX7_answer_79 hl (by decide) rfl (fun ls hl => ?_)
        refine lv_iload_n hx hb dX7_answer_81 rfl (lv_at hl 1 rfl) ?_
        refine lv_bipush (v := 101) hx hb dX7_answer_82 (by decide) ?_
        refine lv_icmp_ne (tgt := 100) hx hb dX7_answer_84 (by decide) (fun hc => ?_) (fun hc => ?_)
        · have hv28 := hv23.1 hc
          refine lv_iload hx hb dX7_answer_100 (lv_at hl 0 rfl) ?_
          refine lv_if_eq (tgt := 109) hx hb dX7_answer_102 (by decide) (fun hc => ?_) (fun hc => ?_)
          · have hv29 := hv28.1 hc
            refine lv_iload hx hb dX7_answer_109 (lv_at hl 2 rfl) ?_
            exact sj_retI hC hD.2 hH hr rfl hv29 ⟨(Nat.le_of_ble_eq_true rfl), (Nat.le_of_ble_eq_true rfl)⟩ dX7_answer_111
          · have hv30 := hv28.2 hc
            refine lv_iconst (v := (-1)) hx hb dX7_answer_105 (by decide) ?_
            refine lv_goto (tgt := 111) hx hb dX7_answer_106 (by decide) ?_
            exact sj_retI hC hD.2 hH hr rfl hv30 ⟨(Nat.le_of_ble_eq_true rfl), (Nat.le_of_ble_eq_true rfl)⟩ dX7_answer_111
        · have hv31 := hv23.2 hc
          refine lv_iload hx hb dX7_answer_87 (lv_at hl 0 rfl) ?_
          refine lv_if_eq (tgt := 96) hx hb dX7_answer_89 (by decide) (fun hc => ?_) (fun hc => ?_)
          · have hv32 := hv31.1 hc
            refine lv_iconst (v := 0) hx hb dX7_answer_96 (by decide) ?_
            refine lv_goto (tgt := 111) hx hb dX7_answer_97 (by decide) ?_
            exact sj_retI hC hD.2 hH hr rfl hv32 ⟨(Nat.le_of_ble_eq_true rfl), (Nat.le_of_ble_eq_true rfl)⟩ dX7_answer_111
          · have hv33 := hv31.2 hc
            refine lv_iconst (v := 1) hx hb dX7_answer_92 (by decide) ?_
            refine lv_goto (tgt := 111) hx hb dX7_answer_93 (by decide) ?_
            exact sj_retI hC hD.2 hH hr rfl hv33 ⟨(Nat.le_of_ble_eq_true rfl), (Nat.le_of_ble_eq_true rfl)⟩ dX7_answer_111
      clear hE19
      refine lv_icmp_ne (tgt := 78) hx hb dX7_answer_64 (by decide) (fun hc => ?_) (fun hc => ?_)
      · have hv24 := hv22.1 hc
        refine lv_iconst (v := 0) hx hb dX7_answer_78 (by decide) ?_
        exact hJ20 0 w16 _ _ _ (lv_sub hl [3, 0] rfl) hH hv24
      · have hv25 := hv22.2 hc
        refine lv_iload hx hb dX7_answer_67 (lv_at hl 0 rfl) ?_
        refine lv_iload hx hb dX7_answer_69 (lv_at hl 6 rfl) ?_
        refine lv_icmp_ne (tgt := 78) hx hb dX7_answer_71 (by decide) (fun hc => ?_) (fun hc => ?_)
        · have hv26 := hv25.1 hc
          refine lv_iconst (v := 0) hx hb dX7_answer_78 (by decide) ?_
          exact hJ20 0 w16 _ _ _ (lv_sub hl [3, 0] rfl) hH hv26
        · have hv27 := hv25.2 hc
          refine lv_iconst (v := 1) hx hb dX7_answer_74 (by decide) ?_
          refine lv_goto (tgt := 79) hx hb dX7_answer_75 (by decide) ?_
          exact hJ20 1 w16 _ _ _ (lv_sub hl [3, 0] rfl) hH hv27
    · have hv34 := hv13.2 hc
      refine lv_aload_n hx hb dX7_answer_12 rfl (lv_at hl 0 rfl) ?_
      refine lv_iload_n hx hb dX7_answer_13 rfl (lv_at hl 1 rfl) ?_
      refine lv_iload_n hx hb dX7_answer_14 rfl (lv_at hl 2 rfl) ?_
      refine lv_bipush (v := 99) hx hb dX7_answer_15 (by decide) ?_
      obtain ⟨E35, hE36, hv39⟩ := sj_jn3_e hv34
      have hJ37 : ∀ (y0_27 : Int32) (y1_27 : Int32) (y2_27 : Nat) (w_27 : sj_W) (H : Heap) (locs : List Loc) (ls : Array Slot), lv_has ls 11 [(3, .int a3), (4, .int a4), (5, .int a5), (6, .int a6), (7, .int a7), (8, .int a8)] → sj_H G s w_27 H locs → E35 y0_27 y1_27 y2_27 w_27 → W p l e rm_X7_answer s m args below meth c H locs 0 0 (sj_MQ G below (va_Qi Q (sj_B G) (sj_F G)) QX args s rm_X7_answer) (F0 m 27 ls [.int y0_27, .int y1_27, .ref y2_27]) := by
        intro y0_27 y1_27 y2_27 w_27 H locs ls hl hH hv40
        rw [hE36] at hv40
        refine lv_iload_n hx hb dX7_answer_27 rfl (lv_at hl 0 rfl) ?_
        refine lv_iload hx hb dX7_answer_28 (lv_at hl 1 rfl) ?_
        refine lv_iload hx hb dX7_answer_30 (lv_at hl 2 rfl) ?_
        refine lv_iload hx hb dX7_answer_32 (lv_at hl 3 rfl) ?_
        refine lv_iload hx hb dX7_answer_34 (lv_at hl 4 rfl) ?_
        refine lv_iload hx hb dX7_answer_36 (lv_at hl 5 rfl) ?_
        refine cl_X7_122 hC hD hH hv40.2 hv40.1 ⟨Nat.le_of_ble_eq_true rfl, Nat.le_of_ble_eq_true rfl⟩ ⟨(Nat.le_of_ble_eq_true rfl), (Nat.le_of_ble_eq_true rfl)⟩ ⟨(Nat.le_of_ble_eq_true rfl), (Nat.le_of_ble_eq_true rfl)⟩ hl.1 (Nat.le_of_ble_eq_true rfl) dX7_answer_38 (fun r43 w44 H locs hH hv45 => ?_)
        exact sj_retI hC hD.2 hH hr rfl hv45 ⟨(Nat.le_of_ble_eq_true rfl), (Nat.le_of_ble_eq_true rfl)⟩ dX7_answer_41
      clear hE36
      refine lv_icmp_ne (tgt := 25) hx hb dX7_answer_17 (by decide) (fun hc => ?_) (fun hc => ?_)
      · have hv41 := hv39.1 hc
        refine lv_bipush (v := 117) hx hb dX7_answer_25 (by decide) ?_
        exact hJ37 117 a1 self w _ _ _ (lv_sub hl [3, 4, 5, 6, 7, 8] rfl) hH hv41
      · have hv42 := hv39.2 hc
        refine lv_bipush (v := 115) hx hb dX7_answer_20 (by decide) ?_
        refine lv_goto (tgt := 27) hx hb dX7_answer_22 (by decide) ?_
        exact hJ37 115 a1 self w _ _ _ (lv_sub hl [3, 4, 5, 6, 7, 8] rfl) hH hv42
section SJL_X7_answer
variable {p : Program} {l : Launch} {e : Env} {R : Room} {s : State} {m : MethodId} {args : Array Value} {below : List Frame} {meth : Method} {c : Code} {H : Heap} {locs : List Loc} {cells slots : Nat} {Q : State → Prop} {cc : ByteArray} {pc : Nat} {ls : Array Slot} {rest : List Value} {G : sj_G} {nL : Nat} {w : sj_W}
theorem cl_X7_137 {rmM : Room} {QcM : Array Value → State → Outcome → State → Prop} {QX : String → sj_W → Prop} {b : Nat} {b0 : Int32} {b1 : Int32} {b2 : Int32} {b3 : Int32} {b4 : Int32} {b5 : Int32} {b6 : Int32} {b7 : Int32} {Qi : Int32 → sj_W → Prop} (hC : sj_C G p l s m args c cc RX7 nL) (hD : sj_D meth c) (hH : sj_H G s w H locs) (hv : vc_X7_answer b b0 b1 b2 b3 b4 b5 b6 b7 w Qi) (hT : sj_T w b = 6) (hR : rm_X7_answer.frames + 1 ≤ R.frames ∧ 8 + (11 + 11) + rm_X7_answer.locals ≤ R.locals) (hf : cells + 0 ≤ R.cells ∧ slots + 0 ≤ R.slots) (hfM : cells + 0 ≤ rmM.cells ∧ slots + 0 ≤ rmM.slots) (hls : ls.size = nL) (hW : (rest.map fun v => v.category).sum ≤ 8) (hdg : decode cc pc = .ok (.invokevirtual 137, 3)) (kk : ∀ (r : Int32) (w1 : sj_W) (H : Heap) (locs : List Loc), sj_H G s w1 H locs → Qi r w1 → W p l e R s m args below meth c H locs (cells + 0) (slots + 0) (sj_MQ G below QcM QX args s rmM) (F0 m (pc + 3) ls (.int r :: rest))) : W p l e R s m args below meth c H locs cells slots (sj_MQ G below QcM QX args s rmM) (F0 m pc ls (.int b7 :: .int b6 :: .int b5 :: .int b4 :: .int b3 :: .int b2 :: .int b1 :: .int b0 :: .ref b :: rest)) :=
  sj_cI hD hH (sj_runV (n := 8) hC hH (As := [.int b0, .int b1, .int b2, .int b3, .int b4, .int b5, .int b6, .int b7]) (wk_X7_answer G l hC.2.2.2.2.2.2 b b0 b1 b2 b3 b4 b5 b6 b7 w Qi QX hv) (ci := 5) rfl (by decide) hT mb_862 mb_864 mb_s34 mb_5 mb_865 (by decide +kernel) hR hf rfl hls hW hdg) hfM kk
end SJL_X7_answer
abbrev rm_X7_isKind : Room := { frames := 1, cells := 0, slots := 0, locals := 20 }
def vc_X7_isKind (a1 : Int32) (w : sj_W) (Q : Int32 → sj_W → Prop) : Prop := vc_X7_kindOf a1 w (fun r1 w2 => ((r1 < 0 → Q 0 w2) ∧ (¬ r1 < 0 → Q 1 w2)))
set_option maxHeartbeats 4000000 in
set_option maxRecDepth 100000 in
theorem wk_X7_isKind (G : sj_G) (l : Launch) (hlt : l.stackTraces = false) (a1 : Int32) (w : sj_W) (Q : Int32 → sj_W → Prop) (QX : String → sj_W → Prop) (hv : vc_X7_isKind a1 w Q) : sj_MI G l yX7_isKind (sj_ws yX7_isKind cX7_isKind 1 (some .boolean)) rm_X7_isKind [.int a1] w Q QX := by
  refine sj_of (by decide +kernel) (Nat.le_of_ble_eq_true rfl) hlt ?_
  intro p e s m args below meth c ls hC hD hr hin hH hl
  have hx := hC.1
  have hb := hC.2.1
  have hl : lv_has ls 1 [(0, .int a1)] := hl
  refine lv_iload_n hx hb dX7_isKind_0 rfl (lv_at hl 0 rfl) ?_
  refine cl_X7_33 hC hD hH hv ⟨Nat.le_of_ble_eq_true rfl, Nat.le_of_ble_eq_true rfl⟩ ⟨(Nat.le_of_ble_eq_true rfl), (Nat.le_of_ble_eq_true rfl)⟩ ⟨(Nat.le_of_ble_eq_true rfl), (Nat.le_of_ble_eq_true rfl)⟩ hl.1 (Nat.le_of_ble_eq_true rfl) dX7_isKind_1 (fun r1 w2 H locs hH hv3 => ?_)
  refine lv_if_lt (tgt := 11) hx hb dX7_isKind_4 (by decide) (fun hc => ?_) (fun hc => ?_)
  · have hv4 := hv3.1 hc
    refine lv_iconst (v := 0) hx hb dX7_isKind_11 (by decide) ?_
    exact sj_retI hC hD.2 hH hr rfl hv4 ⟨(Nat.le_of_ble_eq_true rfl), (Nat.le_of_ble_eq_true rfl)⟩ dX7_isKind_12
  · have hv5 := hv3.2 hc
    refine lv_iconst (v := 1) hx hb dX7_isKind_7 (by decide) ?_
    refine lv_goto (tgt := 12) hx hb dX7_isKind_8 (by decide) ?_
    exact sj_retI hC hD.2 hH hr rfl hv5 ⟨(Nat.le_of_ble_eq_true rfl), (Nat.le_of_ble_eq_true rfl)⟩ dX7_isKind_12
section SJL_X7_isKind
variable {p : Program} {l : Launch} {e : Env} {R : Room} {s : State} {m : MethodId} {args : Array Value} {below : List Frame} {meth : Method} {c : Code} {H : Heap} {locs : List Loc} {cells slots : Nat} {Q : State → Prop} {cc : ByteArray} {pc : Nat} {ls : Array Slot} {rest : List Value} {G : sj_G} {nL : Nat} {w : sj_W}
theorem cl_X7_57 {rmM : Room} {QcM : Array Value → State → Outcome → State → Prop} {QX : String → sj_W → Prop} {b0 : Int32} {Qi : Int32 → sj_W → Prop} (hC : sj_C G p l s m args c cc RX7 nL) (hD : sj_D meth c) (hH : sj_H G s w H locs) (hv : vc_X7_isKind b0 w Qi) (hR : rm_X7_isKind.frames + 1 ≤ R.frames ∧ 8 + (1 + 11) + rm_X7_isKind.locals ≤ R.locals) (hf : cells + 0 ≤ R.cells ∧ slots + 0 ≤ R.slots) (hfM : cells + 0 ≤ rmM.cells ∧ slots + 0 ≤ rmM.slots) (hls : ls.size = nL) (hW : (rest.map fun v => v.category).sum ≤ 8) (hdg : decode cc pc = .ok (.invokestatic 57, 3)) (kk : ∀ (r : Int32) (w1 : sj_W) (H : Heap) (locs : List Loc), sj_H G s w1 H locs → Qi r w1 → W p l e R s m args below meth c H locs (cells + 0) (slots + 0) (sj_MQ G below QcM QX args s rmM) (F0 m (pc + 3) ls (.int r :: rest))) : W p l e R s m args below meth c H locs cells slots (sj_MQ G below QcM QX args s rmM) (F0 m pc ls (.int b0 :: rest)) :=
  sj_cI hD hH (sj_runS (n := 1) hC hH (As := [.int b0]) (wk_X7_isKind G l hC.2.2.2.2.2.2 b0 w Qi QX hv) mb_743 mb_744 mb_5 mb_745 (by decide +kernel) hR hf rfl hls hW hdg) hfM kk
end SJL_X7_isKind
abbrev rm_X7_in : Room := { frames := 0, cells := 0, slots := 0, locals := 0 }
def vc_X7_in (a1 : Int64) (a2 : Int64) (a3 : Int64) (w : sj_W) (Q : Int32 → sj_W → Prop) : Prop := (((lg_cmp a1 a2) < 0 → Q 0 w) ∧ (¬ (lg_cmp a1 a2) < 0 → ((0 < (lg_cmp a1 a3) → Q 0 w) ∧ (¬ 0 < (lg_cmp a1 a3) → Q 1 w))))
set_option maxHeartbeats 4000000 in
set_option maxRecDepth 100000 in
theorem wk_X7_in (G : sj_G) (l : Launch) (hlt : l.stackTraces = false) (a1 : Int64) (a2 : Int64) (a3 : Int64) (w : sj_W) (Q : Int32 → sj_W → Prop) (QX : String → sj_W → Prop) (hv : vc_X7_in a1 a2 a3 w Q) : sj_MI G l yX7_in (sj_ws yX7_in cX7_in 6 (some .boolean)) rm_X7_in [.long a1, .long a2, .long a3] w Q QX := by
  refine sj_of (by decide +kernel) (Nat.le_of_ble_eq_true rfl) hlt ?_
  intro p e s m args below meth c ls hC hD hr hin hH hl
  have hx := hC.1
  have hb := hC.2.1
  have hl : lv_has ls 6 [(0, .long a1), (2, .long a2), (4, .long a3)] := hl
  refine lv_lload_n hx hb dX7_in_0 rfl (lv_at hl 0 rfl) ?_
  refine lv_lload_n hx hb dX7_in_1 rfl (lv_at hl 1 rfl) ?_
  refine W.lcmp hx hb dX7_in_2 ?_
  refine lv_if_lt (tgt := 17) hx hb dX7_in_3 (by decide) (fun hc => ?_) (fun hc => ?_)
  · have hv1 := hv.1 hc
    refine lv_iconst (v := 0) hx hb dX7_in_17 (by decide) ?_
    exact sj_retI hC hD.2 hH hr rfl hv1 ⟨(Nat.le_of_ble_eq_true rfl), (Nat.le_of_ble_eq_true rfl)⟩ dX7_in_18
  · have hv2 := hv.2 hc
    refine lv_lload_n hx hb dX7_in_6 rfl (lv_at hl 0 rfl) ?_
    refine lv_lload hx hb dX7_in_7 (lv_at hl 2 rfl) ?_
    refine W.lcmp hx hb dX7_in_9 ?_
    refine lv_if_gt (tgt := 17) hx hb dX7_in_10 (by decide) (fun hc => ?_) (fun hc => ?_)
    · have hv3 := hv2.1 hc
      refine lv_iconst (v := 0) hx hb dX7_in_17 (by decide) ?_
      exact sj_retI hC hD.2 hH hr rfl hv3 ⟨(Nat.le_of_ble_eq_true rfl), (Nat.le_of_ble_eq_true rfl)⟩ dX7_in_18
    · have hv4 := hv2.2 hc
      refine lv_iconst (v := 1) hx hb dX7_in_13 (by decide) ?_
      refine lv_goto (tgt := 18) hx hb dX7_in_14 (by decide) ?_
      exact sj_retI hC hD.2 hH hr rfl hv4 ⟨(Nat.le_of_ble_eq_true rfl), (Nat.le_of_ble_eq_true rfl)⟩ dX7_in_18
section SJL_X7_in
variable {p : Program} {l : Launch} {e : Env} {R : Room} {s : State} {m : MethodId} {args : Array Value} {below : List Frame} {meth : Method} {c : Code} {H : Heap} {locs : List Loc} {cells slots : Nat} {Q : State → Prop} {cc : ByteArray} {pc : Nat} {ls : Array Slot} {rest : List Value} {G : sj_G} {nL : Nat} {w : sj_W}
theorem cl_X7_39 {rmM : Room} {QcM : Array Value → State → Outcome → State → Prop} {QX : String → sj_W → Prop} {b0 : Int64} {b1 : Int64} {b2 : Int64} {Qi : Int32 → sj_W → Prop} (hC : sj_C G p l s m args c cc RX7 nL) (hD : sj_D meth c) (hH : sj_H G s w H locs) (hv : vc_X7_in b0 b1 b2 w Qi) (hR : rm_X7_in.frames + 1 ≤ R.frames ∧ 8 + (6 + 11) + rm_X7_in.locals ≤ R.locals) (hf : cells + 0 ≤ R.cells ∧ slots + 0 ≤ R.slots) (hfM : cells + 0 ≤ rmM.cells ∧ slots + 0 ≤ rmM.slots) (hls : ls.size = nL) (hW : (rest.map fun v => v.category).sum ≤ 8) (hdg : decode cc pc = .ok (.invokestatic 39, 3)) (kk : ∀ (r : Int32) (w1 : sj_W) (H : Heap) (locs : List Loc), sj_H G s w1 H locs → Qi r w1 → W p l e R s m args below meth c H locs (cells + 0) (slots + 0) (sj_MQ G below QcM QX args s rmM) (F0 m (pc + 3) ls (.int r :: rest))) : W p l e R s m args below meth c H locs cells slots (sj_MQ G below QcM QX args s rmM) (F0 m pc ls (.long b2 :: .long b1 :: .long b0 :: rest)) :=
  sj_cI hD hH (sj_runS (n := 3) hC hH (As := [.long b0, .long b1, .long b2]) (wk_X7_in G l hC.2.2.2.2.2.2 b0 b1 b2 w Qi QX hv) mb_754 mb_755 mb_5 mb_756 (by decide +kernel) hR hf rfl hls hW hdg) hfM kk
end SJL_X7_in
abbrev rm_X7_isOf : Room := { frames := 1, cells := 0, slots := 0, locals := 25 }
def vc_X7_isOf (a1 : Int32) (a2 : Int64) (w : sj_W) (Q : Int32 → sj_W → Prop) : Prop := ((a1 = 3 → Q 1 w) ∧ (¬ a1 = 3 → ((¬ a1 = 2 → ((¬ a1 = 1 → vc_X7_in a2 (-128) 127 w (fun r5 w6 => ((r5 = 0 → Q 0 w6) ∧ (¬ r5 = 0 → Q 1 w6)))) ∧ (a1 = 1 → vc_X7_in a2 (-32768) 32767 w (fun r11 w12 => ((¬ r11 = 0 → Q 1 w12) ∧ (r11 = 0 → vc_X7_in a2 (-128) 127 w12 (fun r16 w17 => ((r16 = 0 → Q 0 w17) ∧ (¬ r16 = 0 → Q 1 w17))))))))) ∧ (a1 = 2 → vc_X7_in a2 (-2147483648) 2147483647 w (fun r22 w23 => ((¬ r22 = 0 → Q 1 w23) ∧ (r22 = 0 → ((¬ a1 = 1 → vc_X7_in a2 (-128) 127 w23 (fun r28 w29 => ((r28 = 0 → Q 0 w29) ∧ (¬ r28 = 0 → Q 1 w29)))) ∧ (a1 = 1 → vc_X7_in a2 (-32768) 32767 w23 (fun r34 w35 => ((¬ r34 = 0 → Q 1 w35) ∧ (r34 = 0 → vc_X7_in a2 (-128) 127 w35 (fun r39 w40 => ((r39 = 0 → Q 0 w40) ∧ (¬ r39 = 0 → Q 1 w40)))))))))))))))
set_option maxHeartbeats 4000000 in
set_option maxRecDepth 100000 in
theorem wk_X7_isOf (G : sj_G) (l : Launch) (hlt : l.stackTraces = false) (a1 : Int32) (a2 : Int64) (w : sj_W) (Q : Int32 → sj_W → Prop) (QX : String → sj_W → Prop) (hv : vc_X7_isOf a1 a2 w Q) : sj_MI G l yX7_isOf (sj_ws yX7_isOf cX7_isOf 3 (some .boolean)) rm_X7_isOf [.int a1, .long a2] w Q QX := by
  refine sj_of (by decide +kernel) (Nat.le_of_ble_eq_true rfl) hlt ?_
  intro p e s m args below meth c ls hC hD hr hin hH hl
  have hx := hC.1
  have hb := hC.2.1
  have hl : lv_has ls 3 [(0, .int a1), (1, .long a2)] := hl
  refine lv_iload_n hx hb dX7_isOf_0 rfl (lv_at hl 0 rfl) ?_
  refine lv_iconst (v := 3) hx hb dX7_isOf_1 (by decide) ?_
  refine lv_icmp_eq (tgt := 54) hx hb dX7_isOf_2 (by decide) (fun hc => ?_) (fun hc => ?_)
  · have hv1 := hv.1 hc
    refine lv_iconst (v := 1) hx hb dX7_isOf_54 (by decide) ?_
    refine lv_goto (tgt := 59) hx hb dX7_isOf_55 (by decide) ?_
    exact sj_retI hC hD.2 hH hr rfl hv1 ⟨(Nat.le_of_ble_eq_true rfl), (Nat.le_of_ble_eq_true rfl)⟩ dX7_isOf_59
  · have hv2 := hv.2 hc
    refine lv_iload_n hx hb dX7_isOf_5 rfl (lv_at hl 0 rfl) ?_
    refine lv_iconst (v := 2) hx hb dX7_isOf_6 (by decide) ?_
    refine lv_icmp_ne (tgt := 23) hx hb dX7_isOf_7 (by decide) (fun hc => ?_) (fun hc => ?_)
    · have hv3 := hv2.1 hc
      refine lv_iload_n hx hb dX7_isOf_23 rfl (lv_at hl 0 rfl) ?_
      refine lv_iconst (v := 1) hx hb dX7_isOf_24 (by decide) ?_
      refine lv_icmp_ne (tgt := 41) hx hb dX7_isOf_25 (by decide) (fun hc => ?_) (fun hc => ?_)
      · have hv4 := hv3.1 hc
        refine lv_lload_n hx hb dX7_isOf_41 rfl (lv_at hl 1 rfl) ?_
        refine lv_ldc2 (v := (-128)) hx hb hC.2.2.2.1 (hC.2.2.2.2.1 _ mb_759) dX7_isOf_42 ?_
        refine lv_ldc2 (v := 127) hx hb hC.2.2.2.1 (hC.2.2.2.2.1 _ mb_760) dX7_isOf_45 ?_
        refine cl_X7_39 hC hD hH hv4 ⟨Nat.le_of_ble_eq_true rfl, Nat.le_of_ble_eq_true rfl⟩ ⟨(Nat.le_of_ble_eq_true rfl), (Nat.le_of_ble_eq_true rfl)⟩ ⟨(Nat.le_of_ble_eq_true rfl), (Nat.le_of_ble_eq_true rfl)⟩ hl.1 (Nat.le_of_ble_eq_true rfl) dX7_isOf_48 (fun r5 w6 H locs hH hv7 => ?_)
        refine lv_if_eq (tgt := 58) hx hb dX7_isOf_51 (by decide) (fun hc => ?_) (fun hc => ?_)
        · have hv8 := hv7.1 hc
          refine lv_iconst (v := 0) hx hb dX7_isOf_58 (by decide) ?_
          exact sj_retI hC hD.2 hH hr rfl hv8 ⟨(Nat.le_of_ble_eq_true rfl), (Nat.le_of_ble_eq_true rfl)⟩ dX7_isOf_59
        · have hv9 := hv7.2 hc
          refine lv_iconst (v := 1) hx hb dX7_isOf_54 (by decide) ?_
          refine lv_goto (tgt := 59) hx hb dX7_isOf_55 (by decide) ?_
          exact sj_retI hC hD.2 hH hr rfl hv9 ⟨(Nat.le_of_ble_eq_true rfl), (Nat.le_of_ble_eq_true rfl)⟩ dX7_isOf_59
      · have hv10 := hv3.2 hc
        refine lv_lload_n hx hb dX7_isOf_28 rfl (lv_at hl 1 rfl) ?_
        refine lv_ldc2 (v := (-32768)) hx hb hC.2.2.2.1 (hC.2.2.2.2.1 _ mb_757) dX7_isOf_29 ?_
        refine lv_ldc2 (v := 32767) hx hb hC.2.2.2.1 (hC.2.2.2.2.1 _ mb_758) dX7_isOf_32 ?_
        refine cl_X7_39 hC hD hH hv10 ⟨Nat.le_of_ble_eq_true rfl, Nat.le_of_ble_eq_true rfl⟩ ⟨(Nat.le_of_ble_eq_true rfl), (Nat.le_of_ble_eq_true rfl)⟩ ⟨(Nat.le_of_ble_eq_true rfl), (Nat.le_of_ble_eq_true rfl)⟩ hl.1 (Nat.le_of_ble_eq_true rfl) dX7_isOf_35 (fun r11 w12 H locs hH hv13 => ?_)
        refine lv_if_ne (tgt := 54) hx hb dX7_isOf_38 (by decide) (fun hc => ?_) (fun hc => ?_)
        · have hv14 := hv13.1 hc
          refine lv_iconst (v := 1) hx hb dX7_isOf_54 (by decide) ?_
          refine lv_goto (tgt := 59) hx hb dX7_isOf_55 (by decide) ?_
          exact sj_retI hC hD.2 hH hr rfl hv14 ⟨(Nat.le_of_ble_eq_true rfl), (Nat.le_of_ble_eq_true rfl)⟩ dX7_isOf_59
        · have hv15 := hv13.2 hc
          refine lv_lload_n hx hb dX7_isOf_41 rfl (lv_at hl 1 rfl) ?_
          refine lv_ldc2 (v := (-128)) hx hb hC.2.2.2.1 (hC.2.2.2.2.1 _ mb_759) dX7_isOf_42 ?_
          refine lv_ldc2 (v := 127) hx hb hC.2.2.2.1 (hC.2.2.2.2.1 _ mb_760) dX7_isOf_45 ?_
          refine cl_X7_39 hC hD hH hv15 ⟨Nat.le_of_ble_eq_true rfl, Nat.le_of_ble_eq_true rfl⟩ ⟨(Nat.le_of_ble_eq_true rfl), (Nat.le_of_ble_eq_true rfl)⟩ ⟨(Nat.le_of_ble_eq_true rfl), (Nat.le_of_ble_eq_true rfl)⟩ hl.1 (Nat.le_of_ble_eq_true rfl) dX7_isOf_48 (fun r16 w17 H locs hH hv18 => ?_)
          refine lv_if_eq (tgt := 58) hx hb dX7_isOf_51 (by decide) (fun hc => ?_) (fun hc => ?_)
          · have hv19 := hv18.1 hc
            refine lv_iconst (v := 0) hx hb dX7_isOf_58 (by decide) ?_
            exact sj_retI hC hD.2 hH hr rfl hv19 ⟨(Nat.le_of_ble_eq_true rfl), (Nat.le_of_ble_eq_true rfl)⟩ dX7_isOf_59
          · have hv20 := hv18.2 hc
            refine lv_iconst (v := 1) hx hb dX7_isOf_54 (by decide) ?_
            refine lv_goto (tgt := 59) hx hb dX7_isOf_55 (by decide) ?_
            exact sj_retI hC hD.2 hH hr rfl hv20 ⟨(Nat.le_of_ble_eq_true rfl), (Nat.le_of_ble_eq_true rfl)⟩ dX7_isOf_59
    · have hv21 := hv2.2 hc
      refine lv_lload_n hx hb dX7_isOf_10 rfl (lv_at hl 1 rfl) ?_
      refine lv_ldc2 (v := (-2147483648)) hx hb hC.2.2.2.1 (hC.2.2.2.2.1 _ mb_752) dX7_isOf_11 ?_
      refine lv_ldc2 (v := 2147483647) hx hb hC.2.2.2.1 (hC.2.2.2.2.1 _ mb_753) dX7_isOf_14 ?_
      refine cl_X7_39 hC hD hH hv21 ⟨Nat.le_of_ble_eq_true rfl, Nat.le_of_ble_eq_true rfl⟩ ⟨(Nat.le_of_ble_eq_true rfl), (Nat.le_of_ble_eq_true rfl)⟩ ⟨(Nat.le_of_ble_eq_true rfl), (Nat.le_of_ble_eq_true rfl)⟩ hl.1 (Nat.le_of_ble_eq_true rfl) dX7_isOf_17 (fun r22 w23 H locs hH hv24 => ?_)
      refine lv_if_ne (tgt := 54) hx hb dX7_isOf_20 (by decide) (fun hc => ?_) (fun hc => ?_)
      · have hv25 := hv24.1 hc
        refine lv_iconst (v := 1) hx hb dX7_isOf_54 (by decide) ?_
        refine lv_goto (tgt := 59) hx hb dX7_isOf_55 (by decide) ?_
        exact sj_retI hC hD.2 hH hr rfl hv25 ⟨(Nat.le_of_ble_eq_true rfl), (Nat.le_of_ble_eq_true rfl)⟩ dX7_isOf_59
      · have hv26 := hv24.2 hc
        refine lv_iload_n hx hb dX7_isOf_23 rfl (lv_at hl 0 rfl) ?_
        refine lv_iconst (v := 1) hx hb dX7_isOf_24 (by decide) ?_
        refine lv_icmp_ne (tgt := 41) hx hb dX7_isOf_25 (by decide) (fun hc => ?_) (fun hc => ?_)
        · have hv27 := hv26.1 hc
          refine lv_lload_n hx hb dX7_isOf_41 rfl (lv_at hl 1 rfl) ?_
          refine lv_ldc2 (v := (-128)) hx hb hC.2.2.2.1 (hC.2.2.2.2.1 _ mb_759) dX7_isOf_42 ?_
          refine lv_ldc2 (v := 127) hx hb hC.2.2.2.1 (hC.2.2.2.2.1 _ mb_760) dX7_isOf_45 ?_
          refine cl_X7_39 hC hD hH hv27 ⟨Nat.le_of_ble_eq_true rfl, Nat.le_of_ble_eq_true rfl⟩ ⟨(Nat.le_of_ble_eq_true rfl), (Nat.le_of_ble_eq_true rfl)⟩ ⟨(Nat.le_of_ble_eq_true rfl), (Nat.le_of_ble_eq_true rfl)⟩ hl.1 (Nat.le_of_ble_eq_true rfl) dX7_isOf_48 (fun r28 w29 H locs hH hv30 => ?_)
          refine lv_if_eq (tgt := 58) hx hb dX7_isOf_51 (by decide) (fun hc => ?_) (fun hc => ?_)
          · have hv31 := hv30.1 hc
            refine lv_iconst (v := 0) hx hb dX7_isOf_58 (by decide) ?_
            exact sj_retI hC hD.2 hH hr rfl hv31 ⟨(Nat.le_of_ble_eq_true rfl), (Nat.le_of_ble_eq_true rfl)⟩ dX7_isOf_59
          · have hv32 := hv30.2 hc
            refine lv_iconst (v := 1) hx hb dX7_isOf_54 (by decide) ?_
            refine lv_goto (tgt := 59) hx hb dX7_isOf_55 (by decide) ?_
            exact sj_retI hC hD.2 hH hr rfl hv32 ⟨(Nat.le_of_ble_eq_true rfl), (Nat.le_of_ble_eq_true rfl)⟩ dX7_isOf_59
        · have hv33 := hv26.2 hc
          refine lv_lload_n hx hb dX7_isOf_28 rfl (lv_at hl 1 rfl) ?_
          refine lv_ldc2 (v := (-32768)) hx hb hC.2.2.2.1 (hC.2.2.2.2.1 _ mb_757) dX7_isOf_29 ?_
          refine lv_ldc2 (v := 32767) hx hb hC.2.2.2.1 (hC.2.2.2.2.1 _ mb_758) dX7_isOf_32 ?_
          refine cl_X7_39 hC hD hH hv33 ⟨Nat.le_of_ble_eq_true rfl, Nat.le_of_ble_eq_true rfl⟩ ⟨(Nat.le_of_ble_eq_true rfl), (Nat.le_of_ble_eq_true rfl)⟩ ⟨(Nat.le_of_ble_eq_true rfl), (Nat.le_of_ble_eq_true rfl)⟩ hl.1 (Nat.le_of_ble_eq_true rfl) dX7_isOf_35 (fun r34 w35 H locs hH hv36 => ?_)
          refine lv_if_ne (tgt := 54) hx hb dX7_isOf_38 (by decide) (fun hc => ?_) (fun hc => ?_)
          · have hv37 := hv36.1 hc
            refine lv_iconst (v := 1) hx hb dX7_isOf_54 (by decide) ?_
            refine lv_goto (tgt := 59) hx hb dX7_isOf_55 (by decide) ?_
            exact sj_retI hC hD.2 hH hr rfl hv37 ⟨(Nat.le_of_ble_eq_true rfl), (Nat.le_of_ble_eq_true rfl)⟩ dX7_isOf_59
          · have hv38 := hv36.2 hc
            refine lv_lload_n hx hb dX7_isOf_41 rfl (lv_at hl 1 rfl) ?_
            refine lv_ldc2 (v := (-128)) hx hb hC.2.2.2.1 (hC.2.2.2.2.1 _ mb_759) dX7_isOf_42 ?_
            refine lv_ldc2 (v := 127) hx hb hC.2.2.2.1 (hC.2.2.2.2.1 _ mb_760) dX7_isOf_45 ?_
            refine cl_X7_39 hC hD hH hv38 ⟨Nat.le_of_ble_eq_true rfl, Nat.le_of_ble_eq_true rfl⟩ ⟨(Nat.le_of_ble_eq_true rfl), (Nat.le_of_ble_eq_true rfl)⟩ ⟨(Nat.le_of_ble_eq_true rfl), (Nat.le_of_ble_eq_true rfl)⟩ hl.1 (Nat.le_of_ble_eq_true rfl) dX7_isOf_48 (fun r39 w40 H locs hH hv41 => ?_)
            refine lv_if_eq (tgt := 58) hx hb dX7_isOf_51 (by decide) (fun hc => ?_) (fun hc => ?_)
            · have hv42 := hv41.1 hc
              refine lv_iconst (v := 0) hx hb dX7_isOf_58 (by decide) ?_
              exact sj_retI hC hD.2 hH hr rfl hv42 ⟨(Nat.le_of_ble_eq_true rfl), (Nat.le_of_ble_eq_true rfl)⟩ dX7_isOf_59
            · have hv43 := hv41.2 hc
              refine lv_iconst (v := 1) hx hb dX7_isOf_54 (by decide) ?_
              refine lv_goto (tgt := 59) hx hb dX7_isOf_55 (by decide) ?_
              exact sj_retI hC hD.2 hH hr rfl hv43 ⟨(Nat.le_of_ble_eq_true rfl), (Nat.le_of_ble_eq_true rfl)⟩ dX7_isOf_59
section SJL_X7_isOf
variable {p : Program} {l : Launch} {e : Env} {R : Room} {s : State} {m : MethodId} {args : Array Value} {below : List Frame} {meth : Method} {c : Code} {H : Heap} {locs : List Loc} {cells slots : Nat} {Q : State → Prop} {cc : ByteArray} {pc : Nat} {ls : Array Slot} {rest : List Value} {G : sj_G} {nL : Nat} {w : sj_W}
theorem cl_X7_65 {rmM : Room} {QcM : Array Value → State → Outcome → State → Prop} {QX : String → sj_W → Prop} {b0 : Int32} {b1 : Int64} {Qi : Int32 → sj_W → Prop} (hC : sj_C G p l s m args c cc RX7 nL) (hD : sj_D meth c) (hH : sj_H G s w H locs) (hv : vc_X7_isOf b0 b1 w Qi) (hR : rm_X7_isOf.frames + 1 ≤ R.frames ∧ 8 + (3 + 11) + rm_X7_isOf.locals ≤ R.locals) (hf : cells + 0 ≤ R.cells ∧ slots + 0 ≤ R.slots) (hfM : cells + 0 ≤ rmM.cells ∧ slots + 0 ≤ rmM.slots) (hls : ls.size = nL) (hW : (rest.map fun v => v.category).sum ≤ 8) (hdg : decode cc pc = .ok (.invokestatic 65, 3)) (kk : ∀ (r : Int32) (w1 : sj_W) (H : Heap) (locs : List Loc), sj_H G s w1 H locs → Qi r w1 → W p l e R s m args below meth c H locs (cells + 0) (slots + 0) (sj_MQ G below QcM QX args s rmM) (F0 m (pc + 3) ls (.int r :: rest))) : W p l e R s m args below meth c H locs cells slots (sj_MQ G below QcM QX args s rmM) (F0 m pc ls (.long b1 :: .int b0 :: rest)) :=
  sj_cI hD hH (sj_runS (n := 2) hC hH (As := [.int b0, .long b1]) (wk_X7_isOf G l hC.2.2.2.2.2.2 b0 b1 w Qi QX hv) mb_749 mb_750 mb_5 mb_751 (by decide +kernel) hR hf rfl hls hW hdg) hfM kk
end SJL_X7_isOf
abbrev rm_X7_isRow : Room := { frames := 1, cells := 0, slots := 0, locals := 25 }
def vc_X7_isRow (a1 : Int32) (w : sj_W) (Q : Int32 → sj_W → Prop) : Prop := vc_X7_in (a1.toInt64) 0 3 w (fun r1 w2 => (r1 = 0 ∨ r1 = 1) ∧ Q r1 w2)
set_option maxHeartbeats 4000000 in
set_option maxRecDepth 100000 in
theorem wk_X7_isRow (G : sj_G) (l : Launch) (hlt : l.stackTraces = false) (a1 : Int32) (w : sj_W) (Q : Int32 → sj_W → Prop) (QX : String → sj_W → Prop) (hv : vc_X7_isRow a1 w Q) : sj_MI G l yX7_isRow (sj_ws yX7_isRow cX7_isRow 1 (some .boolean)) rm_X7_isRow [.int a1] w Q QX := by
  refine sj_of (by decide +kernel) (Nat.le_of_ble_eq_true rfl) hlt ?_
  intro p e s m args below meth c ls hC hD hr hin hH hl
  have hx := hC.1
  have hb := hC.2.1
  have hl : lv_has ls 1 [(0, .int a1)] := hl
  refine lv_iload_n hx hb dX7_isRow_0 rfl (lv_at hl 0 rfl) ?_
  refine lv_i2l hx hb dX7_isRow_1 rfl ?_
  refine lv_lconst (v := 0) hx hb dX7_isRow_2 (by decide) ?_
  refine lv_ldc2 (v := 3) hx hb hC.2.2.2.1 (hC.2.2.2.2.1 _ mb_764) dX7_isRow_3 ?_
  refine cl_X7_39 hC hD hH hv ⟨Nat.le_of_ble_eq_true rfl, Nat.le_of_ble_eq_true rfl⟩ ⟨(Nat.le_of_ble_eq_true rfl), (Nat.le_of_ble_eq_true rfl)⟩ ⟨(Nat.le_of_ble_eq_true rfl), (Nat.le_of_ble_eq_true rfl)⟩ hl.1 (Nat.le_of_ble_eq_true rfl) dX7_isRow_6 (fun r1 w2 H locs hH hv3 => ?_)
  exact sj_retI hC hD.2 hH hr (sj_nz hv3.1).1 hv3.2 ⟨(Nat.le_of_ble_eq_true rfl), (Nat.le_of_ble_eq_true rfl)⟩ dX7_isRow_9
section SJL_X7_isRow
variable {p : Program} {l : Launch} {e : Env} {R : Room} {s : State} {m : MethodId} {args : Array Value} {below : List Frame} {meth : Method} {c : Code} {H : Heap} {locs : List Loc} {cells slots : Nat} {Q : State → Prop} {cc : ByteArray} {pc : Nat} {ls : Array Slot} {rest : List Value} {G : sj_G} {nL : Nat} {w : sj_W}
theorem cl_X7_61 {rmM : Room} {QcM : Array Value → State → Outcome → State → Prop} {QX : String → sj_W → Prop} {b0 : Int32} {Qi : Int32 → sj_W → Prop} (hC : sj_C G p l s m args c cc RX7 nL) (hD : sj_D meth c) (hH : sj_H G s w H locs) (hv : vc_X7_isRow b0 w Qi) (hR : rm_X7_isRow.frames + 1 ≤ R.frames ∧ 8 + (1 + 11) + rm_X7_isRow.locals ≤ R.locals) (hf : cells + 0 ≤ R.cells ∧ slots + 0 ≤ R.slots) (hfM : cells + 0 ≤ rmM.cells ∧ slots + 0 ≤ rmM.slots) (hls : ls.size = nL) (hW : (rest.map fun v => v.category).sum ≤ 8) (hdg : decode cc pc = .ok (.invokestatic 61, 3)) (kk : ∀ (r : Int32) (w1 : sj_W) (H : Heap) (locs : List Loc), sj_H G s w1 H locs → Qi r w1 → W p l e R s m args below meth c H locs (cells + 0) (slots + 0) (sj_MQ G below QcM QX args s rmM) (F0 m (pc + 3) ls (.int r :: rest))) : W p l e R s m args below meth c H locs cells slots (sj_MQ G below QcM QX args s rmM) (F0 m pc ls (.int b0 :: rest)) :=
  sj_cI hD hH (sj_runS (n := 1) hC hH (As := [.int b0]) (wk_X7_isRow G l hC.2.2.2.2.2.2 b0 w Qi QX hv) mb_761 mb_762 mb_5 mb_763 (by decide +kernel) hR hf rfl hls hW hdg) hfM kk
end SJL_X7_isRow
abbrev rm_X7_size : Room := { frames := 1, cells := 0, slots := 0, locals := 20 }
def vc_X7_size (self : Nat) (a1 : Int32) (a2 : Int32) (w : sj_W) (Q : Int32 → sj_W → Prop) : Prop := sj_T w self = 6 ∧ sj_A w 41 self ≠ 0 ∧ vc_X7_kindOf a1 w (fun r1 w2 => sj_T w2 (sj_A w 41 self) = 7 ∧ vp_in ((4 * r1) + a2) (sj_N w2 (sj_A w 41 self)) ∧ Q (sj_i w2 (sj_A w 41 self) ((4 * r1) + a2).toNatClampNeg) w2)
set_option maxHeartbeats 4000000 in
set_option maxRecDepth 100000 in
theorem wk_X7_size (G : sj_G) (l : Launch) (hlt : l.stackTraces = false) (self : Nat) (a1 : Int32) (a2 : Int32) (w : sj_W) (Q : Int32 → sj_W → Prop) (QX : String → sj_W → Prop) (hv : vc_X7_size self a1 a2 w Q) : sj_MI G l yX7_size (sj_ws yX7_size cX7_size 3 (some .int)) rm_X7_size [.ref self, .int a1, .int a2] w Q QX := by
  refine sj_of (by decide +kernel) (Nat.le_of_ble_eq_true rfl) hlt ?_
  intro p e s m args below meth c ls hC hD hr hin hH hl
  have hx := hC.1
  have hb := hC.2.1
  have hl : lv_has ls 3 [(0, .ref self), (1, .int a1), (2, .int a2)] := hl
  refine lv_aload_n hx hb dX7_size_0 rfl (lv_at hl 0 rfl) ?_
  refine gf_X7_13 hC hH hv.1 hv.2.1 dX7_size_1 ?_
  refine lv_iconst (v := 4) hx hb dX7_size_4 (by decide) ?_
  refine lv_iload_n hx hb dX7_size_5 rfl (lv_at hl 1 rfl) ?_
  refine cl_X7_33 hC hD hH hv.2.2 ⟨Nat.le_of_ble_eq_true rfl, Nat.le_of_ble_eq_true rfl⟩ ⟨(Nat.le_of_ble_eq_true rfl), (Nat.le_of_ble_eq_true rfl)⟩ ⟨(Nat.le_of_ble_eq_true rfl), (Nat.le_of_ble_eq_true rfl)⟩ hl.1 (Nat.le_of_ble_eq_true rfl) dX7_size_6 (fun r1 w2 H locs hH hv3 => ?_)
  refine lv_imul hx hb dX7_size_9 ?_
  refine lv_iload_n hx hb dX7_size_10 rfl (lv_at hl 2 rfl) ?_
  refine lv_iadd hx hb dX7_size_11 ?_
  refine sj_iald hC hH hv3.1 hv3.2.1 dX7_size_12 ?_
  exact sj_retI hC hD.2 hH hr rfl hv3.2.2 ⟨(Nat.le_of_ble_eq_true rfl), (Nat.le_of_ble_eq_true rfl)⟩ dX7_size_13
section SJL_X7_size
variable {p : Program} {l : Launch} {e : Env} {R : Room} {s : State} {m : MethodId} {args : Array Value} {below : List Frame} {meth : Method} {c : Code} {H : Heap} {locs : List Loc} {cells slots : Nat} {Q : State → Prop} {cc : ByteArray} {pc : Nat} {ls : Array Slot} {rest : List Value} {G : sj_G} {nL : Nat} {w : sj_W}
theorem cl_X7_69 {rmM : Room} {QcM : Array Value → State → Outcome → State → Prop} {QX : String → sj_W → Prop} {b : Nat} {b0 : Int32} {b1 : Int32} {Qi : Int32 → sj_W → Prop} (hC : sj_C G p l s m args c cc RX7 nL) (hD : sj_D meth c) (hH : sj_H G s w H locs) (hv : vc_X7_size b b0 b1 w Qi) (hT : sj_T w b = 6) (hR : rm_X7_size.frames + 1 ≤ R.frames ∧ 8 + (3 + 11) + rm_X7_size.locals ≤ R.locals) (hf : cells + 0 ≤ R.cells ∧ slots + 0 ≤ R.slots) (hfM : cells + 0 ≤ rmM.cells ∧ slots + 0 ≤ rmM.slots) (hls : ls.size = nL) (hW : (rest.map fun v => v.category).sum ≤ 8) (hdg : decode cc pc = .ok (.invokevirtual 69, 3)) (kk : ∀ (r : Int32) (w1 : sj_W) (H : Heap) (locs : List Loc), sj_H G s w1 H locs → Qi r w1 → W p l e R s m args below meth c H locs (cells + 0) (slots + 0) (sj_MQ G below QcM QX args s rmM) (F0 m (pc + 3) ls (.int r :: rest))) : W p l e R s m args below meth c H locs cells slots (sj_MQ G below QcM QX args s rmM) (F0 m pc ls (.int b1 :: .int b0 :: .ref b :: rest)) :=
  sj_cI hD hH (sj_runV (n := 2) hC hH (As := [.int b0, .int b1]) (wk_X7_size G l hC.2.2.2.2.2.2 b b0 b1 w Qi QX hv) (ci := 5) rfl (by decide) hT mb_765 mb_767 mb_s26 mb_5 mb_768 (by decide +kernel) hR hf rfl hls hW hdg) hfM kk
end SJL_X7_size
abbrev rm_X7_fails : Room := { frames := 0, cells := 0, slots := 0, locals := 0 }
def vc_X7_fails (self : Nat) (a1 : Int32) (w : sj_W) (Q : Int32 → sj_W → Prop) : Prop := sj_T w self = 6 ∧ ∀ w1 : sj_W, w1 = sj_sI w 47 self a1 → ((a1 ≤ 0 → Q 0 w1) ∧ (¬ a1 ≤ 0 → Q 1 w1))
set_option maxHeartbeats 4000000 in
set_option maxRecDepth 100000 in
theorem wk_X7_fails (G : sj_G) (l : Launch) (hlt : l.stackTraces = false) (self : Nat) (a1 : Int32) (w : sj_W) (Q : Int32 → sj_W → Prop) (QX : String → sj_W → Prop) (hv : vc_X7_fails self a1 w Q) : sj_MI G l yX7_fails (sj_ws yX7_fails cX7_fails 2 (some .boolean)) rm_X7_fails [.ref self, .int a1] w Q QX := by
  refine sj_of (by decide +kernel) (Nat.le_of_ble_eq_true rfl) hlt ?_
  intro p e s m args below meth c ls hC hD hr hin hH hl
  have hx := hC.1
  have hb := hC.2.1
  have hl : lv_has ls 2 [(0, .ref self), (1, .int a1)] := hl
  refine lv_aload_n hx hb dX7_fails_0 rfl (lv_at hl 0 rfl) ?_
  refine lv_iload_n hx hb dX7_fails_1 rfl (lv_at hl 1 rfl) ?_
  refine pf_X7_29 hC hH hv.1 dX7_fails_2 (fun w1 H locs e2 hH => ?_)
  refine lv_iload_n hx hb dX7_fails_5 rfl (lv_at hl 1 rfl) ?_
  refine lv_if_le (tgt := 13) hx hb dX7_fails_6 (by decide) (fun hc => ?_) (fun hc => ?_)
  · have hv3 := (hv.2 w1 e2).1 hc
    refine lv_iconst (v := 0) hx hb dX7_fails_13 (by decide) ?_
    exact sj_retI hC hD.2 hH hr rfl hv3 ⟨(Nat.le_of_ble_eq_true rfl), (Nat.le_of_ble_eq_true rfl)⟩ dX7_fails_14
  · have hv4 := (hv.2 w1 e2).2 hc
    refine lv_iconst (v := 1) hx hb dX7_fails_9 (by decide) ?_
    refine lv_goto (tgt := 14) hx hb dX7_fails_10 (by decide) ?_
    exact sj_retI hC hD.2 hH hr rfl hv4 ⟨(Nat.le_of_ble_eq_true rfl), (Nat.le_of_ble_eq_true rfl)⟩ dX7_fails_14
section SJL_X7_fails
variable {p : Program} {l : Launch} {e : Env} {R : Room} {s : State} {m : MethodId} {args : Array Value} {below : List Frame} {meth : Method} {c : Code} {H : Heap} {locs : List Loc} {cells slots : Nat} {Q : State → Prop} {cc : ByteArray} {pc : Nat} {ls : Array Slot} {rest : List Value} {G : sj_G} {nL : Nat} {w : sj_W}
theorem cl_X7_73 {rmM : Room} {QcM : Array Value → State → Outcome → State → Prop} {QX : String → sj_W → Prop} {b : Nat} {b0 : Int32} {Qi : Int32 → sj_W → Prop} (hC : sj_C G p l s m args c cc RX7 nL) (hD : sj_D meth c) (hH : sj_H G s w H locs) (hv : vc_X7_fails b b0 w Qi) (hT : sj_T w b = 6) (hR : rm_X7_fails.frames + 1 ≤ R.frames ∧ 8 + (2 + 11) + rm_X7_fails.locals ≤ R.locals) (hf : cells + 0 ≤ R.cells ∧ slots + 0 ≤ R.slots) (hfM : cells + 0 ≤ rmM.cells ∧ slots + 0 ≤ rmM.slots) (hls : ls.size = nL) (hW : (rest.map fun v => v.category).sum ≤ 8) (hdg : decode cc pc = .ok (.invokevirtual 73, 3)) (kk : ∀ (r : Int32) (w1 : sj_W) (H : Heap) (locs : List Loc), sj_H G s w1 H locs → Qi r w1 → W p l e R s m args below meth c H locs (cells + 0) (slots + 0) (sj_MQ G below QcM QX args s rmM) (F0 m (pc + 3) ls (.int r :: rest))) : W p l e R s m args below meth c H locs cells slots (sj_MQ G below QcM QX args s rmM) (F0 m pc ls (.int b0 :: .ref b :: rest)) :=
  sj_cI hD hH (sj_runV (n := 1) hC hH (As := [.int b0]) (wk_X7_fails G l hC.2.2.2.2.2.2 b b0 w Qi QX hv) (ci := 5) rfl (by decide) hT mb_769 mb_771 mb_s27 mb_5 mb_772 (by decide +kernel) hR hf rfl hls hW hdg) hfM kk
end SJL_X7_fails
abbrev rm_X7_resize : Room := { frames := 1, cells := 0, slots := 0, locals := 20 }
def vc_X7_resize (self : Nat) (a1 : Int32) (a2 : Int32) (a3 : Int32) (w : sj_W) (Q : sj_W → Prop) : Prop := sj_T w self = 6 ∧ sj_A w 41 self ≠ 0 ∧ vc_X7_kindOf a1 w (fun r1 w2 => sj_T w2 (sj_A w 41 self) = 7 ∧ vp_in ((4 * r1) + a2) (sj_N w2 (sj_A w 41 self)) ∧ ∀ w4 : sj_W, w4 = sj_si w2 (sj_A w 41 self) ((4 * r1) + a2).toNatClampNeg a3 → Q w4)
set_option maxHeartbeats 4000000 in
set_option maxRecDepth 100000 in
theorem wk_X7_resize (G : sj_G) (l : Launch) (hlt : l.stackTraces = false) (self : Nat) (a1 : Int32) (a2 : Int32) (a3 : Int32) (w : sj_W) (Q : sj_W → Prop) (QX : String → sj_W → Prop) (hv : vc_X7_resize self a1 a2 a3 w Q) : sj_MV G l yX7_resize (sj_ws yX7_resize cX7_resize 4 none) rm_X7_resize [.ref self, .int a1, .int a2, .int a3] w Q QX := by
  refine sj_of (by decide +kernel) (Nat.le_of_ble_eq_true rfl) hlt ?_
  intro p e s m args below meth c ls hC hD hr hin hH hl
  have hx := hC.1
  have hb := hC.2.1
  have hl : lv_has ls 4 [(0, .ref self), (1, .int a1), (2, .int a2), (3, .int a3)] := hl
  refine lv_aload_n hx hb dX7_resize_0 rfl (lv_at hl 0 rfl) ?_
  refine gf_X7_13 hC hH hv.1 hv.2.1 dX7_resize_1 ?_
  refine lv_iconst (v := 4) hx hb dX7_resize_4 (by decide) ?_
  refine lv_iload_n hx hb dX7_resize_5 rfl (lv_at hl 1 rfl) ?_
  refine cl_X7_33 hC hD hH hv.2.2 ⟨Nat.le_of_ble_eq_true rfl, Nat.le_of_ble_eq_true rfl⟩ ⟨(Nat.le_of_ble_eq_true rfl), (Nat.le_of_ble_eq_true rfl)⟩ ⟨(Nat.le_of_ble_eq_true rfl), (Nat.le_of_ble_eq_true rfl)⟩ hl.1 (Nat.le_of_ble_eq_true rfl) dX7_resize_6 (fun r1 w2 H locs hH hv3 => ?_)
  refine lv_imul hx hb dX7_resize_9 ?_
  refine lv_iload_n hx hb dX7_resize_10 rfl (lv_at hl 2 rfl) ?_
  refine lv_iadd hx hb dX7_resize_11 ?_
  refine lv_iload_n hx hb dX7_resize_12 rfl (lv_at hl 3 rfl) ?_
  refine sj_iast hC hH hv3.1 hv3.2.1 dX7_resize_13 (fun w4 H locs e5 hH => ?_)
  exact sj_retV hC hD.2 hH hr (hv3.2.2 w4 e5) ⟨(Nat.le_of_ble_eq_true rfl), (Nat.le_of_ble_eq_true rfl)⟩ dX7_resize_14
section SJL_X7_resize
variable {p : Program} {l : Launch} {e : Env} {R : Room} {s : State} {m : MethodId} {args : Array Value} {below : List Frame} {meth : Method} {c : Code} {H : Heap} {locs : List Loc} {cells slots : Nat} {Q : State → Prop} {cc : ByteArray} {pc : Nat} {ls : Array Slot} {rest : List Value} {G : sj_G} {nL : Nat} {w : sj_W}
theorem cl_X7_80 {rmM : Room} {QcM : Array Value → State → Outcome → State → Prop} {QX : String → sj_W → Prop} {b : Nat} {b0 : Int32} {b1 : Int32} {b2 : Int32} {Qi : sj_W → Prop} (hC : sj_C G p l s m args c cc RX7 nL) (hD : sj_D meth c) (hH : sj_H G s w H locs) (hv : vc_X7_resize b b0 b1 b2 w Qi) (hT : sj_T w b = 6) (hR : rm_X7_resize.frames + 1 ≤ R.frames ∧ 8 + (4 + 11) + rm_X7_resize.locals ≤ R.locals) (hf : cells + 0 ≤ R.cells ∧ slots + 0 ≤ R.slots) (hfM : cells + 0 ≤ rmM.cells ∧ slots + 0 ≤ rmM.slots) (hls : ls.size = nL) (hW : (rest.map fun v => v.category).sum ≤ 8) (hdg : decode cc pc = .ok (.invokevirtual 80, 3)) (kk : ∀ (w1 : sj_W) (H : Heap) (locs : List Loc), sj_H G s w1 H locs → Qi w1 → W p l e R s m args below meth c H locs (cells + 0) (slots + 0) (sj_MQ G below QcM QX args s rmM) (F0 m (pc + 3) ls rest)) : W p l e R s m args below meth c H locs cells slots (sj_MQ G below QcM QX args s rmM) (F0 m pc ls (.int b2 :: .int b1 :: .int b0 :: .ref b :: rest)) :=
  sj_cV hD hH (sj_runV (n := 3) hC hH (As := [.int b0, .int b1, .int b2]) (wk_X7_resize G l hC.2.2.2.2.2.2 b b0 b1 b2 w Qi QX hv) (ci := 5) rfl (by decide) hT mb_777 mb_779 mb_s29 mb_5 mb_780 (by decide +kernel) hR hf rfl hls hW hdg) hfM kk
end SJL_X7_resize
abbrev rm_X7_append : Room := { frames := 2, cells := 0, slots := 0, locals := 47 }
def vc_X7_append (self : Nat) (a1 : Int32) (a2 : Int32) (a3 : Int64) (w : sj_W) (Q : Int32 → sj_W → Prop) : Prop := vc_X7_isKind a1 w (fun r1 w2 => sj_jn2 (fun (E4 : Int32 → Nat → sj_W → Prop) => ((r1 = 0 → E4 1 self w2) ∧ (¬ r1 = 0 → vc_X7_kindOf a1 w2 (fun r12 w13 => vc_X7_isOf r12 a3 w13 (fun r15 w16 => ((¬ r15 = 0 → vc_X7_isRow a2 w16 (fun r19 w20 => ((¬ r19 = 0 → sj_T w20 self = 6 ∧ vc_X7_size self a1 a2 w20 (fun r23 w24 => ((¬ r23 = 32 → E4 0 self w24) ∧ (r23 = 32 → E4 3 self w24)))) ∧ (r19 = 0 → E4 2 self w20)))) ∧ (r15 = 0 → E4 1 self w16))))))) (fun (y0_50 : Int32) (y1_50 : Nat) (w_50 : sj_W) => sj_T w_50 y1_50 = 6 ∧ vc_X7_fails y1_50 y0_50 w_50 (fun r30 w31 => ((r30 = 0 → sj_T w31 self = 6 ∧ sj_A w31 40 self ≠ 0 ∧ sj_T w31 self = 6 ∧ vc_X7_size self a1 a2 w31 (fun r34 w35 => sj_T w35 self = 6 ∧ vc_X7_at self a1 a2 r34 w35 (fun r37 w38 => sj_T w38 (sj_A w31 40 self) = 8 ∧ vp_in r37 (sj_N w38 (sj_A w31 40 self)) ∧ ∀ w40 : sj_W, w40 = sj_sl w38 (sj_A w31 40 self) r37.toNatClampNeg a3 → sj_T w40 self = 6 ∧ vc_X7_size self a1 a2 w40 (fun r42 w43 => sj_T w43 self = 6 ∧ vc_X7_resize self a1 a2 (r42 + 1) w43 (fun w46 => sj_T w46 self = 6 ∧ vc_X7_size self a1 a2 w46 (fun r48 w49 => Q r48 w49)))))) ∧ (¬ r30 = 0 → Q 0 w31)))))
set_option maxHeartbeats 4000000 in
set_option maxRecDepth 100000 in
theorem wk_X7_append (G : sj_G) (l : Launch) (hlt : l.stackTraces = false) (self : Nat) (a1 : Int32) (a2 : Int32) (a3 : Int64) (w : sj_W) (Q : Int32 → sj_W → Prop) (QX : String → sj_W → Prop) (hv : vc_X7_append self a1 a2 a3 w Q) : sj_MI G l yX7_append (sj_ws yX7_append cX7_append 5 (some .int)) rm_X7_append [.ref self, .int a1, .int a2, .long a3] w Q QX := by
  refine sj_of (by decide +kernel) (Nat.le_of_ble_eq_true rfl) hlt ?_
  intro p e s m args below meth c ls hC hD hr hin hH hl
  have hx := hC.1
  have hb := hC.2.1
  have hl : lv_has ls 5 [(0, .ref self), (1, .int a1), (2, .int a2), (3, .long a3)] := hl
  refine lv_aload_n hx hb dX7_append_0 rfl (lv_at hl 0 rfl) ?_
  refine lv_iload_n hx hb dX7_append_1 rfl (lv_at hl 1 rfl) ?_
  refine cl_X7_57 hC hD hH hv ⟨Nat.le_of_ble_eq_true rfl, Nat.le_of_ble_eq_true rfl⟩ ⟨(Nat.le_of_ble_eq_true rfl), (Nat.le_of_ble_eq_true rfl)⟩ ⟨(Nat.le_of_ble_eq_true rfl), (Nat.le_of_ble_eq_true rfl)⟩ hl.1 (Nat.le_of_ble_eq_true rfl) dX7_append_2 (fun r1 w2 H locs hH hv3 => ?_)
  obtain ⟨E4, hE5, hv8⟩ := sj_jn2_e hv3
  have hJ6 : ∀ (y0_50 : Int32) (y1_50 : Nat) (w_50 : sj_W) (H : Heap) (locs : List Loc) (ls : Array Slot), lv_has ls 5 [(0, .ref self), (1, .int a1), (2, .int a2), (3, .long a3)] → sj_H G s w_50 H locs → E4 y0_50 y1_50 w_50 → W p l e rm_X7_append s m args below meth c H locs 0 0 (sj_MQ G below (va_Qi Q (sj_B G) (sj_F G)) QX args s rm_X7_append) (F0 m 50 ls [.int y0_50, .ref y1_50]) := by
    intro y0_50 y1_50 w_50 H locs ls hl hH hv9
    rw [hE5] at hv9
    refine cl_X7_73 hC hD hH hv9.2 hv9.1 ⟨Nat.le_of_ble_eq_true rfl, Nat.le_of_ble_eq_true rfl⟩ ⟨(Nat.le_of_ble_eq_true rfl), (Nat.le_of_ble_eq_true rfl)⟩ ⟨(Nat.le_of_ble_eq_true rfl), (Nat.le_of_ble_eq_true rfl)⟩ hl.1 (Nat.le_of_ble_eq_true rfl) dX7_append_50 (fun r30 w31 H locs hH hv32 => ?_)
    refine lv_if_eq (tgt := 58) hx hb dX7_append_53 (by decide) (fun hc => ?_) (fun hc => ?_)
    · have hv33 := hv32.1 hc
      refine lv_aload_n hx hb dX7_append_58 rfl (lv_at hl 0 rfl) ?_
      refine gf_X7_7 hC hH hv33.1 hv33.2.1 dX7_append_59 ?_
      refine lv_aload_n hx hb dX7_append_62 rfl (lv_at hl 0 rfl) ?_
      refine lv_iload_n hx hb dX7_append_63 rfl (lv_at hl 1 rfl) ?_
      refine lv_iload_n hx hb dX7_append_64 rfl (lv_at hl 2 rfl) ?_
      refine lv_aload_n hx hb dX7_append_65 rfl (lv_at hl 0 rfl) ?_
      refine lv_iload_n hx hb dX7_append_66 rfl (lv_at hl 1 rfl) ?_
      refine lv_iload_n hx hb dX7_append_67 rfl (lv_at hl 2 rfl) ?_
      refine cl_X7_69 hC hD hH hv33.2.2.2 hv33.2.2.1 ⟨Nat.le_of_ble_eq_true rfl, Nat.le_of_ble_eq_true rfl⟩ ⟨(Nat.le_of_ble_eq_true rfl), (Nat.le_of_ble_eq_true rfl)⟩ ⟨(Nat.le_of_ble_eq_true rfl), (Nat.le_of_ble_eq_true rfl)⟩ hl.1 (Nat.le_of_ble_eq_true rfl) dX7_append_68 (fun r34 w35 H locs hH hv36 => ?_)
      refine cl_X7_76 hC hD hH hv36.2 hv36.1 ⟨Nat.le_of_ble_eq_true rfl, Nat.le_of_ble_eq_true rfl⟩ ⟨(Nat.le_of_ble_eq_true rfl), (Nat.le_of_ble_eq_true rfl)⟩ ⟨(Nat.le_of_ble_eq_true rfl), (Nat.le_of_ble_eq_true rfl)⟩ hl.1 (Nat.le_of_ble_eq_true rfl) dX7_append_71 (fun r37 w38 H locs hH hv39 => ?_)
      refine lv_lload_n hx hb dX7_append_74 rfl (lv_at hl 3 rfl) ?_
      refine sj_last hC hH hv39.1 hv39.2.1 dX7_append_75 (fun w40 H locs e41 hH => ?_)
      refine lv_aload_n hx hb dX7_append_76 rfl (lv_at hl 0 rfl) ?_
      refine lv_iload_n hx hb dX7_append_77 rfl (lv_at hl 1 rfl) ?_
      refine lv_iload_n hx hb dX7_append_78 rfl (lv_at hl 2 rfl) ?_
      refine lv_aload_n hx hb dX7_append_79 rfl (lv_at hl 0 rfl) ?_
      refine lv_iload_n hx hb dX7_append_80 rfl (lv_at hl 1 rfl) ?_
      refine lv_iload_n hx hb dX7_append_81 rfl (lv_at hl 2 rfl) ?_
      refine cl_X7_69 hC hD hH (hv39.2.2 w40 e41).2 (hv39.2.2 w40 e41).1 ⟨Nat.le_of_ble_eq_true rfl, Nat.le_of_ble_eq_true rfl⟩ ⟨(Nat.le_of_ble_eq_true rfl), (Nat.le_of_ble_eq_true rfl)⟩ ⟨(Nat.le_of_ble_eq_true rfl), (Nat.le_of_ble_eq_true rfl)⟩ hl.1 (Nat.le_of_ble_eq_true rfl) dX7_append_82 (fun r42 w43 H locs hH hv44 => ?_)
      refine lv_iconst (v := 1) hx hb dX7_append_85 (by decide) ?_
      refine lv_iadd hx hb dX7_append_86 ?_
      refine cl_X7_80 hC hD hH hv44.2 hv44.1 ⟨Nat.le_of_ble_eq_true rfl, Nat.le_of_ble_eq_true rfl⟩ ⟨(Nat.le_of_ble_eq_true rfl), (Nat.le_of_ble_eq_true rfl)⟩ ⟨(Nat.le_of_ble_eq_true rfl), (Nat.le_of_ble_eq_true rfl)⟩ hl.1 (Nat.le_of_ble_eq_true rfl) dX7_append_87 (fun w46 H locs hH hv47 => ?_)
      refine lv_aload_n hx hb dX7_append_90 rfl (lv_at hl 0 rfl) ?_
      refine lv_iload_n hx hb dX7_append_91 rfl (lv_at hl 1 rfl) ?_
      refine lv_iload_n hx hb dX7_append_92 rfl (lv_at hl 2 rfl) ?_
      refine cl_X7_69 hC hD hH hv47.2 hv47.1 ⟨Nat.le_of_ble_eq_true rfl, Nat.le_of_ble_eq_true rfl⟩ ⟨(Nat.le_of_ble_eq_true rfl), (Nat.le_of_ble_eq_true rfl)⟩ ⟨(Nat.le_of_ble_eq_true rfl), (Nat.le_of_ble_eq_true rfl)⟩ hl.1 (Nat.le_of_ble_eq_true rfl) dX7_append_93 (fun r48 w49 H locs hH hv50 => ?_)
      exact sj_retI hC hD.2 hH hr rfl hv50 ⟨(Nat.le_of_ble_eq_true rfl), (Nat.le_of_ble_eq_true rfl)⟩ dX7_append_96
    · have hv51 := hv32.2 hc
      refine lv_iconst (v := 0) hx hb dX7_append_56 (by decide) ?_
      exact sj_retI hC hD.2 hH hr rfl hv51 ⟨(Nat.le_of_ble_eq_true rfl), (Nat.le_of_ble_eq_true rfl)⟩ dX7_append_57
  clear hE5
  refine lv_if_eq (tgt := 19) hx hb dX7_append_5 (by decide) (fun hc => ?_) (fun hc => ?_)
  · have hv10 := hv8.1 hc
    refine lv_iconst (v := 1) hx hb dX7_append_19 (by decide) ?_
    refine lv_goto (tgt := 50) hx hb dX7_append_20 (by decide) ?_
    exact hJ6 1 self w2 _ _ _ (lv_sub hl [0, 1, 2, 3] rfl) hH hv10
  · have hv11 := hv8.2 hc
    refine lv_iload_n hx hb dX7_append_8 rfl (lv_at hl 1 rfl) ?_
    refine cl_X7_33 hC hD hH hv11 ⟨Nat.le_of_ble_eq_true rfl, Nat.le_of_ble_eq_true rfl⟩ ⟨(Nat.le_of_ble_eq_true rfl), (Nat.le_of_ble_eq_true rfl)⟩ ⟨(Nat.le_of_ble_eq_true rfl), (Nat.le_of_ble_eq_true rfl)⟩ hl.1 (Nat.le_of_ble_eq_true rfl) dX7_append_9 (fun r12 w13 H locs hH hv14 => ?_)
    refine lv_lload_n hx hb dX7_append_12 rfl (lv_at hl 3 rfl) ?_
    refine cl_X7_65 hC hD hH hv14 ⟨Nat.le_of_ble_eq_true rfl, Nat.le_of_ble_eq_true rfl⟩ ⟨(Nat.le_of_ble_eq_true rfl), (Nat.le_of_ble_eq_true rfl)⟩ ⟨(Nat.le_of_ble_eq_true rfl), (Nat.le_of_ble_eq_true rfl)⟩ hl.1 (Nat.le_of_ble_eq_true rfl) dX7_append_13 (fun r15 w16 H locs hH hv17 => ?_)
    refine lv_if_ne (tgt := 23) hx hb dX7_append_16 (by decide) (fun hc => ?_) (fun hc => ?_)
    · have hv18 := hv17.1 hc
      refine lv_iload_n hx hb dX7_append_23 rfl (lv_at hl 2 rfl) ?_
      refine cl_X7_61 hC hD hH hv18 ⟨Nat.le_of_ble_eq_true rfl, Nat.le_of_ble_eq_true rfl⟩ ⟨(Nat.le_of_ble_eq_true rfl), (Nat.le_of_ble_eq_true rfl)⟩ ⟨(Nat.le_of_ble_eq_true rfl), (Nat.le_of_ble_eq_true rfl)⟩ hl.1 (Nat.le_of_ble_eq_true rfl) dX7_append_24 (fun r19 w20 H locs hH hv21 => ?_)
      refine lv_if_ne (tgt := 34) hx hb dX7_append_27 (by decide) (fun hc => ?_) (fun hc => ?_)
      · have hv22 := hv21.1 hc
        refine lv_aload_n hx hb dX7_append_34 rfl (lv_at hl 0 rfl) ?_
        refine lv_iload_n hx hb dX7_append_35 rfl (lv_at hl 1 rfl) ?_
        refine lv_iload_n hx hb dX7_append_36 rfl (lv_at hl 2 rfl) ?_
        refine cl_X7_69 hC hD hH hv22.2 hv22.1 ⟨Nat.le_of_ble_eq_true rfl, Nat.le_of_ble_eq_true rfl⟩ ⟨(Nat.le_of_ble_eq_true rfl), (Nat.le_of_ble_eq_true rfl)⟩ ⟨(Nat.le_of_ble_eq_true rfl), (Nat.le_of_ble_eq_true rfl)⟩ hl.1 (Nat.le_of_ble_eq_true rfl) dX7_append_37 (fun r23 w24 H locs hH hv25 => ?_)
        refine lv_bipush (v := 32) hx hb dX7_append_40 (by decide) ?_
        refine lv_icmp_ne (tgt := 49) hx hb dX7_append_42 (by decide) (fun hc => ?_) (fun hc => ?_)
        · have hv26 := hv25.1 hc
          refine lv_iconst (v := 0) hx hb dX7_append_49 (by decide) ?_
          exact hJ6 0 self w24 _ _ _ (lv_sub hl [0, 1, 2, 3] rfl) hH hv26
        · have hv27 := hv25.2 hc
          refine lv_iconst (v := 3) hx hb dX7_append_45 (by decide) ?_
          refine lv_goto (tgt := 50) hx hb dX7_append_46 (by decide) ?_
          exact hJ6 3 self w24 _ _ _ (lv_sub hl [0, 1, 2, 3] rfl) hH hv27
      · have hv28 := hv21.2 hc
        refine lv_iconst (v := 2) hx hb dX7_append_30 (by decide) ?_
        refine lv_goto (tgt := 50) hx hb dX7_append_31 (by decide) ?_
        exact hJ6 2 self w20 _ _ _ (lv_sub hl [0, 1, 2, 3] rfl) hH hv28
    · have hv29 := hv17.2 hc
      refine lv_iconst (v := 1) hx hb dX7_append_19 (by decide) ?_
      refine lv_goto (tgt := 50) hx hb dX7_append_20 (by decide) ?_
      exact hJ6 1 self w16 _ _ _ (lv_sub hl [0, 1, 2, 3] rfl) hH hv29
section SJL_X7_append
variable {p : Program} {l : Launch} {e : Env} {R : Room} {s : State} {m : MethodId} {args : Array Value} {below : List Frame} {meth : Method} {c : Code} {H : Heap} {locs : List Loc} {cells slots : Nat} {Q : State → Prop} {cc : ByteArray} {pc : Nat} {ls : Array Slot} {rest : List Value} {G : sj_G} {nL : Nat} {w : sj_W}
theorem cg_L_145 {b : Nat} {b0 : Int32} {b1 : Int32} {b2 : Int64} {Qi : Int32 → sj_W → Prop} (hC : sj_C G p l s m args c cc RL nL) (hH : sj_H G s w H locs) (hv : vc_X7_append b b0 b1 b2 w Qi) (hT : sj_T w b = 6) (hR : rm_X7_append.frames + 1 ≤ R.frames ∧ 8 + (5 + 11) + rm_X7_append.locals ≤ R.locals) (hf : cells + 0 ≤ R.cells ∧ slots + 0 ≤ R.slots) (hls : ls.size = nL) (hW : (rest.map fun v => v.category).sum ≤ 8) (hdg : decode cc pc = .ok (.invokevirtual 145, 3)) (kk : ∀ (r : Int32) (w1 : sj_W) (H : Heap) (locs : List Loc), sj_H G s w1 H locs → Qi r w1 → W p l e R s m args below meth c H locs (cells + 0) (slots + 0) Q (F0 m (pc + 3) ls (.int r :: rest))) : W p l e R s m args below meth c H locs cells slots Q (F0 m pc ls (.long b2 :: .int b1 :: .int b0 :: .ref b :: rest)) :=
  sj_xI hH (sj_runV (n := 3) hC hH (As := [.int b0, .int b1, .long b2]) (wk_X7_append G l hC.2.2.2.2.2.2 b b0 b1 b2 w Qi (fun _ _ => False) hv) (ci := 5) rfl (by decide) hT mb_739 mb_740 mb_741 mb_5 mb_742 (by decide +kernel) hR hf rfl hls hW hdg) (fun _ _ _ _ _ _ _ h _ _ _ => h.elim) kk
end SJL_X7_append
abbrev rm_X7_isAsk : Room := { frames := 0, cells := 0, slots := 0, locals := 0 }
def vc_X7_isAsk (a1 : Int32) (w : sj_W) (Q : Int32 → sj_W → Prop) : Prop := ((a1 = 101 → Q 1 w) ∧ (¬ a1 = 101 → ((a1 = 99 → Q 1 w) ∧ (¬ a1 = 99 → ((a1 = 117 → Q 1 w) ∧ (¬ a1 = 117 → ((¬ a1 = 109 → Q 0 w) ∧ (a1 = 109 → Q 1 w))))))))
set_option maxHeartbeats 4000000 in
set_option maxRecDepth 100000 in
theorem wk_X7_isAsk (G : sj_G) (l : Launch) (hlt : l.stackTraces = false) (a1 : Int32) (w : sj_W) (Q : Int32 → sj_W → Prop) (QX : String → sj_W → Prop) (hv : vc_X7_isAsk a1 w Q) : sj_MI G l yX7_isAsk (sj_ws yX7_isAsk cX7_isAsk 1 (some .boolean)) rm_X7_isAsk [.int a1] w Q QX := by
  refine sj_of (by decide +kernel) (Nat.le_of_ble_eq_true rfl) hlt ?_
  intro p e s m args below meth c ls hC hD hr hin hH hl
  have hx := hC.1
  have hb := hC.2.1
  have hl : lv_has ls 1 [(0, .int a1)] := hl
  refine lv_iload_n hx hb dX7_isAsk_0 rfl (lv_at hl 0 rfl) ?_
  refine lv_bipush (v := 101) hx hb dX7_isAsk_1 (by decide) ?_
  refine lv_icmp_eq (tgt := 24) hx hb dX7_isAsk_3 (by decide) (fun hc => ?_) (fun hc => ?_)
  · have hv1 := hv.1 hc
    refine lv_iconst (v := 1) hx hb dX7_isAsk_24 (by decide) ?_
    refine lv_goto (tgt := 29) hx hb dX7_isAsk_25 (by decide) ?_
    exact sj_retI hC hD.2 hH hr rfl hv1 ⟨(Nat.le_of_ble_eq_true rfl), (Nat.le_of_ble_eq_true rfl)⟩ dX7_isAsk_29
  · have hv2 := hv.2 hc
    refine lv_iload_n hx hb dX7_isAsk_6 rfl (lv_at hl 0 rfl) ?_
    refine lv_bipush (v := 99) hx hb dX7_isAsk_7 (by decide) ?_
    refine lv_icmp_eq (tgt := 24) hx hb dX7_isAsk_9 (by decide) (fun hc => ?_) (fun hc => ?_)
    · have hv3 := hv2.1 hc
      refine lv_iconst (v := 1) hx hb dX7_isAsk_24 (by decide) ?_
      refine lv_goto (tgt := 29) hx hb dX7_isAsk_25 (by decide) ?_
      exact sj_retI hC hD.2 hH hr rfl hv3 ⟨(Nat.le_of_ble_eq_true rfl), (Nat.le_of_ble_eq_true rfl)⟩ dX7_isAsk_29
    · have hv4 := hv2.2 hc
      refine lv_iload_n hx hb dX7_isAsk_12 rfl (lv_at hl 0 rfl) ?_
      refine lv_bipush (v := 117) hx hb dX7_isAsk_13 (by decide) ?_
      refine lv_icmp_eq (tgt := 24) hx hb dX7_isAsk_15 (by decide) (fun hc => ?_) (fun hc => ?_)
      · have hv5 := hv4.1 hc
        refine lv_iconst (v := 1) hx hb dX7_isAsk_24 (by decide) ?_
        refine lv_goto (tgt := 29) hx hb dX7_isAsk_25 (by decide) ?_
        exact sj_retI hC hD.2 hH hr rfl hv5 ⟨(Nat.le_of_ble_eq_true rfl), (Nat.le_of_ble_eq_true rfl)⟩ dX7_isAsk_29
      · have hv6 := hv4.2 hc
        refine lv_iload_n hx hb dX7_isAsk_18 rfl (lv_at hl 0 rfl) ?_
        refine lv_bipush (v := 109) hx hb dX7_isAsk_19 (by decide) ?_
        refine lv_icmp_ne (tgt := 28) hx hb dX7_isAsk_21 (by decide) (fun hc => ?_) (fun hc => ?_)
        · have hv7 := hv6.1 hc
          refine lv_iconst (v := 0) hx hb dX7_isAsk_28 (by decide) ?_
          exact sj_retI hC hD.2 hH hr rfl hv7 ⟨(Nat.le_of_ble_eq_true rfl), (Nat.le_of_ble_eq_true rfl)⟩ dX7_isAsk_29
        · have hv8 := hv6.2 hc
          refine lv_iconst (v := 1) hx hb dX7_isAsk_24 (by decide) ?_
          refine lv_goto (tgt := 29) hx hb dX7_isAsk_25 (by decide) ?_
          exact sj_retI hC hD.2 hH hr rfl hv8 ⟨(Nat.le_of_ble_eq_true rfl), (Nat.le_of_ble_eq_true rfl)⟩ dX7_isAsk_29
section SJL_X7_isAsk
variable {p : Program} {l : Launch} {e : Env} {R : Room} {s : State} {m : MethodId} {args : Array Value} {below : List Frame} {meth : Method} {c : Code} {H : Heap} {locs : List Loc} {cells slots : Nat} {Q : State → Prop} {cc : ByteArray} {pc : Nat} {ls : Array Slot} {rest : List Value} {G : sj_G} {nL : Nat} {w : sj_W}
theorem cl_X7_126 {rmM : Room} {QcM : Array Value → State → Outcome → State → Prop} {QX : String → sj_W → Prop} {b0 : Int32} {Qi : Int32 → sj_W → Prop} (hC : sj_C G p l s m args c cc RX7 nL) (hD : sj_D meth c) (hH : sj_H G s w H locs) (hv : vc_X7_isAsk b0 w Qi) (hR : rm_X7_isAsk.frames + 1 ≤ R.frames ∧ 8 + (1 + 11) + rm_X7_isAsk.locals ≤ R.locals) (hf : cells + 0 ≤ R.cells ∧ slots + 0 ≤ R.slots) (hfM : cells + 0 ≤ rmM.cells ∧ slots + 0 ≤ rmM.slots) (hls : ls.size = nL) (hW : (rest.map fun v => v.category).sum ≤ 8) (hdg : decode cc pc = .ok (.invokestatic 126, 3)) (kk : ∀ (r : Int32) (w1 : sj_W) (H : Heap) (locs : List Loc), sj_H G s w1 H locs → Qi r w1 → W p l e R s m args below meth c H locs (cells + 0) (slots + 0) (sj_MQ G below QcM QX args s rmM) (F0 m (pc + 3) ls (.int r :: rest))) : W p l e R s m args below meth c H locs cells slots (sj_MQ G below QcM QX args s rmM) (F0 m pc ls (.int b0 :: rest)) :=
  sj_cI hD hH (sj_runS (n := 1) hC hH (As := [.int b0]) (wk_X7_isAsk G l hC.2.2.2.2.2.2 b0 w Qi QX hv) mb_851 mb_852 mb_5 mb_853 (by decide +kernel) hR hf rfl hls hW hdg) hfM kk
end SJL_X7_isAsk
abbrev rm_X7_isSpan : Room := { frames := 1, cells := 0, slots := 0, locals := 25 }
def vc_X7_isSpan (a1 : Int32) (w : sj_W) (Q : Int32 → sj_W → Prop) : Prop := vc_X7_in (a1.toInt64) 0 11 w (fun r1 w2 => (r1 = 0 ∨ r1 = 1) ∧ Q r1 w2)
set_option maxHeartbeats 4000000 in
set_option maxRecDepth 100000 in
theorem wk_X7_isSpan (G : sj_G) (l : Launch) (hlt : l.stackTraces = false) (a1 : Int32) (w : sj_W) (Q : Int32 → sj_W → Prop) (QX : String → sj_W → Prop) (hv : vc_X7_isSpan a1 w Q) : sj_MI G l yX7_isSpan (sj_ws yX7_isSpan cX7_isSpan 1 (some .boolean)) rm_X7_isSpan [.int a1] w Q QX := by
  refine sj_of (by decide +kernel) (Nat.le_of_ble_eq_true rfl) hlt ?_
  intro p e s m args below meth c ls hC hD hr hin hH hl
  have hx := hC.1
  have hb := hC.2.1
  have hl : lv_has ls 1 [(0, .int a1)] := hl
  refine lv_iload_n hx hb dX7_isSpan_0 rfl (lv_at hl 0 rfl) ?_
  refine lv_i2l hx hb dX7_isSpan_1 rfl ?_
  refine lv_lconst (v := 0) hx hb dX7_isSpan_2 (by decide) ?_
  refine lv_ldc2 (v := 11) hx hb hC.2.2.2.1 (hC.2.2.2.2.1 _ mb_833) dX7_isSpan_3 ?_
  refine cl_X7_39 hC hD hH hv ⟨Nat.le_of_ble_eq_true rfl, Nat.le_of_ble_eq_true rfl⟩ ⟨(Nat.le_of_ble_eq_true rfl), (Nat.le_of_ble_eq_true rfl)⟩ ⟨(Nat.le_of_ble_eq_true rfl), (Nat.le_of_ble_eq_true rfl)⟩ hl.1 (Nat.le_of_ble_eq_true rfl) dX7_isSpan_6 (fun r1 w2 H locs hH hv3 => ?_)
  exact sj_retI hC hD.2 hH hr (sj_nz hv3.1).1 hv3.2 ⟨(Nat.le_of_ble_eq_true rfl), (Nat.le_of_ble_eq_true rfl)⟩ dX7_isSpan_9
section SJL_X7_isSpan
variable {p : Program} {l : Launch} {e : Env} {R : Room} {s : State} {m : MethodId} {args : Array Value} {below : List Frame} {meth : Method} {c : Code} {H : Heap} {locs : List Loc} {cells slots : Nat} {Q : State → Prop} {cc : ByteArray} {pc : Nat} {ls : Array Slot} {rest : List Value} {G : sj_G} {nL : Nat} {w : sj_W}
theorem cl_X7_105 {rmM : Room} {QcM : Array Value → State → Outcome → State → Prop} {QX : String → sj_W → Prop} {b0 : Int32} {Qi : Int32 → sj_W → Prop} (hC : sj_C G p l s m args c cc RX7 nL) (hD : sj_D meth c) (hH : sj_H G s w H locs) (hv : vc_X7_isSpan b0 w Qi) (hR : rm_X7_isSpan.frames + 1 ≤ R.frames ∧ 8 + (1 + 11) + rm_X7_isSpan.locals ≤ R.locals) (hf : cells + 0 ≤ R.cells ∧ slots + 0 ≤ R.slots) (hfM : cells + 0 ≤ rmM.cells ∧ slots + 0 ≤ rmM.slots) (hls : ls.size = nL) (hW : (rest.map fun v => v.category).sum ≤ 8) (hdg : decode cc pc = .ok (.invokestatic 105, 3)) (kk : ∀ (r : Int32) (w1 : sj_W) (H : Heap) (locs : List Loc), sj_H G s w1 H locs → Qi r w1 → W p l e R s m args below meth c H locs (cells + 0) (slots + 0) (sj_MQ G below QcM QX args s rmM) (F0 m (pc + 3) ls (.int r :: rest))) : W p l e R s m args below meth c H locs cells slots (sj_MQ G below QcM QX args s rmM) (F0 m pc ls (.int b0 :: rest)) :=
  sj_cI hD hH (sj_runS (n := 1) hC hH (As := [.int b0]) (wk_X7_isSpan G l hC.2.2.2.2.2.2 b0 w Qi QX hv) mb_830 mb_831 mb_5 mb_832 (by decide +kernel) hR hf rfl hls hW hdg) hfM kk
end SJL_X7_isSpan
abbrev rm_X7_isFit : Room := { frames := 2, cells := 0, slots := 0, locals := 42 }
def vc_X7_isFit (self : Nat) (a1 : Int32) (a2 : Int32) (w : sj_W) (Q : Int32 → sj_W → Prop) : Prop := sj_T w self = 6 ∧ sj_A w 44 self ≠ 0 ∧ sj_T w (sj_A w 44 self) = 7 ∧ vp_in a2 (sj_N w (sj_A w 44 self)) ∧ sj_T w self = 6 ∧ sj_A w 42 self ≠ 0 ∧ sj_T w (sj_A w 42 self) = 7 ∧ vp_in a2 (sj_N w (sj_A w 42 self)) ∧ sj_T w self = 6 ∧ vc_X7_size self a1 (sj_i w (sj_A w 42 self) a2.toNatClampNeg) w (fun r1 w2 => ((r1 < (sj_i w (sj_A w 44 self) a2.toNatClampNeg) → Q 0 w2) ∧ (¬ r1 < (sj_i w (sj_A w 44 self) a2.toNatClampNeg) → Q 1 w2)))
set_option maxHeartbeats 4000000 in
set_option maxRecDepth 100000 in
theorem wk_X7_isFit (G : sj_G) (l : Launch) (hlt : l.stackTraces = false) (self : Nat) (a1 : Int32) (a2 : Int32) (w : sj_W) (Q : Int32 → sj_W → Prop) (QX : String → sj_W → Prop) (hv : vc_X7_isFit self a1 a2 w Q) : sj_MI G l yX7_isFit (sj_ws yX7_isFit cX7_isFit 3 (some .boolean)) rm_X7_isFit [.ref self, .int a1, .int a2] w Q QX := by
  refine sj_of (by decide +kernel) (Nat.le_of_ble_eq_true rfl) hlt ?_
  intro p e s m args below meth c ls hC hD hr hin hH hl
  have hx := hC.1
  have hb := hC.2.1
  have hl : lv_has ls 3 [(0, .ref self), (1, .int a1), (2, .int a2)] := hl
  refine lv_aload_n hx hb dX7_isFit_0 rfl (lv_at hl 0 rfl) ?_
  refine gf_X7_23 hC hH hv.1 hv.2.1 dX7_isFit_1 ?_
  refine lv_iload_n hx hb dX7_isFit_4 rfl (lv_at hl 2 rfl) ?_
  refine sj_iald hC hH hv.2.2.1 hv.2.2.2.1 dX7_isFit_5 ?_
  refine lv_aload_n hx hb dX7_isFit_6 rfl (lv_at hl 0 rfl) ?_
  refine lv_iload_n hx hb dX7_isFit_7 rfl (lv_at hl 1 rfl) ?_
  refine lv_aload_n hx hb dX7_isFit_8 rfl (lv_at hl 0 rfl) ?_
  refine gf_X7_17 hC hH hv.2.2.2.2.1 hv.2.2.2.2.2.1 dX7_isFit_9 ?_
  refine lv_iload_n hx hb dX7_isFit_12 rfl (lv_at hl 2 rfl) ?_
  refine sj_iald hC hH hv.2.2.2.2.2.2.1 hv.2.2.2.2.2.2.2.1 dX7_isFit_13 ?_
  refine cl_X7_69 hC hD hH hv.2.2.2.2.2.2.2.2.2 hv.2.2.2.2.2.2.2.2.1 ⟨Nat.le_of_ble_eq_true rfl, Nat.le_of_ble_eq_true rfl⟩ ⟨(Nat.le_of_ble_eq_true rfl), (Nat.le_of_ble_eq_true rfl)⟩ ⟨(Nat.le_of_ble_eq_true rfl), (Nat.le_of_ble_eq_true rfl)⟩ hl.1 (Nat.le_of_ble_eq_true rfl) dX7_isFit_14 (fun r1 w2 H locs hH hv3 => ?_)
  refine lv_icmp_gt (tgt := 24) hx hb dX7_isFit_17 (by decide) (fun hc => ?_) (fun hc => ?_)
  · have hv4 := hv3.1 hc
    refine lv_iconst (v := 0) hx hb dX7_isFit_24 (by decide) ?_
    exact sj_retI hC hD.2 hH hr rfl hv4 ⟨(Nat.le_of_ble_eq_true rfl), (Nat.le_of_ble_eq_true rfl)⟩ dX7_isFit_25
  · have hv5 := hv3.2 hc
    refine lv_iconst (v := 1) hx hb dX7_isFit_20 (by decide) ?_
    refine lv_goto (tgt := 25) hx hb dX7_isFit_21 (by decide) ?_
    exact sj_retI hC hD.2 hH hr rfl hv5 ⟨(Nat.le_of_ble_eq_true rfl), (Nat.le_of_ble_eq_true rfl)⟩ dX7_isFit_25
section SJL_X7_isFit
variable {p : Program} {l : Launch} {e : Env} {R : Room} {s : State} {m : MethodId} {args : Array Value} {below : List Frame} {meth : Method} {c : Code} {H : Heap} {locs : List Loc} {cells slots : Nat} {Q : State → Prop} {cc : ByteArray} {pc : Nat} {ls : Array Slot} {rest : List Value} {G : sj_G} {nL : Nat} {w : sj_W}
theorem cl_X7_110 {rmM : Room} {QcM : Array Value → State → Outcome → State → Prop} {QX : String → sj_W → Prop} {b : Nat} {b0 : Int32} {b1 : Int32} {Qi : Int32 → sj_W → Prop} (hC : sj_C G p l s m args c cc RX7 nL) (hD : sj_D meth c) (hH : sj_H G s w H locs) (hv : vc_X7_isFit b b0 b1 w Qi) (hT : sj_T w b = 6) (hR : rm_X7_isFit.frames + 1 ≤ R.frames ∧ 8 + (3 + 11) + rm_X7_isFit.locals ≤ R.locals) (hf : cells + 0 ≤ R.cells ∧ slots + 0 ≤ R.slots) (hfM : cells + 0 ≤ rmM.cells ∧ slots + 0 ≤ rmM.slots) (hls : ls.size = nL) (hW : (rest.map fun v => v.category).sum ≤ 8) (hdg : decode cc pc = .ok (.invokevirtual 110, 3)) (kk : ∀ (r : Int32) (w1 : sj_W) (H : Heap) (locs : List Loc), sj_H G s w1 H locs → Qi r w1 → W p l e R s m args below meth c H locs (cells + 0) (slots + 0) (sj_MQ G below QcM QX args s rmM) (F0 m (pc + 3) ls (.int r :: rest))) : W p l e R s m args below meth c H locs cells slots (sj_MQ G below QcM QX args s rmM) (F0 m pc ls (.int b1 :: .int b0 :: .ref b :: rest)) :=
  sj_cI hD hH (sj_runV (n := 2) hC hH (As := [.int b0, .int b1]) (wk_X7_isFit G l hC.2.2.2.2.2.2 b b0 b1 w Qi QX hv) (ci := 5) rfl (by decide) hT mb_843 mb_845 mb_s31 mb_5 mb_846 (by decide +kernel) hR hf rfl hls hW hdg) hfM kk
end SJL_X7_isFit
abbrev rm_X7_noWords : Room := { frames := 3, cells := 0, slots := 0, locals := 64 }
def vc_X7_noWords (self : Nat) (a1 : Int32) (a2 : Int32) (a3 : Int32) (a4 : Int32) (w : sj_W) (Q : Int32 → sj_W → Prop) : Prop := ((¬ a1 = 0 → vc_X7_isSpan a3 w (fun r2 w3 => ((r2 = 0 → Q 2 w3) ∧ (¬ r2 = 0 → vc_X7_isSpan a4 w3 (fun r7 w8 => ((¬ r7 = 0 → sj_T w8 self = 6 ∧ vc_X7_isFit self a2 a3 w8 (fun r11 w12 => ((r11 = 0 → Q 3 w12) ∧ (¬ r11 = 0 → sj_T w12 self = 6 ∧ vc_X7_isFit self a2 a4 w12 (fun r16 w17 => ((r16 = 0 → Q 3 w17) ∧ (¬ r16 = 0 → Q 0 w17))))))) ∧ (r7 = 0 → Q 2 w8))))))) ∧ (a1 = 0 → Q 1 w))
set_option maxHeartbeats 4000000 in
set_option maxRecDepth 100000 in
theorem wk_X7_noWords (G : sj_G) (l : Launch) (hlt : l.stackTraces = false) (self : Nat) (a1 : Int32) (a2 : Int32) (a3 : Int32) (a4 : Int32) (w : sj_W) (Q : Int32 → sj_W → Prop) (QX : String → sj_W → Prop) (hv : vc_X7_noWords self a1 a2 a3 a4 w Q) : sj_MI G l yX7_noWords (sj_ws yX7_noWords cX7_noWords 5 (some .int)) rm_X7_noWords [.ref self, .int a1, .int a2, .int a3, .int a4] w Q QX := by
  refine sj_of (by decide +kernel) (Nat.le_of_ble_eq_true rfl) hlt ?_
  intro p e s m args below meth c ls hC hD hr hin hH hl
  have hx := hC.1
  have hb := hC.2.1
  have hl : lv_has ls 5 [(0, .ref self), (1, .int a1), (2, .int a2), (3, .int a3), (4, .int a4)] := hl
  refine lv_iload_n hx hb dX7_noWords_0 rfl (lv_at hl 1 rfl) ?_
  refine lv_if_ne (tgt := 8) hx hb dX7_noWords_1 (by decide) (fun hc => ?_) (fun hc => ?_)
  · have hv1 := hv.1 hc
    refine lv_iload_n hx hb dX7_noWords_8 rfl (lv_at hl 3 rfl) ?_
    refine cl_X7_105 hC hD hH hv1 ⟨Nat.le_of_ble_eq_true rfl, Nat.le_of_ble_eq_true rfl⟩ ⟨(Nat.le_of_ble_eq_true rfl), (Nat.le_of_ble_eq_true rfl)⟩ ⟨(Nat.le_of_ble_eq_true rfl), (Nat.le_of_ble_eq_true rfl)⟩ hl.1 (Nat.le_of_ble_eq_true rfl) dX7_noWords_9 (fun r2 w3 H locs hH hv4 => ?_)
    refine lv_if_eq (tgt := 23) hx hb dX7_noWords_12 (by decide) (fun hc => ?_) (fun hc => ?_)
    · have hv5 := hv4.1 hc
      refine lv_iconst (v := 2) hx hb dX7_noWords_23 (by decide) ?_
      refine lv_goto (tgt := 51) hx hb dX7_noWords_24 (by decide) ?_
      exact sj_retI hC hD.2 hH hr rfl hv5 ⟨(Nat.le_of_ble_eq_true rfl), (Nat.le_of_ble_eq_true rfl)⟩ dX7_noWords_51
    · have hv6 := hv4.2 hc
      refine lv_iload hx hb dX7_noWords_15 (lv_at hl 4 rfl) ?_
      refine cl_X7_105 hC hD hH hv6 ⟨Nat.le_of_ble_eq_true rfl, Nat.le_of_ble_eq_true rfl⟩ ⟨(Nat.le_of_ble_eq_true rfl), (Nat.le_of_ble_eq_true rfl)⟩ ⟨(Nat.le_of_ble_eq_true rfl), (Nat.le_of_ble_eq_true rfl)⟩ hl.1 (Nat.le_of_ble_eq_true rfl) dX7_noWords_17 (fun r7 w8 H locs hH hv9 => ?_)
      refine lv_if_ne (tgt := 27) hx hb dX7_noWords_20 (by decide) (fun hc => ?_) (fun hc => ?_)
      · have hv10 := hv9.1 hc
        refine lv_aload_n hx hb dX7_noWords_27 rfl (lv_at hl 0 rfl) ?_
        refine lv_iload_n hx hb dX7_noWords_28 rfl (lv_at hl 2 rfl) ?_
        refine lv_iload_n hx hb dX7_noWords_29 rfl (lv_at hl 3 rfl) ?_
        refine cl_X7_110 hC hD hH hv10.2 hv10.1 ⟨Nat.le_of_ble_eq_true rfl, Nat.le_of_ble_eq_true rfl⟩ ⟨(Nat.le_of_ble_eq_true rfl), (Nat.le_of_ble_eq_true rfl)⟩ ⟨(Nat.le_of_ble_eq_true rfl), (Nat.le_of_ble_eq_true rfl)⟩ hl.1 (Nat.le_of_ble_eq_true rfl) dX7_noWords_30 (fun r11 w12 H locs hH hv13 => ?_)
        refine lv_if_eq (tgt := 50) hx hb dX7_noWords_33 (by decide) (fun hc => ?_) (fun hc => ?_)
        · have hv14 := hv13.1 hc
          refine lv_iconst (v := 3) hx hb dX7_noWords_50 (by decide) ?_
          exact sj_retI hC hD.2 hH hr rfl hv14 ⟨(Nat.le_of_ble_eq_true rfl), (Nat.le_of_ble_eq_true rfl)⟩ dX7_noWords_51
        · have hv15 := hv13.2 hc
          refine lv_aload_n hx hb dX7_noWords_36 rfl (lv_at hl 0 rfl) ?_
          refine lv_iload_n hx hb dX7_noWords_37 rfl (lv_at hl 2 rfl) ?_
          refine lv_iload hx hb dX7_noWords_38 (lv_at hl 4 rfl) ?_
          refine cl_X7_110 hC hD hH hv15.2 hv15.1 ⟨Nat.le_of_ble_eq_true rfl, Nat.le_of_ble_eq_true rfl⟩ ⟨(Nat.le_of_ble_eq_true rfl), (Nat.le_of_ble_eq_true rfl)⟩ ⟨(Nat.le_of_ble_eq_true rfl), (Nat.le_of_ble_eq_true rfl)⟩ hl.1 (Nat.le_of_ble_eq_true rfl) dX7_noWords_40 (fun r16 w17 H locs hH hv18 => ?_)
          refine lv_if_eq (tgt := 50) hx hb dX7_noWords_43 (by decide) (fun hc => ?_) (fun hc => ?_)
          · have hv19 := hv18.1 hc
            refine lv_iconst (v := 3) hx hb dX7_noWords_50 (by decide) ?_
            exact sj_retI hC hD.2 hH hr rfl hv19 ⟨(Nat.le_of_ble_eq_true rfl), (Nat.le_of_ble_eq_true rfl)⟩ dX7_noWords_51
          · have hv20 := hv18.2 hc
            refine lv_iconst (v := 0) hx hb dX7_noWords_46 (by decide) ?_
            refine lv_goto (tgt := 51) hx hb dX7_noWords_47 (by decide) ?_
            exact sj_retI hC hD.2 hH hr rfl hv20 ⟨(Nat.le_of_ble_eq_true rfl), (Nat.le_of_ble_eq_true rfl)⟩ dX7_noWords_51
      · have hv21 := hv9.2 hc
        refine lv_iconst (v := 2) hx hb dX7_noWords_23 (by decide) ?_
        refine lv_goto (tgt := 51) hx hb dX7_noWords_24 (by decide) ?_
        exact sj_retI hC hD.2 hH hr rfl hv21 ⟨(Nat.le_of_ble_eq_true rfl), (Nat.le_of_ble_eq_true rfl)⟩ dX7_noWords_51
  · have hv22 := hv.2 hc
    refine lv_iconst (v := 1) hx hb dX7_noWords_4 (by decide) ?_
    refine lv_goto (tgt := 51) hx hb dX7_noWords_5 (by decide) ?_
    exact sj_retI hC hD.2 hH hr rfl hv22 ⟨(Nat.le_of_ble_eq_true rfl), (Nat.le_of_ble_eq_true rfl)⟩ dX7_noWords_51
section SJL_X7_noWords
variable {p : Program} {l : Launch} {e : Env} {R : Room} {s : State} {m : MethodId} {args : Array Value} {below : List Frame} {meth : Method} {c : Code} {H : Heap} {locs : List Loc} {cells slots : Nat} {Q : State → Prop} {cc : ByteArray} {pc : Nat} {ls : Array Slot} {rest : List Value} {G : sj_G} {nL : Nat} {w : sj_W}
theorem cl_X7_129 {rmM : Room} {QcM : Array Value → State → Outcome → State → Prop} {QX : String → sj_W → Prop} {b : Nat} {b0 : Int32} {b1 : Int32} {b2 : Int32} {b3 : Int32} {Qi : Int32 → sj_W → Prop} (hC : sj_C G p l s m args c cc RX7 nL) (hD : sj_D meth c) (hH : sj_H G s w H locs) (hv : vc_X7_noWords b b0 b1 b2 b3 w Qi) (hT : sj_T w b = 6) (hR : rm_X7_noWords.frames + 1 ≤ R.frames ∧ 8 + (5 + 11) + rm_X7_noWords.locals ≤ R.locals) (hf : cells + 0 ≤ R.cells ∧ slots + 0 ≤ R.slots) (hfM : cells + 0 ≤ rmM.cells ∧ slots + 0 ≤ rmM.slots) (hls : ls.size = nL) (hW : (rest.map fun v => v.category).sum ≤ 8) (hdg : decode cc pc = .ok (.invokevirtual 129, 3)) (kk : ∀ (r : Int32) (w1 : sj_W) (H : Heap) (locs : List Loc), sj_H G s w1 H locs → Qi r w1 → W p l e R s m args below meth c H locs (cells + 0) (slots + 0) (sj_MQ G below QcM QX args s rmM) (F0 m (pc + 3) ls (.int r :: rest))) : W p l e R s m args below meth c H locs cells slots (sj_MQ G below QcM QX args s rmM) (F0 m pc ls (.int b3 :: .int b2 :: .int b1 :: .int b0 :: .ref b :: rest)) :=
  sj_cI hD hH (sj_runV (n := 4) hC hH (As := [.int b0, .int b1, .int b2, .int b3]) (wk_X7_noWords G l hC.2.2.2.2.2.2 b b0 b1 b2 b3 w Qi QX hv) (ci := 5) rfl (by decide) hT mb_854 mb_856 mb_s32 mb_5 mb_857 (by decide +kernel) hR hf rfl hls hW hdg) hfM kk
end SJL_X7_noWords
abbrev rm_X7_many : Room := { frames := 0, cells := 0, slots := 0, locals := 0 }
def vc_X7_many (self : Nat) (a1 : Int32) (w : sj_W) (Q : Int32 → sj_W → Prop) : Prop := sj_T w self = 6 ∧ sj_A w 44 self ≠ 0 ∧ sj_T w (sj_A w 44 self) = 7 ∧ vp_in a1 (sj_N w (sj_A w 44 self)) ∧ sj_T w self = 6 ∧ sj_A w 43 self ≠ 0 ∧ sj_T w (sj_A w 43 self) = 7 ∧ vp_in a1 (sj_N w (sj_A w 43 self)) ∧ Q ((sj_i w (sj_A w 44 self) a1.toNatClampNeg) - (sj_i w (sj_A w 43 self) a1.toNatClampNeg)) w
set_option maxHeartbeats 4000000 in
set_option maxRecDepth 100000 in
theorem wk_X7_many (G : sj_G) (l : Launch) (hlt : l.stackTraces = false) (self : Nat) (a1 : Int32) (w : sj_W) (Q : Int32 → sj_W → Prop) (QX : String → sj_W → Prop) (hv : vc_X7_many self a1 w Q) : sj_MI G l yX7_many (sj_ws yX7_many cX7_many 2 (some .int)) rm_X7_many [.ref self, .int a1] w Q QX := by
  refine sj_of (by decide +kernel) (Nat.le_of_ble_eq_true rfl) hlt ?_
  intro p e s m args below meth c ls hC hD hr hin hH hl
  have hx := hC.1
  have hb := hC.2.1
  have hl : lv_has ls 2 [(0, .ref self), (1, .int a1)] := hl
  refine lv_aload_n hx hb dX7_many_0 rfl (lv_at hl 0 rfl) ?_
  refine gf_X7_23 hC hH hv.1 hv.2.1 dX7_many_1 ?_
  refine lv_iload_n hx hb dX7_many_4 rfl (lv_at hl 1 rfl) ?_
  refine sj_iald hC hH hv.2.2.1 hv.2.2.2.1 dX7_many_5 ?_
  refine lv_aload_n hx hb dX7_many_6 rfl (lv_at hl 0 rfl) ?_
  refine gf_X7_20 hC hH hv.2.2.2.2.1 hv.2.2.2.2.2.1 dX7_many_7 ?_
  refine lv_iload_n hx hb dX7_many_10 rfl (lv_at hl 1 rfl) ?_
  refine sj_iald hC hH hv.2.2.2.2.2.2.1 hv.2.2.2.2.2.2.2.1 dX7_many_11 ?_
  refine lv_isub hx hb dX7_many_12 ?_
  exact sj_retI hC hD.2 hH hr rfl hv.2.2.2.2.2.2.2.2 ⟨(Nat.le_of_ble_eq_true rfl), (Nat.le_of_ble_eq_true rfl)⟩ dX7_many_13
section SJL_X7_many
variable {p : Program} {l : Launch} {e : Env} {R : Room} {s : State} {m : MethodId} {args : Array Value} {below : List Frame} {meth : Method} {c : Code} {H : Heap} {locs : List Loc} {cells slots : Nat} {Q : State → Prop} {cc : ByteArray} {pc : Nat} {ls : Array Slot} {rest : List Value} {G : sj_G} {nL : Nat} {w : sj_W}
theorem cl_X7_133 {rmM : Room} {QcM : Array Value → State → Outcome → State → Prop} {QX : String → sj_W → Prop} {b : Nat} {b0 : Int32} {Qi : Int32 → sj_W → Prop} (hC : sj_C G p l s m args c cc RX7 nL) (hD : sj_D meth c) (hH : sj_H G s w H locs) (hv : vc_X7_many b b0 w Qi) (hT : sj_T w b = 6) (hR : rm_X7_many.frames + 1 ≤ R.frames ∧ 8 + (2 + 11) + rm_X7_many.locals ≤ R.locals) (hf : cells + 0 ≤ R.cells ∧ slots + 0 ≤ R.slots) (hfM : cells + 0 ≤ rmM.cells ∧ slots + 0 ≤ rmM.slots) (hls : ls.size = nL) (hW : (rest.map fun v => v.category).sum ≤ 8) (hdg : decode cc pc = .ok (.invokevirtual 133, 3)) (kk : ∀ (r : Int32) (w1 : sj_W) (H : Heap) (locs : List Loc), sj_H G s w1 H locs → Qi r w1 → W p l e R s m args below meth c H locs (cells + 0) (slots + 0) (sj_MQ G below QcM QX args s rmM) (F0 m (pc + 3) ls (.int r :: rest))) : W p l e R s m args below meth c H locs cells slots (sj_MQ G below QcM QX args s rmM) (F0 m pc ls (.int b0 :: .ref b :: rest)) :=
  sj_cI hD hH (sj_runV (n := 1) hC hH (As := [.int b0]) (wk_X7_many G l hC.2.2.2.2.2.2 b b0 w Qi QX hv) (ci := 5) rfl (by decide) hT mb_858 mb_860 mb_s33 mb_5 mb_861 (by decide +kernel) hR hf rfl hls hW hdg) hfM kk
end SJL_X7_many
abbrev rm_X7_asks : Room := { frames := 5, cells := 0, slots := 0, locals := 130 }
def vc_X7_asks (self : Nat) (a1 : Int32) (a2 : Int32) (a3 : Int32) (a4 : Int32) (w : sj_W) (Q : Int32 → sj_W → Prop) : Prop := vc_X7_isKind a1 w (fun r1 w2 => sj_jn3 (fun (E4 : Int32 → Nat → Nat → sj_W → Prop) => ((r1 = 0 → E4 0 self self w2) ∧ (¬ r1 = 0 → vc_X7_isAsk a2 w2 (fun r12 w13 => ((r12 = 0 → E4 0 self self w13) ∧ (¬ r12 = 0 → E4 1 self self w13)))))) (fun (y0_21 : Int32) (y1_21 : Nat) (y2_21 : Nat) (w_21 : sj_W) => sj_T w_21 y1_21 = 6 ∧ vc_X7_noWords y1_21 y0_21 a1 a3 a4 w_21 (fun r17 w18 => sj_T w18 y2_21 = 6 ∧ vc_X7_fails y2_21 r17 w18 (fun r20 w21 => ((r20 = 0 → sj_T w21 self = 6 ∧ sj_A w21 42 self ≠ 0 ∧ sj_T w21 (sj_A w21 42 self) = 7 ∧ vp_in a3 (sj_N w21 (sj_A w21 42 self)) ∧ sj_T w21 self = 6 ∧ sj_A w21 43 self ≠ 0 ∧ sj_T w21 (sj_A w21 43 self) = 7 ∧ vp_in a3 (sj_N w21 (sj_A w21 43 self)) ∧ sj_T w21 self = 6 ∧ vc_X7_many self a3 w21 (fun r24 w25 => sj_T w25 self = 6 ∧ sj_A w25 42 self ≠ 0 ∧ sj_T w25 (sj_A w25 42 self) = 7 ∧ vp_in a4 (sj_N w25 (sj_A w25 42 self)) ∧ sj_T w25 self = 6 ∧ sj_A w25 43 self ≠ 0 ∧ sj_T w25 (sj_A w25 43 self) = 7 ∧ vp_in a4 (sj_N w25 (sj_A w25 43 self)) ∧ sj_T w25 self = 6 ∧ vc_X7_many self a4 w25 (fun r27 w28 => sj_T w28 self = 6 ∧ vc_X7_answer self a1 a2 (sj_i w21 (sj_A w21 42 self) a3.toNatClampNeg) (sj_i w21 (sj_A w21 43 self) a3.toNatClampNeg) r24 (sj_i w25 (sj_A w25 42 self) a4.toNatClampNeg) (sj_i w25 (sj_A w25 43 self) a4.toNatClampNeg) r27 w28 (fun r30 w31 => Q r30 w31)))) ∧ (¬ r20 = 0 → Q 0 w21))))))
set_option maxHeartbeats 4000000 in
set_option maxRecDepth 100000 in
theorem wk_X7_asks (G : sj_G) (l : Launch) (hlt : l.stackTraces = false) (self : Nat) (a1 : Int32) (a2 : Int32) (a3 : Int32) (a4 : Int32) (w : sj_W) (Q : Int32 → sj_W → Prop) (QX : String → sj_W → Prop) (hv : vc_X7_asks self a1 a2 a3 a4 w Q) : sj_MI G l yX7_asks (sj_ws yX7_asks cX7_asks 5 (some .int)) rm_X7_asks [.ref self, .int a1, .int a2, .int a3, .int a4] w Q QX := by
  refine sj_of (by decide +kernel) (Nat.le_of_ble_eq_true rfl) hlt ?_
  intro p e s m args below meth c ls hC hD hr hin hH hl
  have hx := hC.1
  have hb := hC.2.1
  have hl : lv_has ls 5 [(0, .ref self), (1, .int a1), (2, .int a2), (3, .int a3), (4, .int a4)] := hl
  refine lv_aload_n hx hb dX7_asks_0 rfl (lv_at hl 0 rfl) ?_
  refine lv_aload_n hx hb dX7_asks_1 rfl (lv_at hl 0 rfl) ?_
  refine lv_iload_n hx hb dX7_asks_2 rfl (lv_at hl 1 rfl) ?_
  refine cl_X7_57 hC hD hH hv ⟨Nat.le_of_ble_eq_true rfl, Nat.le_of_ble_eq_true rfl⟩ ⟨(Nat.le_of_ble_eq_true rfl), (Nat.le_of_ble_eq_true rfl)⟩ ⟨(Nat.le_of_ble_eq_true rfl), (Nat.le_of_ble_eq_true rfl)⟩ hl.1 (Nat.le_of_ble_eq_true rfl) dX7_asks_3 (fun r1 w2 H locs hH hv3 => ?_)
  obtain ⟨E4, hE5, hv8⟩ := sj_jn3_e hv3
  have hJ6 : ∀ (y0_21 : Int32) (y1_21 : Nat) (y2_21 : Nat) (w_21 : sj_W) (H : Heap) (locs : List Loc) (ls : Array Slot), lv_has ls 5 [(0, .ref self), (1, .int a1), (2, .int a2), (3, .int a3), (4, .int a4)] → sj_H G s w_21 H locs → E4 y0_21 y1_21 y2_21 w_21 → W p l e rm_X7_asks s m args below meth c H locs 0 0 (sj_MQ G below (va_Qi Q (sj_B G) (sj_F G)) QX args s rm_X7_asks) (F0 m 21 ls [.int y0_21, .ref y1_21, .ref y2_21]) := by
    intro y0_21 y1_21 y2_21 w_21 H locs ls hl hH hv9
    rw [hE5] at hv9
    refine lv_iload_n hx hb dX7_asks_21 rfl (lv_at hl 1 rfl) ?_
    refine lv_iload_n hx hb dX7_asks_22 rfl (lv_at hl 3 rfl) ?_
    refine lv_iload hx hb dX7_asks_23 (lv_at hl 4 rfl) ?_
    refine cl_X7_129 hC hD hH hv9.2 hv9.1 ⟨Nat.le_of_ble_eq_true rfl, Nat.le_of_ble_eq_true rfl⟩ ⟨(Nat.le_of_ble_eq_true rfl), (Nat.le_of_ble_eq_true rfl)⟩ ⟨(Nat.le_of_ble_eq_true rfl), (Nat.le_of_ble_eq_true rfl)⟩ hl.1 (Nat.le_of_ble_eq_true rfl) dX7_asks_25 (fun r17 w18 H locs hH hv19 => ?_)
    refine cl_X7_73 hC hD hH hv19.2 hv19.1 ⟨Nat.le_of_ble_eq_true rfl, Nat.le_of_ble_eq_true rfl⟩ ⟨(Nat.le_of_ble_eq_true rfl), (Nat.le_of_ble_eq_true rfl)⟩ ⟨(Nat.le_of_ble_eq_true rfl), (Nat.le_of_ble_eq_true rfl)⟩ hl.1 (Nat.le_of_ble_eq_true rfl) dX7_asks_28 (fun r20 w21 H locs hH hv22 => ?_)
    refine lv_if_eq (tgt := 36) hx hb dX7_asks_31 (by decide) (fun hc => ?_) (fun hc => ?_)
    · have hv23 := hv22.1 hc
      refine lv_aload_n hx hb dX7_asks_36 rfl (lv_at hl 0 rfl) ?_
      refine lv_iload_n hx hb dX7_asks_37 rfl (lv_at hl 1 rfl) ?_
      refine lv_iload_n hx hb dX7_asks_38 rfl (lv_at hl 2 rfl) ?_
      refine lv_aload_n hx hb dX7_asks_39 rfl (lv_at hl 0 rfl) ?_
      refine gf_X7_17 hC hH hv23.1 hv23.2.1 dX7_asks_40 ?_
      refine lv_iload_n hx hb dX7_asks_43 rfl (lv_at hl 3 rfl) ?_
      refine sj_iald hC hH hv23.2.2.1 hv23.2.2.2.1 dX7_asks_44 ?_
      refine lv_aload_n hx hb dX7_asks_45 rfl (lv_at hl 0 rfl) ?_
      refine gf_X7_20 hC hH hv23.2.2.2.2.1 hv23.2.2.2.2.2.1 dX7_asks_46 ?_
      refine lv_iload_n hx hb dX7_asks_49 rfl (lv_at hl 3 rfl) ?_
      refine sj_iald hC hH hv23.2.2.2.2.2.2.1 hv23.2.2.2.2.2.2.2.1 dX7_asks_50 ?_
      refine lv_aload_n hx hb dX7_asks_51 rfl (lv_at hl 0 rfl) ?_
      refine lv_iload_n hx hb dX7_asks_52 rfl (lv_at hl 3 rfl) ?_
      refine cl_X7_133 hC hD hH hv23.2.2.2.2.2.2.2.2.2 hv23.2.2.2.2.2.2.2.2.1 ⟨Nat.le_of_ble_eq_true rfl, Nat.le_of_ble_eq_true rfl⟩ ⟨(Nat.le_of_ble_eq_true rfl), (Nat.le_of_ble_eq_true rfl)⟩ ⟨(Nat.le_of_ble_eq_true rfl), (Nat.le_of_ble_eq_true rfl)⟩ hl.1 (Nat.le_of_ble_eq_true rfl) dX7_asks_53 (fun r24 w25 H locs hH hv26 => ?_)
      refine lv_aload_n hx hb dX7_asks_56 rfl (lv_at hl 0 rfl) ?_
      refine gf_X7_17 hC hH hv26.1 hv26.2.1 dX7_asks_57 ?_
      refine lv_iload hx hb dX7_asks_60 (lv_at hl 4 rfl) ?_
      refine sj_iald hC hH hv26.2.2.1 hv26.2.2.2.1 dX7_asks_62 ?_
      refine lv_aload_n hx hb dX7_asks_63 rfl (lv_at hl 0 rfl) ?_
      refine gf_X7_20 hC hH hv26.2.2.2.2.1 hv26.2.2.2.2.2.1 dX7_asks_64 ?_
      refine lv_iload hx hb dX7_asks_67 (lv_at hl 4 rfl) ?_
      refine sj_iald hC hH hv26.2.2.2.2.2.2.1 hv26.2.2.2.2.2.2.2.1 dX7_asks_69 ?_
      refine lv_aload_n hx hb dX7_asks_70 rfl (lv_at hl 0 rfl) ?_
      refine lv_iload hx hb dX7_asks_71 (lv_at hl 4 rfl) ?_
      refine cl_X7_133 hC hD hH hv26.2.2.2.2.2.2.2.2.2 hv26.2.2.2.2.2.2.2.2.1 ⟨Nat.le_of_ble_eq_true rfl, Nat.le_of_ble_eq_true rfl⟩ ⟨(Nat.le_of_ble_eq_true rfl), (Nat.le_of_ble_eq_true rfl)⟩ ⟨(Nat.le_of_ble_eq_true rfl), (Nat.le_of_ble_eq_true rfl)⟩ hl.1 (Nat.le_of_ble_eq_true rfl) dX7_asks_73 (fun r27 w28 H locs hH hv29 => ?_)
      refine cl_X7_137 hC hD hH hv29.2 hv29.1 ⟨Nat.le_of_ble_eq_true rfl, Nat.le_of_ble_eq_true rfl⟩ ⟨(Nat.le_of_ble_eq_true rfl), (Nat.le_of_ble_eq_true rfl)⟩ ⟨(Nat.le_of_ble_eq_true rfl), (Nat.le_of_ble_eq_true rfl)⟩ hl.1 (Nat.le_of_ble_eq_true rfl) dX7_asks_76 (fun r30 w31 H locs hH hv32 => ?_)
      exact sj_retI hC hD.2 hH hr rfl hv32 ⟨(Nat.le_of_ble_eq_true rfl), (Nat.le_of_ble_eq_true rfl)⟩ dX7_asks_79
    · have hv33 := hv22.2 hc
      refine lv_iconst (v := 0) hx hb dX7_asks_34 (by decide) ?_
      exact sj_retI hC hD.2 hH hr rfl hv33 ⟨(Nat.le_of_ble_eq_true rfl), (Nat.le_of_ble_eq_true rfl)⟩ dX7_asks_35
  clear hE5
  refine lv_if_eq (tgt := 20) hx hb dX7_asks_6 (by decide) (fun hc => ?_) (fun hc => ?_)
  · have hv10 := hv8.1 hc
    refine lv_iconst (v := 0) hx hb dX7_asks_20 (by decide) ?_
    exact hJ6 0 self self w2 _ _ _ (lv_sub hl [0, 1, 2, 3, 4] rfl) hH hv10
  · have hv11 := hv8.2 hc
    refine lv_iload_n hx hb dX7_asks_9 rfl (lv_at hl 2 rfl) ?_
    refine cl_X7_126 hC hD hH hv11 ⟨Nat.le_of_ble_eq_true rfl, Nat.le_of_ble_eq_true rfl⟩ ⟨(Nat.le_of_ble_eq_true rfl), (Nat.le_of_ble_eq_true rfl)⟩ ⟨(Nat.le_of_ble_eq_true rfl), (Nat.le_of_ble_eq_true rfl)⟩ hl.1 (Nat.le_of_ble_eq_true rfl) dX7_asks_10 (fun r12 w13 H locs hH hv14 => ?_)
    refine lv_if_eq (tgt := 20) hx hb dX7_asks_13 (by decide) (fun hc => ?_) (fun hc => ?_)
    · have hv15 := hv14.1 hc
      refine lv_iconst (v := 0) hx hb dX7_asks_20 (by decide) ?_
      exact hJ6 0 self self w13 _ _ _ (lv_sub hl [0, 1, 2, 3, 4] rfl) hH hv15
    · have hv16 := hv14.2 hc
      refine lv_iconst (v := 1) hx hb dX7_asks_16 (by decide) ?_
      refine lv_goto (tgt := 21) hx hb dX7_asks_17 (by decide) ?_
      exact hJ6 1 self self w13 _ _ _ (lv_sub hl [0, 1, 2, 3, 4] rfl) hH hv16
section SJL_X7_asks
variable {p : Program} {l : Launch} {e : Env} {R : Room} {s : State} {m : MethodId} {args : Array Value} {below : List Frame} {meth : Method} {c : Code} {H : Heap} {locs : List Loc} {cells slots : Nat} {Q : State → Prop} {cc : ByteArray} {pc : Nat} {ls : Array Slot} {rest : List Value} {G : sj_G} {nL : Nat} {w : sj_W}
theorem cg_L_193 {b : Nat} {b0 : Int32} {b1 : Int32} {b2 : Int32} {b3 : Int32} {Qi : Int32 → sj_W → Prop} (hC : sj_C G p l s m args c cc RL nL) (hH : sj_H G s w H locs) (hv : vc_X7_asks b b0 b1 b2 b3 w Qi) (hT : sj_T w b = 6) (hR : rm_X7_asks.frames + 1 ≤ R.frames ∧ 8 + (5 + 11) + rm_X7_asks.locals ≤ R.locals) (hf : cells + 0 ≤ R.cells ∧ slots + 0 ≤ R.slots) (hls : ls.size = nL) (hW : (rest.map fun v => v.category).sum ≤ 8) (hdg : decode cc pc = .ok (.invokevirtual 193, 3)) (kk : ∀ (r : Int32) (w1 : sj_W) (H : Heap) (locs : List Loc), sj_H G s w1 H locs → Qi r w1 → W p l e R s m args below meth c H locs (cells + 0) (slots + 0) Q (F0 m (pc + 3) ls (.int r :: rest))) : W p l e R s m args below meth c H locs cells slots Q (F0 m pc ls (.int b3 :: .int b2 :: .int b1 :: .int b0 :: .ref b :: rest)) :=
  sj_xI hH (sj_runV (n := 4) hC hH (As := [.int b0, .int b1, .int b2, .int b3]) (wk_X7_asks G l hC.2.2.2.2.2.2 b b0 b1 b2 b3 w Qi (fun _ _ => False) hv) (ci := 5) rfl (by decide) hT mb_847 mb_848 mb_849 mb_5 mb_850 (by decide +kernel) hR hf rfl hls hW hdg) (fun _ _ _ _ _ _ _ h _ _ _ => h.elim) kk
end SJL_X7_asks
abbrev rm_X7_asksRows : Room := { frames := 5, cells := 0, slots := 0, locals := 130 }
def vc_X7_asksRows (self : Nat) (a1 : Int32) (a2 : Int32) (a3 : Int32) (a4 : Int32) (w : sj_W) (Q : Int32 → sj_W → Prop) : Prop := vc_X7_isKind a1 w (fun r1 w2 => sj_jn2 (fun (E4 : Int32 → Nat → sj_W → Prop) => ((r1 = 0 → E4 1 self w2) ∧ (¬ r1 = 0 → vc_X7_isAsk a2 w2 (fun r12 w13 => ((¬ r12 = 0 → vc_X7_isRow a3 w13 (fun r16 w17 => ((r16 = 0 → E4 2 self w17) ∧ (¬ r16 = 0 → vc_X7_isRow a4 w17 (fun r21 w22 => ((r21 = 0 → E4 2 self w22) ∧ (¬ r21 = 0 → E4 0 self w22))))))) ∧ (r12 = 0 → E4 1 self w13)))))) (fun (y0_39 : Int32) (y1_39 : Nat) (w_39 : sj_W) => sj_T w_39 y1_39 = 6 ∧ vc_X7_fails y1_39 y0_39 w_39 (fun r27 w28 => ((r27 = 0 → sj_T w28 self = 6 ∧ vc_X7_size self a1 a3 w28 (fun r31 w32 => sj_T w32 self = 6 ∧ vc_X7_size self a1 a4 w32 (fun r34 w35 => sj_T w35 self = 6 ∧ vc_X7_answer self a1 a2 a3 0 r31 a4 0 r34 w35 (fun r37 w38 => Q r37 w38)))) ∧ (¬ r27 = 0 → Q 0 w28)))))
set_option maxHeartbeats 4000000 in
set_option maxRecDepth 100000 in
theorem wk_X7_asksRows (G : sj_G) (l : Launch) (hlt : l.stackTraces = false) (self : Nat) (a1 : Int32) (a2 : Int32) (a3 : Int32) (a4 : Int32) (w : sj_W) (Q : Int32 → sj_W → Prop) (QX : String → sj_W → Prop) (hv : vc_X7_asksRows self a1 a2 a3 a4 w Q) : sj_MI G l yX7_asksRows (sj_ws yX7_asksRows cX7_asksRows 5 (some .int)) rm_X7_asksRows [.ref self, .int a1, .int a2, .int a3, .int a4] w Q QX := by
  refine sj_of (by decide +kernel) (Nat.le_of_ble_eq_true rfl) hlt ?_
  intro p e s m args below meth c ls hC hD hr hin hH hl
  have hx := hC.1
  have hb := hC.2.1
  have hl : lv_has ls 5 [(0, .ref self), (1, .int a1), (2, .int a2), (3, .int a3), (4, .int a4)] := hl
  refine lv_aload_n hx hb dX7_asksRows_0 rfl (lv_at hl 0 rfl) ?_
  refine lv_iload_n hx hb dX7_asksRows_1 rfl (lv_at hl 1 rfl) ?_
  refine cl_X7_57 hC hD hH hv ⟨Nat.le_of_ble_eq_true rfl, Nat.le_of_ble_eq_true rfl⟩ ⟨(Nat.le_of_ble_eq_true rfl), (Nat.le_of_ble_eq_true rfl)⟩ ⟨(Nat.le_of_ble_eq_true rfl), (Nat.le_of_ble_eq_true rfl)⟩ hl.1 (Nat.le_of_ble_eq_true rfl) dX7_asksRows_2 (fun r1 w2 H locs hH hv3 => ?_)
  obtain ⟨E4, hE5, hv8⟩ := sj_jn2_e hv3
  have hJ6 : ∀ (y0_39 : Int32) (y1_39 : Nat) (w_39 : sj_W) (H : Heap) (locs : List Loc) (ls : Array Slot), lv_has ls 5 [(0, .ref self), (1, .int a1), (2, .int a2), (3, .int a3), (4, .int a4)] → sj_H G s w_39 H locs → E4 y0_39 y1_39 w_39 → W p l e rm_X7_asksRows s m args below meth c H locs 0 0 (sj_MQ G below (va_Qi Q (sj_B G) (sj_F G)) QX args s rm_X7_asksRows) (F0 m 39 ls [.int y0_39, .ref y1_39]) := by
    intro y0_39 y1_39 w_39 H locs ls hl hH hv9
    rw [hE5] at hv9
    refine cl_X7_73 hC hD hH hv9.2 hv9.1 ⟨Nat.le_of_ble_eq_true rfl, Nat.le_of_ble_eq_true rfl⟩ ⟨(Nat.le_of_ble_eq_true rfl), (Nat.le_of_ble_eq_true rfl)⟩ ⟨(Nat.le_of_ble_eq_true rfl), (Nat.le_of_ble_eq_true rfl)⟩ hl.1 (Nat.le_of_ble_eq_true rfl) dX7_asksRows_39 (fun r27 w28 H locs hH hv29 => ?_)
    refine lv_if_eq (tgt := 47) hx hb dX7_asksRows_42 (by decide) (fun hc => ?_) (fun hc => ?_)
    · have hv30 := hv29.1 hc
      refine lv_aload_n hx hb dX7_asksRows_47 rfl (lv_at hl 0 rfl) ?_
      refine lv_iload_n hx hb dX7_asksRows_48 rfl (lv_at hl 1 rfl) ?_
      refine lv_iload_n hx hb dX7_asksRows_49 rfl (lv_at hl 2 rfl) ?_
      refine lv_iload_n hx hb dX7_asksRows_50 rfl (lv_at hl 3 rfl) ?_
      refine lv_iconst (v := 0) hx hb dX7_asksRows_51 (by decide) ?_
      refine lv_aload_n hx hb dX7_asksRows_52 rfl (lv_at hl 0 rfl) ?_
      refine lv_iload_n hx hb dX7_asksRows_53 rfl (lv_at hl 1 rfl) ?_
      refine lv_iload_n hx hb dX7_asksRows_54 rfl (lv_at hl 3 rfl) ?_
      refine cl_X7_69 hC hD hH hv30.2 hv30.1 ⟨Nat.le_of_ble_eq_true rfl, Nat.le_of_ble_eq_true rfl⟩ ⟨(Nat.le_of_ble_eq_true rfl), (Nat.le_of_ble_eq_true rfl)⟩ ⟨(Nat.le_of_ble_eq_true rfl), (Nat.le_of_ble_eq_true rfl)⟩ hl.1 (Nat.le_of_ble_eq_true rfl) dX7_asksRows_55 (fun r31 w32 H locs hH hv33 => ?_)
      refine lv_iload hx hb dX7_asksRows_58 (lv_at hl 4 rfl) ?_
      refine lv_iconst (v := 0) hx hb dX7_asksRows_60 (by decide) ?_
      refine lv_aload_n hx hb dX7_asksRows_61 rfl (lv_at hl 0 rfl) ?_
      refine lv_iload_n hx hb dX7_asksRows_62 rfl (lv_at hl 1 rfl) ?_
      refine lv_iload hx hb dX7_asksRows_63 (lv_at hl 4 rfl) ?_
      refine cl_X7_69 hC hD hH hv33.2 hv33.1 ⟨Nat.le_of_ble_eq_true rfl, Nat.le_of_ble_eq_true rfl⟩ ⟨(Nat.le_of_ble_eq_true rfl), (Nat.le_of_ble_eq_true rfl)⟩ ⟨(Nat.le_of_ble_eq_true rfl), (Nat.le_of_ble_eq_true rfl)⟩ hl.1 (Nat.le_of_ble_eq_true rfl) dX7_asksRows_65 (fun r34 w35 H locs hH hv36 => ?_)
      refine cl_X7_137 hC hD hH hv36.2 hv36.1 ⟨Nat.le_of_ble_eq_true rfl, Nat.le_of_ble_eq_true rfl⟩ ⟨(Nat.le_of_ble_eq_true rfl), (Nat.le_of_ble_eq_true rfl)⟩ ⟨(Nat.le_of_ble_eq_true rfl), (Nat.le_of_ble_eq_true rfl)⟩ hl.1 (Nat.le_of_ble_eq_true rfl) dX7_asksRows_68 (fun r37 w38 H locs hH hv39 => ?_)
      exact sj_retI hC hD.2 hH hr rfl hv39 ⟨(Nat.le_of_ble_eq_true rfl), (Nat.le_of_ble_eq_true rfl)⟩ dX7_asksRows_71
    · have hv40 := hv29.2 hc
      refine lv_iconst (v := 0) hx hb dX7_asksRows_45 (by decide) ?_
      exact sj_retI hC hD.2 hH hr rfl hv40 ⟨(Nat.le_of_ble_eq_true rfl), (Nat.le_of_ble_eq_true rfl)⟩ dX7_asksRows_46
  clear hE5
  refine lv_if_eq (tgt := 15) hx hb dX7_asksRows_5 (by decide) (fun hc => ?_) (fun hc => ?_)
  · have hv10 := hv8.1 hc
    refine lv_iconst (v := 1) hx hb dX7_asksRows_15 (by decide) ?_
    refine lv_goto (tgt := 39) hx hb dX7_asksRows_16 (by decide) ?_
    exact hJ6 1 self w2 _ _ _ (lv_sub hl [0, 1, 2, 3, 4] rfl) hH hv10
  · have hv11 := hv8.2 hc
    refine lv_iload_n hx hb dX7_asksRows_8 rfl (lv_at hl 2 rfl) ?_
    refine cl_X7_126 hC hD hH hv11 ⟨Nat.le_of_ble_eq_true rfl, Nat.le_of_ble_eq_true rfl⟩ ⟨(Nat.le_of_ble_eq_true rfl), (Nat.le_of_ble_eq_true rfl)⟩ ⟨(Nat.le_of_ble_eq_true rfl), (Nat.le_of_ble_eq_true rfl)⟩ hl.1 (Nat.le_of_ble_eq_true rfl) dX7_asksRows_9 (fun r12 w13 H locs hH hv14 => ?_)
    refine lv_if_ne (tgt := 19) hx hb dX7_asksRows_12 (by decide) (fun hc => ?_) (fun hc => ?_)
    · have hv15 := hv14.1 hc
      refine lv_iload_n hx hb dX7_asksRows_19 rfl (lv_at hl 3 rfl) ?_
      refine cl_X7_61 hC hD hH hv15 ⟨Nat.le_of_ble_eq_true rfl, Nat.le_of_ble_eq_true rfl⟩ ⟨(Nat.le_of_ble_eq_true rfl), (Nat.le_of_ble_eq_true rfl)⟩ ⟨(Nat.le_of_ble_eq_true rfl), (Nat.le_of_ble_eq_true rfl)⟩ hl.1 (Nat.le_of_ble_eq_true rfl) dX7_asksRows_20 (fun r16 w17 H locs hH hv18 => ?_)
      refine lv_if_eq (tgt := 38) hx hb dX7_asksRows_23 (by decide) (fun hc => ?_) (fun hc => ?_)
      · have hv19 := hv18.1 hc
        refine lv_iconst (v := 2) hx hb dX7_asksRows_38 (by decide) ?_
        exact hJ6 2 self w17 _ _ _ (lv_sub hl [0, 1, 2, 3, 4] rfl) hH hv19
      · have hv20 := hv18.2 hc
        refine lv_iload hx hb dX7_asksRows_26 (lv_at hl 4 rfl) ?_
        refine cl_X7_61 hC hD hH hv20 ⟨Nat.le_of_ble_eq_true rfl, Nat.le_of_ble_eq_true rfl⟩ ⟨(Nat.le_of_ble_eq_true rfl), (Nat.le_of_ble_eq_true rfl)⟩ ⟨(Nat.le_of_ble_eq_true rfl), (Nat.le_of_ble_eq_true rfl)⟩ hl.1 (Nat.le_of_ble_eq_true rfl) dX7_asksRows_28 (fun r21 w22 H locs hH hv23 => ?_)
        refine lv_if_eq (tgt := 38) hx hb dX7_asksRows_31 (by decide) (fun hc => ?_) (fun hc => ?_)
        · have hv24 := hv23.1 hc
          refine lv_iconst (v := 2) hx hb dX7_asksRows_38 (by decide) ?_
          exact hJ6 2 self w22 _ _ _ (lv_sub hl [0, 1, 2, 3, 4] rfl) hH hv24
        · have hv25 := hv23.2 hc
          refine lv_iconst (v := 0) hx hb dX7_asksRows_34 (by decide) ?_
          refine lv_goto (tgt := 39) hx hb dX7_asksRows_35 (by decide) ?_
          exact hJ6 0 self w22 _ _ _ (lv_sub hl [0, 1, 2, 3, 4] rfl) hH hv25
    · have hv26 := hv14.2 hc
      refine lv_iconst (v := 1) hx hb dX7_asksRows_15 (by decide) ?_
      refine lv_goto (tgt := 39) hx hb dX7_asksRows_16 (by decide) ?_
      exact hJ6 1 self w13 _ _ _ (lv_sub hl [0, 1, 2, 3, 4] rfl) hH hv26
section SJL_X7_asksRows
variable {p : Program} {l : Launch} {e : Env} {R : Room} {s : State} {m : MethodId} {args : Array Value} {below : List Frame} {meth : Method} {c : Code} {H : Heap} {locs : List Loc} {cells slots : Nat} {Q : State → Prop} {cc : ByteArray} {pc : Nat} {ls : Array Slot} {rest : List Value} {G : sj_G} {nL : Nat} {w : sj_W}
theorem cg_L_196 {b : Nat} {b0 : Int32} {b1 : Int32} {b2 : Int32} {b3 : Int32} {Qi : Int32 → sj_W → Prop} (hC : sj_C G p l s m args c cc RL nL) (hH : sj_H G s w H locs) (hv : vc_X7_asksRows b b0 b1 b2 b3 w Qi) (hT : sj_T w b = 6) (hR : rm_X7_asksRows.frames + 1 ≤ R.frames ∧ 8 + (5 + 11) + rm_X7_asksRows.locals ≤ R.locals) (hf : cells + 0 ≤ R.cells ∧ slots + 0 ≤ R.slots) (hls : ls.size = nL) (hW : (rest.map fun v => v.category).sum ≤ 8) (hdg : decode cc pc = .ok (.invokevirtual 196, 3)) (kk : ∀ (r : Int32) (w1 : sj_W) (H : Heap) (locs : List Loc), sj_H G s w1 H locs → Qi r w1 → W p l e R s m args below meth c H locs (cells + 0) (slots + 0) Q (F0 m (pc + 3) ls (.int r :: rest))) : W p l e R s m args below meth c H locs cells slots Q (F0 m pc ls (.int b3 :: .int b2 :: .int b1 :: .int b0 :: .ref b :: rest)) :=
  sj_xI hH (sj_runV (n := 4) hC hH (As := [.int b0, .int b1, .int b2, .int b3]) (wk_X7_asksRows G l hC.2.2.2.2.2.2 b b0 b1 b2 b3 w Qi (fun _ _ => False) hv) (ci := 5) rfl (by decide) hT mb_877 mb_878 mb_879 mb_5 mb_880 (by decide +kernel) hR hf rfl hls hW hdg) (fun _ _ _ _ _ _ _ h _ _ _ => h.elim) kk
end SJL_X7_asksRows
abbrev rm_X7_checksum : Room := { frames := 0, cells := 0, slots := 0, locals := 0 }
def vb_X7_checksum_34 (f0 : Nat) (f3 : Int32) (Q : Int64 → sj_W → Prop) (E : Int64 → sj_W → Prop) (K : Int64 → Int32 → sj_W → Prop) (v1 : Int64) (v4 : Int32) (w : sj_W) : Prop := sj_T w f0 = 6 ∧ sj_A w 41 f0 ≠ 0 ∧ sj_T w (sj_A w 41 f0) = 7 ∧ vp_in f3 (sj_N w (sj_A w 41 f0)) ∧ (((sj_i w (sj_A w 41 f0) f3.toNatClampNeg) ≤ v4 → E v1 w) ∧ (¬ (sj_i w (sj_A w 41 f0) f3.toNatClampNeg) ≤ v4 → sj_T w f0 = 6 ∧ sj_A w 40 f0 ≠ 0 ∧ sj_T w (sj_A w 40 f0) = 8 ∧ vp_in ((32 * f3) + v4) (sj_N w (sj_A w 40 f0)) ∧ K ((31 * v1) + (sj_l w (sj_A w 40 f0) ((32 * f3) + v4).toNatClampNeg)) (v4 + 1) w))
def vb_X7_checksum_11 (f0 : Nat) (Q : Int64 → sj_W → Prop) (E : Int64 → sj_W → Prop) (K : Int64 → Int32 → sj_W → Prop) (v1 : Int64) (v3 : Int32) (w : sj_W) : Prop := ((16 ≤ v3 → E v1 w) ∧ (¬ 16 ≤ v3 → sj_T w f0 = 6 ∧ sj_A w 41 f0 ≠ 0 ∧ sj_T w (sj_A w 41 f0) = 7 ∧ vp_in v3 (sj_N w (sj_A w 41 f0)) ∧ sj_lp2 (vb_X7_checksum_34 f0 v3 Q (fun z1_34 w_34 => K z1_34 (v3 + 1) w_34)) 64 ((31 * v1) + (sj_i w (sj_A w 41 f0) v3.toNatClampNeg).toInt64) 0 w))
def vb_X7_checksum_78 (f0 : Nat) (Q : Int64 → sj_W → Prop) (E : Int64 → sj_W → Prop) (K : Int64 → Int32 → sj_W → Prop) (v1 : Int64) (v3 : Int32) (w : sj_W) : Prop := ((12 ≤ v3 → E v1 w) ∧ (¬ 12 ≤ v3 → sj_T w f0 = 6 ∧ sj_A w 42 f0 ≠ 0 ∧ sj_T w (sj_A w 42 f0) = 7 ∧ vp_in v3 (sj_N w (sj_A w 42 f0)) ∧ sj_T w f0 = 6 ∧ sj_A w 43 f0 ≠ 0 ∧ sj_T w (sj_A w 43 f0) = 7 ∧ vp_in v3 (sj_N w (sj_A w 43 f0)) ∧ sj_T w f0 = 6 ∧ sj_A w 44 f0 ≠ 0 ∧ sj_T w (sj_A w 44 f0) = 7 ∧ vp_in v3 (sj_N w (sj_A w 44 f0)) ∧ K ((31 * ((31 * ((31 * v1) + (sj_i w (sj_A w 42 f0) v3.toNatClampNeg).toInt64)) + (sj_i w (sj_A w 43 f0) v3.toNatClampNeg).toInt64)) + (sj_i w (sj_A w 44 f0) v3.toNatClampNeg).toInt64) (v3 + 1) w))
def vb_X7_checksum_142 (f0 : Nat) (Q : Int64 → sj_W → Prop) (E : Int64 → sj_W → Prop) (K : Int64 → Int32 → sj_W → Prop) (v1 : Int64) (v3 : Int32) (w : sj_W) : Prop := sj_T w f0 = 6 ∧ (((sj_I w 46 f0) ≤ v3 → E v1 w) ∧ (¬ (sj_I w 46 f0) ≤ v3 → sj_T w f0 = 6 ∧ sj_A w 45 f0 ≠ 0 ∧ sj_T w (sj_A w 45 f0) = 7 ∧ vp_in v3 (sj_N w (sj_A w 45 f0)) ∧ K ((31 * v1) + (sj_i w (sj_A w 45 f0) v3.toNatClampNeg).toInt64) (v3 + 1) w))
def vc_X7_checksum (self : Nat) (w : sj_W) (Q : Int64 → sj_W → Prop) : Prop := sj_T w self = 6 ∧ ∀ w1 : sj_W, w1 = sj_sI w 47 self 0 → sj_lp2 (vb_X7_checksum_11 self Q (fun z1_11 w_11 => sj_lp2 (vb_X7_checksum_78 self Q (fun z1_78 w_78 => sj_T w_78 self = 6 ∧ sj_lp2 (vb_X7_checksum_142 self Q (fun z1_142 w_142 => Q z1_142 w_142)) 64 ((31 * z1_78) + (sj_I w_78 46 self).toInt64) 0 w_78)) 64 z1_11 0 w_11)) 64 7 0 w1
set_option maxHeartbeats 4000000 in
set_option maxRecDepth 100000 in
theorem wl_X7_checksum_34 {p : Program} {l : Launch} {e : Env} {s : State} {m : MethodId} {args : Array Value} {below : List Frame} {meth : Method} {c : Code} {G : sj_G} {f0 : Nat} {f3 : Int32} {Q : Int64 → sj_W → Prop} {QX : String → sj_W → Prop} {E : Int64 → sj_W → Prop} (hC : sj_C G p l s m args c cX7_checksum RX7 5) (hD : sj_D meth c) (hr : meth.sig.returnType = (some .long)) (hin : meth.name = "checksum") (hE : ∀ (v1 : Int64) (w : sj_W) (H : Heap) (locs : List Loc) (ls : Array Slot), lv_has ls 5 [(0, .ref f0), (1, .long v1), (3, .int f3)] → sj_H G s w H locs → E v1 w → W p l e rm_X7_checksum s m args below meth c H locs 0 0 (sj_MQ G below (va_Ql Q (sj_B G) (sj_F G)) QX args s rm_X7_checksum) (F0 m 70 ls [])) : ∀ (n : Nat) (v1 : Int64) (v4 : Int32) (w : sj_W) (H : Heap) (locs : List Loc) (ls : Array Slot), lv_has ls 5 [(0, .ref f0), (1, .long v1), (3, .int f3), (4, .int v4)] → sj_H G s w H locs → sj_lp2 (vb_X7_checksum_34 f0 f3 Q E) n v1 v4 w → W p l e rm_X7_checksum s m args below meth c H locs 0 0 (sj_MQ G below (va_Ql Q (sj_B G) (sj_F G)) QX args s rm_X7_checksum) (F0 m 34 ls []) := by
  have hx := hC.1
  have hb := hC.2.1
  intro n
  induction n with
  | zero =>
    intro v1 v4 w H locs ls _ _ hv
    exact hv.elim
  | succ n ih =>
    intro v1 v4 w H locs ls hl hH hv
    have hv : vb_X7_checksum_34 f0 f3 Q E (sj_lp2 (vb_X7_checksum_34 f0 f3 Q E) n) v1 v4 w := hv
    have hc1 : rm_X7_checksum.cells = 0 := rfl
    have hc2 : rm_X7_checksum.slots = 0 := rfl
    refine lv_iload hx hb dX7_checksum_34 (lv_at hl 3 rfl) ?_
    refine lv_aload_n hx hb dX7_checksum_36 rfl (lv_at hl 0 rfl) ?_
    refine gf_X7_13 hC hH hv.1 hv.2.1 dX7_checksum_37 ?_
    refine lv_iload_n hx hb dX7_checksum_40 rfl (lv_at hl 2 rfl) ?_
    refine sj_iald hC hH hv.2.2.1 hv.2.2.2.1 dX7_checksum_41 ?_
    refine lv_icmp_ge (tgt := 70) hx hb dX7_checksum_42 (by decide) (fun hc => ?_) (fun hc => ?_)
    · have hv5 := hv.2.2.2.2.1 hc
      exact hE v1 w _ _ _ (lv_sub hl [0, 1, 2] rfl) hH hv5
    · have hv6 := hv.2.2.2.2.2 hc
      refine lv_ldc2 (v := 31) hx hb hC.2.2.2.1 (hC.2.2.2.2.1 _ mb_986) dX7_checksum_45 ?_
      refine lv_lload_n hx hb dX7_checksum_48 rfl (lv_at hl 1 rfl) ?_
      refine lv_lmul hx hb dX7_checksum_49 ?_
      refine lv_aload_n hx hb dX7_checksum_50 rfl (lv_at hl 0 rfl) ?_
      refine gf_X7_7 hC hH hv6.1 hv6.2.1 dX7_checksum_51 ?_
      refine lv_bipush (v := 32) hx hb dX7_checksum_54 (by decide) ?_
      refine lv_iload_n hx hb dX7_checksum_56 rfl (lv_at hl 2 rfl) ?_
      refine lv_imul hx hb dX7_checksum_57 ?_
      refine lv_iload hx hb dX7_checksum_58 (lv_at hl 3 rfl) ?_
      refine lv_iadd hx hb dX7_checksum_60 ?_
      refine sj_lald hC hH hv6.2.2.1 hv6.2.2.2.1 dX7_checksum_61 ?_
      refine lv_ladd hx hb dX7_checksum_62 ?_
      refine lv_lstore_n (lv' := [(1, .long ((31 * v1) + (sj_l w (sj_A w 40 f0) ((32 * f3) + v4).toNatClampNeg))), (0, .ref f0), (3, .int f3), (4, .int v4)]) hx hb dX7_checksum_63 rfl hl (by decide) rfl (fun ls hl => ?_)
      refine lv_iinc (v := (v4 + 1)) (lv' := [(4, .int (v4 + 1)), (1, .long ((31 * v1) + (sj_l w (sj_A w 40 f0) ((32 * f3) + v4).toNatClampNeg))), (0, .ref f0), (3, .int f3)]) hx hb dX7_checksum_64 hl (k := 3) rfl rfl (by decide) rfl (fun ls hl => ?_)
      refine lv_goto (tgt := 34) hx hb dX7_checksum_67 (by decide) ?_
      exact ih ((31 * v1) + (sj_l w (sj_A w 40 f0) ((32 * f3) + v4).toNatClampNeg)) (v4 + 1) w _ _ _ (lv_sub hl [2, 1, 3, 0] rfl) hH hv6.2.2.2.2
set_option maxHeartbeats 4000000 in
set_option maxRecDepth 100000 in
theorem wl_X7_checksum_11 {p : Program} {l : Launch} {e : Env} {s : State} {m : MethodId} {args : Array Value} {below : List Frame} {meth : Method} {c : Code} {G : sj_G} {f0 : Nat} {Q : Int64 → sj_W → Prop} {QX : String → sj_W → Prop} {E : Int64 → sj_W → Prop} (hC : sj_C G p l s m args c cX7_checksum RX7 5) (hD : sj_D meth c) (hr : meth.sig.returnType = (some .long)) (hin : meth.name = "checksum") (hE : ∀ (v1 : Int64) (w : sj_W) (H : Heap) (locs : List Loc) (ls : Array Slot), lv_has ls 5 [(0, .ref f0), (1, .long v1)] → sj_H G s w H locs → E v1 w → W p l e rm_X7_checksum s m args below meth c H locs 0 0 (sj_MQ G below (va_Ql Q (sj_B G) (sj_F G)) QX args s rm_X7_checksum) (F0 m 76 ls [])) : ∀ (n : Nat) (v1 : Int64) (v3 : Int32) (w : sj_W) (H : Heap) (locs : List Loc) (ls : Array Slot), lv_has ls 5 [(0, .ref f0), (1, .long v1), (3, .int v3)] → sj_H G s w H locs → sj_lp2 (vb_X7_checksum_11 f0 Q E) n v1 v3 w → W p l e rm_X7_checksum s m args below meth c H locs 0 0 (sj_MQ G below (va_Ql Q (sj_B G) (sj_F G)) QX args s rm_X7_checksum) (F0 m 11 ls []) := by
  have hx := hC.1
  have hb := hC.2.1
  intro n
  induction n with
  | zero =>
    intro v1 v3 w H locs ls _ _ hv
    exact hv.elim
  | succ n ih =>
    intro v1 v3 w H locs ls hl hH hv
    have hv : vb_X7_checksum_11 f0 Q E (sj_lp2 (vb_X7_checksum_11 f0 Q E) n) v1 v3 w := hv
    have hc1 : rm_X7_checksum.cells = 0 := rfl
    have hc2 : rm_X7_checksum.slots = 0 := rfl
    refine lv_iload_n hx hb dX7_checksum_11 rfl (lv_at hl 2 rfl) ?_
    refine lv_bipush (v := 16) hx hb dX7_checksum_12 (by decide) ?_
    refine lv_icmp_ge (tgt := 76) hx hb dX7_checksum_14 (by decide) (fun hc => ?_) (fun hc => ?_)
    · have hv3 := hv.1 hc
      exact hE v1 w _ _ _ (lv_sub hl [0, 1] rfl) hH hv3
    · have hv4 := hv.2 hc
      refine lv_ldc2 (v := 31) hx hb hC.2.2.2.1 (hC.2.2.2.2.1 _ mb_986) dX7_checksum_17 ?_
      refine lv_lload_n hx hb dX7_checksum_20 rfl (lv_at hl 1 rfl) ?_
      refine lv_lmul hx hb dX7_checksum_21 ?_
      refine lv_aload_n hx hb dX7_checksum_22 rfl (lv_at hl 0 rfl) ?_
      refine gf_X7_13 hC hH hv4.1 hv4.2.1 dX7_checksum_23 ?_
      refine lv_iload_n hx hb dX7_checksum_26 rfl (lv_at hl 2 rfl) ?_
      refine sj_iald hC hH hv4.2.2.1 hv4.2.2.2.1 dX7_checksum_27 ?_
      refine lv_i2l hx hb dX7_checksum_28 rfl ?_
      refine lv_ladd hx hb dX7_checksum_29 ?_
      refine lv_lstore_n (lv' := [(1, .long ((31 * v1) + (sj_i w (sj_A w 41 f0) v3.toNatClampNeg).toInt64)), (0, .ref f0), (3, .int v3)]) hx hb dX7_checksum_30 rfl hl (by decide) rfl (fun ls hl => ?_)
      refine lv_iconst (v := 0) hx hb dX7_checksum_31 (by decide) ?_
      refine lv_istore (lv' := [(4, .int 0), (1, .long ((31 * v1) + (sj_i w (sj_A w 41 f0) v3.toNatClampNeg).toInt64)), (0, .ref f0), (3, .int v3)]) hx hb dX7_checksum_32 hl (by decide) rfl (fun ls hl => ?_)
      refine wl_X7_checksum_34 hC hD hr hin (fun z1_34 w_34 H locs ls hl hH hv7 => ?_) 64 ((31 * v1) + (sj_i w (sj_A w 41 f0) v3.toNatClampNeg).toInt64) 0 w _ _ _ (lv_sub hl [2, 1, 3, 0] rfl) hH hv4.2.2.2.2
      refine lv_iinc (v := (v3 + 1)) (lv' := [(3, .int (v3 + 1)), (0, .ref f0), (1, .long z1_34)]) hx hb dX7_checksum_70 hl (k := 2) rfl rfl (by decide) rfl (fun ls hl => ?_)
      refine lv_goto (tgt := 11) hx hb dX7_checksum_73 (by decide) ?_
      exact ih z1_34 (v3 + 1) w_34 _ _ _ (lv_sub hl [1, 2, 0] rfl) hH hv7
set_option maxHeartbeats 4000000 in
set_option maxRecDepth 100000 in
theorem wl_X7_checksum_78 {p : Program} {l : Launch} {e : Env} {s : State} {m : MethodId} {args : Array Value} {below : List Frame} {meth : Method} {c : Code} {G : sj_G} {f0 : Nat} {Q : Int64 → sj_W → Prop} {QX : String → sj_W → Prop} {E : Int64 → sj_W → Prop} (hC : sj_C G p l s m args c cX7_checksum RX7 5) (hD : sj_D meth c) (hr : meth.sig.returnType = (some .long)) (hin : meth.name = "checksum") (hE : ∀ (v1 : Int64) (w : sj_W) (H : Heap) (locs : List Loc) (ls : Array Slot), lv_has ls 5 [(0, .ref f0), (1, .long v1)] → sj_H G s w H locs → E v1 w → W p l e rm_X7_checksum s m args below meth c H locs 0 0 (sj_MQ G below (va_Ql Q (sj_B G) (sj_F G)) QX args s rm_X7_checksum) (F0 m 128 ls [])) : ∀ (n : Nat) (v1 : Int64) (v3 : Int32) (w : sj_W) (H : Heap) (locs : List Loc) (ls : Array Slot), lv_has ls 5 [(0, .ref f0), (1, .long v1), (3, .int v3)] → sj_H G s w H locs → sj_lp2 (vb_X7_checksum_78 f0 Q E) n v1 v3 w → W p l e rm_X7_checksum s m args below meth c H locs 0 0 (sj_MQ G below (va_Ql Q (sj_B G) (sj_F G)) QX args s rm_X7_checksum) (F0 m 78 ls []) := by
  have hx := hC.1
  have hb := hC.2.1
  intro n
  induction n with
  | zero =>
    intro v1 v3 w H locs ls _ _ hv
    exact hv.elim
  | succ n ih =>
    intro v1 v3 w H locs ls hl hH hv
    have hv : vb_X7_checksum_78 f0 Q E (sj_lp2 (vb_X7_checksum_78 f0 Q E) n) v1 v3 w := hv
    have hc1 : rm_X7_checksum.cells = 0 := rfl
    have hc2 : rm_X7_checksum.slots = 0 := rfl
    refine lv_iload_n hx hb dX7_checksum_78 rfl (lv_at hl 2 rfl) ?_
    refine lv_bipush (v := 12) hx hb dX7_checksum_79 (by decide) ?_
    refine lv_icmp_ge (tgt := 128) hx hb dX7_checksum_81 (by decide) (fun hc => ?_) (fun hc => ?_)
    · have hv9 := hv.1 hc
      exact hE v1 w _ _ _ (lv_sub hl [0, 1] rfl) hH hv9
    · have hv10 := hv.2 hc
      refine lv_ldc2 (v := 31) hx hb hC.2.2.2.1 (hC.2.2.2.2.1 _ mb_986) dX7_checksum_84 ?_
      refine lv_ldc2 (v := 31) hx hb hC.2.2.2.1 (hC.2.2.2.2.1 _ mb_986) dX7_checksum_87 ?_
      refine lv_ldc2 (v := 31) hx hb hC.2.2.2.1 (hC.2.2.2.2.1 _ mb_986) dX7_checksum_90 ?_
      refine lv_lload_n hx hb dX7_checksum_93 rfl (lv_at hl 1 rfl) ?_
      refine lv_lmul hx hb dX7_checksum_94 ?_
      refine lv_aload_n hx hb dX7_checksum_95 rfl (lv_at hl 0 rfl) ?_
      refine gf_X7_17 hC hH hv10.1 hv10.2.1 dX7_checksum_96 ?_
      refine lv_iload_n hx hb dX7_checksum_99 rfl (lv_at hl 2 rfl) ?_
      refine sj_iald hC hH hv10.2.2.1 hv10.2.2.2.1 dX7_checksum_100 ?_
      refine lv_i2l hx hb dX7_checksum_101 rfl ?_
      refine lv_ladd hx hb dX7_checksum_102 ?_
      refine lv_lmul hx hb dX7_checksum_103 ?_
      refine lv_aload_n hx hb dX7_checksum_104 rfl (lv_at hl 0 rfl) ?_
      refine gf_X7_20 hC hH hv10.2.2.2.2.1 hv10.2.2.2.2.2.1 dX7_checksum_105 ?_
      refine lv_iload_n hx hb dX7_checksum_108 rfl (lv_at hl 2 rfl) ?_
      refine sj_iald hC hH hv10.2.2.2.2.2.2.1 hv10.2.2.2.2.2.2.2.1 dX7_checksum_109 ?_
      refine lv_i2l hx hb dX7_checksum_110 rfl ?_
      refine lv_ladd hx hb dX7_checksum_111 ?_
      refine lv_lmul hx hb dX7_checksum_112 ?_
      refine lv_aload_n hx hb dX7_checksum_113 rfl (lv_at hl 0 rfl) ?_
      refine gf_X7_23 hC hH hv10.2.2.2.2.2.2.2.2.1 hv10.2.2.2.2.2.2.2.2.2.1 dX7_checksum_114 ?_
      refine lv_iload_n hx hb dX7_checksum_117 rfl (lv_at hl 2 rfl) ?_
      refine sj_iald hC hH hv10.2.2.2.2.2.2.2.2.2.2.1 hv10.2.2.2.2.2.2.2.2.2.2.2.1 dX7_checksum_118 ?_
      refine lv_i2l hx hb dX7_checksum_119 rfl ?_
      refine lv_ladd hx hb dX7_checksum_120 ?_
      refine lv_lstore_n (lv' := [(1, .long ((31 * ((31 * ((31 * v1) + (sj_i w (sj_A w 42 f0) v3.toNatClampNeg).toInt64)) + (sj_i w (sj_A w 43 f0) v3.toNatClampNeg).toInt64)) + (sj_i w (sj_A w 44 f0) v3.toNatClampNeg).toInt64)), (0, .ref f0), (3, .int v3)]) hx hb dX7_checksum_121 rfl hl (by decide) rfl (fun ls hl => ?_)
      refine lv_iinc (v := (v3 + 1)) (lv' := [(3, .int (v3 + 1)), (1, .long ((31 * ((31 * ((31 * v1) + (sj_i w (sj_A w 42 f0) v3.toNatClampNeg).toInt64)) + (sj_i w (sj_A w 43 f0) v3.toNatClampNeg).toInt64)) + (sj_i w (sj_A w 44 f0) v3.toNatClampNeg).toInt64)), (0, .ref f0)]) hx hb dX7_checksum_122 hl (k := 2) rfl rfl (by decide) rfl (fun ls hl => ?_)
      refine lv_goto (tgt := 78) hx hb dX7_checksum_125 (by decide) ?_
      exact ih ((31 * ((31 * ((31 * v1) + (sj_i w (sj_A w 42 f0) v3.toNatClampNeg).toInt64)) + (sj_i w (sj_A w 43 f0) v3.toNatClampNeg).toInt64)) + (sj_i w (sj_A w 44 f0) v3.toNatClampNeg).toInt64) (v3 + 1) w _ _ _ (lv_sub hl [2, 1, 0] rfl) hH hv10.2.2.2.2.2.2.2.2.2.2.2.2
set_option maxHeartbeats 4000000 in
set_option maxRecDepth 100000 in
theorem wl_X7_checksum_142 {p : Program} {l : Launch} {e : Env} {s : State} {m : MethodId} {args : Array Value} {below : List Frame} {meth : Method} {c : Code} {G : sj_G} {f0 : Nat} {Q : Int64 → sj_W → Prop} {QX : String → sj_W → Prop} {E : Int64 → sj_W → Prop} (hC : sj_C G p l s m args c cX7_checksum RX7 5) (hD : sj_D meth c) (hr : meth.sig.returnType = (some .long)) (hin : meth.name = "checksum") (hE : ∀ (v1 : Int64) (w : sj_W) (H : Heap) (locs : List Loc) (ls : Array Slot), lv_has ls 5 [(1, .long v1)] → sj_H G s w H locs → E v1 w → W p l e rm_X7_checksum s m args below meth c H locs 0 0 (sj_MQ G below (va_Ql Q (sj_B G) (sj_F G)) QX args s rm_X7_checksum) (F0 m 170 ls [])) : ∀ (n : Nat) (v1 : Int64) (v3 : Int32) (w : sj_W) (H : Heap) (locs : List Loc) (ls : Array Slot), lv_has ls 5 [(0, .ref f0), (1, .long v1), (3, .int v3)] → sj_H G s w H locs → sj_lp2 (vb_X7_checksum_142 f0 Q E) n v1 v3 w → W p l e rm_X7_checksum s m args below meth c H locs 0 0 (sj_MQ G below (va_Ql Q (sj_B G) (sj_F G)) QX args s rm_X7_checksum) (F0 m 142 ls []) := by
  have hx := hC.1
  have hb := hC.2.1
  intro n
  induction n with
  | zero =>
    intro v1 v3 w H locs ls _ _ hv
    exact hv.elim
  | succ n ih =>
    intro v1 v3 w H locs ls hl hH hv
    have hv : vb_X7_checksum_142 f0 Q E (sj_lp2 (vb_X7_checksum_142 f0 Q E) n) v1 v3 w := hv
    have hc1 : rm_X7_checksum.cells = 0 := rfl
    have hc2 : rm_X7_checksum.slots = 0 := rfl
    refine lv_iload_n hx hb dX7_checksum_142 rfl (lv_at hl 2 rfl) ?_
    refine lv_aload_n hx hb dX7_checksum_143 rfl (lv_at hl 0 rfl) ?_
    refine gf_X7_147 hC hH hv.1 dX7_checksum_144 ?_
    refine lv_icmp_ge (tgt := 170) hx hb dX7_checksum_147 (by decide) (fun hc => ?_) (fun hc => ?_)
    · have hv12 := hv.2.1 hc
      exact hE v1 w _ _ _ (lv_sub hl [1] rfl) hH hv12
    · have hv13 := hv.2.2 hc
      refine lv_ldc2 (v := 31) hx hb hC.2.2.2.1 (hC.2.2.2.2.1 _ mb_986) dX7_checksum_150 ?_
      refine lv_lload_n hx hb dX7_checksum_153 rfl (lv_at hl 1 rfl) ?_
      refine lv_lmul hx hb dX7_checksum_154 ?_
      refine lv_aload_n hx hb dX7_checksum_155 rfl (lv_at hl 0 rfl) ?_
      refine gf_X7_26 hC hH hv13.1 hv13.2.1 dX7_checksum_156 ?_
      refine lv_iload_n hx hb dX7_checksum_159 rfl (lv_at hl 2 rfl) ?_
      refine sj_iald hC hH hv13.2.2.1 hv13.2.2.2.1 dX7_checksum_160 ?_
      refine lv_i2l hx hb dX7_checksum_161 rfl ?_
      refine lv_ladd hx hb dX7_checksum_162 ?_
      refine lv_lstore_n (lv' := [(1, .long ((31 * v1) + (sj_i w (sj_A w 45 f0) v3.toNatClampNeg).toInt64)), (0, .ref f0), (3, .int v3)]) hx hb dX7_checksum_163 rfl hl (by decide) rfl (fun ls hl => ?_)
      refine lv_iinc (v := (v3 + 1)) (lv' := [(3, .int (v3 + 1)), (1, .long ((31 * v1) + (sj_i w (sj_A w 45 f0) v3.toNatClampNeg).toInt64)), (0, .ref f0)]) hx hb dX7_checksum_164 hl (k := 2) rfl rfl (by decide) rfl (fun ls hl => ?_)
      refine lv_goto (tgt := 142) hx hb dX7_checksum_167 (by decide) ?_
      exact ih ((31 * v1) + (sj_i w (sj_A w 45 f0) v3.toNatClampNeg).toInt64) (v3 + 1) w _ _ _ (lv_sub hl [2, 1, 0] rfl) hH hv13.2.2.2.2
set_option maxHeartbeats 4000000 in
set_option maxRecDepth 100000 in
theorem wk_X7_checksum (G : sj_G) (l : Launch) (hlt : l.stackTraces = false) (self : Nat) (w : sj_W) (Q : Int64 → sj_W → Prop) (QX : String → sj_W → Prop) (hv : vc_X7_checksum self w Q) : sj_ML G l yX7_checksum (sj_ws yX7_checksum cX7_checksum 5 (some .long)) rm_X7_checksum [.ref self] w Q QX := by
  refine sj_of (by decide +kernel) (Nat.le_of_ble_eq_true rfl) hlt ?_
  intro p e s m args below meth c ls hC hD hr hin hH hl
  have hx := hC.1
  have hb := hC.2.1
  have hl : lv_has ls 5 [(0, .ref self)] := hl
  refine lv_aload_n hx hb dX7_checksum_0 rfl (lv_at hl 0 rfl) ?_
  refine lv_iconst (v := 0) hx hb dX7_checksum_1 (by decide) ?_
  refine pf_X7_29 hC hH hv.1 dX7_checksum_2 (fun w1 H locs e2 hH => ?_)
  refine lv_ldc2 (v := 7) hx hb hC.2.2.2.1 (hC.2.2.2.2.1 _ mb_985) dX7_checksum_5 ?_
  refine lv_lstore_n (lv' := [(1, .long 7), (0, .ref self)]) hx hb dX7_checksum_8 rfl hl (by decide) rfl (fun ls hl => ?_)
  refine lv_iconst (v := 0) hx hb dX7_checksum_9 (by decide) ?_
  refine lv_istore_n (lv' := [(3, .int 0), (1, .long 7), (0, .ref self)]) hx hb dX7_checksum_10 rfl hl (by decide) rfl (fun ls hl => ?_)
  refine wl_X7_checksum_11 hC hD hr hin (fun z1_11 w_11 H locs ls hl hH hv8 => ?_) 64 7 0 w1 _ _ _ (lv_sub hl [2, 1, 0] rfl) hH (hv.2 w1 e2)
  refine lv_iconst (v := 0) hx hb dX7_checksum_76 (by decide) ?_
  refine lv_istore_n (lv' := [(3, .int 0), (0, .ref self), (1, .long z1_11)]) hx hb dX7_checksum_77 rfl hl (by decide) rfl (fun ls hl => ?_)
  refine wl_X7_checksum_78 hC hD hr hin (fun z1_78 w_78 H locs ls hl hH hv11 => ?_) 64 z1_11 0 w_11 _ _ _ (lv_sub hl [1, 2, 0] rfl) hH hv8
  refine lv_ldc2 (v := 31) hx hb hC.2.2.2.1 (hC.2.2.2.2.1 _ mb_986) dX7_checksum_128 ?_
  refine lv_lload_n hx hb dX7_checksum_131 rfl (lv_at hl 1 rfl) ?_
  refine lv_lmul hx hb dX7_checksum_132 ?_
  refine lv_aload_n hx hb dX7_checksum_133 rfl (lv_at hl 0 rfl) ?_
  refine gf_X7_147 hC hH hv11.1 dX7_checksum_134 ?_
  refine lv_i2l hx hb dX7_checksum_137 rfl ?_
  refine lv_ladd hx hb dX7_checksum_138 ?_
  refine lv_lstore_n (lv' := [(1, .long ((31 * z1_78) + (sj_I w_78 46 self).toInt64)), (0, .ref self)]) hx hb dX7_checksum_139 rfl hl (by decide) rfl (fun ls hl => ?_)
  refine lv_iconst (v := 0) hx hb dX7_checksum_140 (by decide) ?_
  refine lv_istore_n (lv' := [(3, .int 0), (1, .long ((31 * z1_78) + (sj_I w_78 46 self).toInt64)), (0, .ref self)]) hx hb dX7_checksum_141 rfl hl (by decide) rfl (fun ls hl => ?_)
  refine wl_X7_checksum_142 hC hD hr hin (fun z1_142 w_142 H locs ls hl hH hv14 => ?_) 64 ((31 * z1_78) + (sj_I w_78 46 self).toInt64) 0 w_78 _ _ _ (lv_sub hl [2, 1, 0] rfl) hH hv11.2
  refine lv_lload_n hx hb dX7_checksum_170 rfl (lv_at hl 0 rfl) ?_
  exact sj_retL hC hD.2 hH hr hv14 ⟨(Nat.le_of_ble_eq_true rfl), (Nat.le_of_ble_eq_true rfl)⟩ dX7_checksum_171
section SJL_X7_checksum
variable {p : Program} {l : Launch} {e : Env} {R : Room} {s : State} {m : MethodId} {args : Array Value} {below : List Frame} {meth : Method} {c : Code} {H : Heap} {locs : List Loc} {cells slots : Nat} {Q : State → Prop} {cc : ByteArray} {pc : Nat} {ls : Array Slot} {rest : List Value} {G : sj_G} {nL : Nat} {w : sj_W}
theorem cg_L_257 {b : Nat} {Qi : Int64 → sj_W → Prop} (hC : sj_C G p l s m args c cc RL nL) (hH : sj_H G s w H locs) (hv : vc_X7_checksum b w Qi) (hT : sj_T w b = 6) (hR : rm_X7_checksum.frames + 1 ≤ R.frames ∧ 8 + (5 + 11) + rm_X7_checksum.locals ≤ R.locals) (hf : cells + 0 ≤ R.cells ∧ slots + 0 ≤ R.slots) (hls : ls.size = nL) (hW : (rest.map fun v => v.category).sum ≤ 8) (hdg : decode cc pc = .ok (.invokevirtual 257, 3)) (kk : ∀ (r : Int64) (w1 : sj_W) (H : Heap) (locs : List Loc), sj_H G s w1 H locs → Qi r w1 → W p l e R s m args below meth c H locs (cells + 0) (slots + 0) Q (F0 m (pc + 3) ls (.long r :: rest))) : W p l e R s m args below meth c H locs cells slots Q (F0 m pc ls (.ref b :: rest)) :=
  sj_xL hH (sj_runV (n := 0) hC hH (As := []) (wk_X7_checksum G l hC.2.2.2.2.2.2 b w Qi (fun _ _ => False) hv) (ci := 5) rfl (by decide) hT mb_981 mb_982 mb_983 mb_5 mb_984 (by decide +kernel) hR hf rfl hls hW hdg) (fun _ _ _ _ _ _ _ h _ _ _ => h.elim) kk
end SJL_X7_checksum

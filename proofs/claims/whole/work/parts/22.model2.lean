abbrev rm_X7_noRow : Room := { frames := 2, cells := 0, slots := 0, locals := 45 }
def vc_X7_noRow (self : Nat) (a1 : Int32) (a2 : Int32) (w : sj_W) (Q : Int32 → sj_W → Prop) : Prop := vc_X7_isKind a1 w (fun r1 w2 => ((¬ r1 = 0 → vc_X7_isRow a2 w2 (fun r5 w6 => ((r5 = 0 → Q 2 w6) ∧ (¬ r5 = 0 → Q 0 w6)))) ∧ (r1 = 0 → Q 1 w2)))
set_option maxHeartbeats 4000000 in
set_option maxRecDepth 100000 in
theorem wk_X7_noRow (G : sj_G) (l : Launch) (hlt : l.stackTraces = false) (self : Nat) (a1 : Int32) (a2 : Int32) (w : sj_W) (Q : Int32 → sj_W → Prop) (QX : String → sj_W → Prop) (hv : vc_X7_noRow self a1 a2 w Q) : sj_MI G l yX7_noRow (sj_ws yX7_noRow cX7_noRow 3 (some .int)) rm_X7_noRow [.ref self, .int a1, .int a2] w Q QX := by
  refine sj_of (by decide +kernel) (Nat.le_of_ble_eq_true rfl) hlt ?_
  intro p e s m args below meth c ls hC hD hr hin hH hl
  have hx := hC.1
  have hb := hC.2.1
  have hl : lv_has ls 3 [(0, .ref self), (1, .int a1), (2, .int a2)] := hl
  refine lv_iload_n hx hb dX7_noRow_0 rfl (lv_at hl 1 rfl) ?_
  refine cl_X7_57 hC hD hH hv ⟨Nat.le_of_ble_eq_true rfl, Nat.le_of_ble_eq_true rfl⟩ ⟨(Nat.le_of_ble_eq_true rfl), (Nat.le_of_ble_eq_true rfl)⟩ ⟨(Nat.le_of_ble_eq_true rfl), (Nat.le_of_ble_eq_true rfl)⟩ hl.1 (Nat.le_of_ble_eq_true rfl) dX7_noRow_1 (fun r1 w2 H locs hH hv3 => ?_)
  refine lv_if_ne (tgt := 11) hx hb dX7_noRow_4 (by decide) (fun hc => ?_) (fun hc => ?_)
  · have hv4 := hv3.1 hc
    refine lv_iload_n hx hb dX7_noRow_11 rfl (lv_at hl 2 rfl) ?_
    refine cl_X7_61 hC hD hH hv4 ⟨Nat.le_of_ble_eq_true rfl, Nat.le_of_ble_eq_true rfl⟩ ⟨(Nat.le_of_ble_eq_true rfl), (Nat.le_of_ble_eq_true rfl)⟩ ⟨(Nat.le_of_ble_eq_true rfl), (Nat.le_of_ble_eq_true rfl)⟩ hl.1 (Nat.le_of_ble_eq_true rfl) dX7_noRow_12 (fun r5 w6 H locs hH hv7 => ?_)
    refine lv_if_eq (tgt := 22) hx hb dX7_noRow_15 (by decide) (fun hc => ?_) (fun hc => ?_)
    · have hv8 := hv7.1 hc
      refine lv_iconst (v := 2) hx hb dX7_noRow_22 (by decide) ?_
      exact sj_retI hC hD.2 hH hr rfl hv8 ⟨(Nat.le_of_ble_eq_true rfl), (Nat.le_of_ble_eq_true rfl)⟩ dX7_noRow_23
    · have hv9 := hv7.2 hc
      refine lv_iconst (v := 0) hx hb dX7_noRow_18 (by decide) ?_
      refine lv_goto (tgt := 23) hx hb dX7_noRow_19 (by decide) ?_
      exact sj_retI hC hD.2 hH hr rfl hv9 ⟨(Nat.le_of_ble_eq_true rfl), (Nat.le_of_ble_eq_true rfl)⟩ dX7_noRow_23
  · have hv10 := hv3.2 hc
    refine lv_iconst (v := 1) hx hb dX7_noRow_7 (by decide) ?_
    refine lv_goto (tgt := 23) hx hb dX7_noRow_8 (by decide) ?_
    exact sj_retI hC hD.2 hH hr rfl hv10 ⟨(Nat.le_of_ble_eq_true rfl), (Nat.le_of_ble_eq_true rfl)⟩ dX7_noRow_23
section SJL_X7_noRow
variable {p : Program} {l : Launch} {e : Env} {R : Room} {s : State} {m : MethodId} {args : Array Value} {below : List Frame} {meth : Method} {c : Code} {H : Heap} {locs : List Loc} {cells slots : Nat} {Q : State → Prop} {cc : ByteArray} {pc : Nat} {ls : Array Slot} {rest : List Value} {G : sj_G} {nL : Nat} {w : sj_W}
theorem cl_X7_84 {rmM : Room} {QcM : Array Value → State → Outcome → State → Prop} {QX : String → sj_W → Prop} {b : Nat} {b0 : Int32} {b1 : Int32} {Qi : Int32 → sj_W → Prop} (hC : sj_C G p l s m args c cc RX7 nL) (hD : sj_D meth c) (hH : sj_H G s w H locs) (hv : vc_X7_noRow b b0 b1 w Qi) (hT : sj_T w b = 6) (hR : rm_X7_noRow.frames + 1 ≤ R.frames ∧ 8 + (3 + 11) + rm_X7_noRow.locals ≤ R.locals) (hf : cells + 0 ≤ R.cells ∧ slots + 0 ≤ R.slots) (hfM : cells + 0 ≤ rmM.cells ∧ slots + 0 ≤ rmM.slots) (hls : ls.size = nL) (hW : (rest.map fun v => v.category).sum ≤ 8) (hdg : decode cc pc = .ok (.invokevirtual 84, 3)) (kk : ∀ (r : Int32) (w1 : sj_W) (H : Heap) (locs : List Loc), sj_H G s w1 H locs → Qi r w1 → W p l e R s m args below meth c H locs (cells + 0) (slots + 0) (sj_MQ G below QcM QX args s rmM) (F0 m (pc + 3) ls (.int r :: rest))) : W p l e R s m args below meth c H locs cells slots (sj_MQ G below QcM QX args s rmM) (F0 m pc ls (.int b1 :: .int b0 :: .ref b :: rest)) :=
  sj_cI hD hH (sj_runV (n := 2) hC hH (As := [.int b0, .int b1]) (wk_X7_noRow G l hC.2.2.2.2.2.2 b b0 b1 w Qi QX hv) (ci := 5) rfl (by decide) hT mb_793 mb_795 mb_s30 mb_5 mb_796 (by decide +kernel) hR hf rfl hls hW hdg) hfM kk
end SJL_X7_noRow
abbrev rm_X7_clear : Room := { frames := 3, cells := 0, slots := 0, locals := 67 }
def vc_X7_clear (self : Nat) (a1 : Int32) (a2 : Int32) (w : sj_W) (Q : Int32 → sj_W → Prop) : Prop := sj_T w self = 6 ∧ vc_X7_noRow self a1 a2 w (fun r1 w2 => sj_T w2 self = 6 ∧ vc_X7_fails self r1 w2 (fun r4 w5 => ((r4 = 0 → sj_T w5 self = 6 ∧ vc_X7_size self a1 a2 w5 (fun r8 w9 => sj_T w9 self = 6 ∧ vc_X7_resize self a1 a2 0 w9 (fun w12 => Q r8 w12))) ∧ (¬ r4 = 0 → Q 0 w5))))
set_option maxHeartbeats 4000000 in
set_option maxRecDepth 100000 in
theorem wk_X7_clear (G : sj_G) (l : Launch) (hlt : l.stackTraces = false) (self : Nat) (a1 : Int32) (a2 : Int32) (w : sj_W) (Q : Int32 → sj_W → Prop) (QX : String → sj_W → Prop) (hv : vc_X7_clear self a1 a2 w Q) : sj_MI G l yX7_clear (sj_ws yX7_clear cX7_clear 4 (some .int)) rm_X7_clear [.ref self, .int a1, .int a2] w Q QX := by
  refine sj_of (by decide +kernel) (Nat.le_of_ble_eq_true rfl) hlt ?_
  intro p e s m args below meth c ls hC hD hr hin hH hl
  have hx := hC.1
  have hb := hC.2.1
  have hl : lv_has ls 4 [(0, .ref self), (1, .int a1), (2, .int a2)] := hl
  refine lv_aload_n hx hb dX7_clear_0 rfl (lv_at hl 0 rfl) ?_
  refine lv_aload_n hx hb dX7_clear_1 rfl (lv_at hl 0 rfl) ?_
  refine lv_iload_n hx hb dX7_clear_2 rfl (lv_at hl 1 rfl) ?_
  refine lv_iload_n hx hb dX7_clear_3 rfl (lv_at hl 2 rfl) ?_
  refine cl_X7_84 hC hD hH hv.2 hv.1 ⟨Nat.le_of_ble_eq_true rfl, Nat.le_of_ble_eq_true rfl⟩ ⟨(Nat.le_of_ble_eq_true rfl), (Nat.le_of_ble_eq_true rfl)⟩ ⟨(Nat.le_of_ble_eq_true rfl), (Nat.le_of_ble_eq_true rfl)⟩ hl.1 (Nat.le_of_ble_eq_true rfl) dX7_clear_4 (fun r1 w2 H locs hH hv3 => ?_)
  refine cl_X7_73 hC hD hH hv3.2 hv3.1 ⟨Nat.le_of_ble_eq_true rfl, Nat.le_of_ble_eq_true rfl⟩ ⟨(Nat.le_of_ble_eq_true rfl), (Nat.le_of_ble_eq_true rfl)⟩ ⟨(Nat.le_of_ble_eq_true rfl), (Nat.le_of_ble_eq_true rfl)⟩ hl.1 (Nat.le_of_ble_eq_true rfl) dX7_clear_7 (fun r4 w5 H locs hH hv6 => ?_)
  refine lv_if_eq (tgt := 15) hx hb dX7_clear_10 (by decide) (fun hc => ?_) (fun hc => ?_)
  · have hv7 := hv6.1 hc
    refine lv_aload_n hx hb dX7_clear_15 rfl (lv_at hl 0 rfl) ?_
    refine lv_iload_n hx hb dX7_clear_16 rfl (lv_at hl 1 rfl) ?_
    refine lv_iload_n hx hb dX7_clear_17 rfl (lv_at hl 2 rfl) ?_
    refine cl_X7_69 hC hD hH hv7.2 hv7.1 ⟨Nat.le_of_ble_eq_true rfl, Nat.le_of_ble_eq_true rfl⟩ ⟨(Nat.le_of_ble_eq_true rfl), (Nat.le_of_ble_eq_true rfl)⟩ ⟨(Nat.le_of_ble_eq_true rfl), (Nat.le_of_ble_eq_true rfl)⟩ hl.1 (Nat.le_of_ble_eq_true rfl) dX7_clear_18 (fun r8 w9 H locs hH hv10 => ?_)
    refine lv_istore_n (lv' := [(3, .int r8), (0, .ref self), (1, .int a1), (2, .int a2)]) hx hb dX7_clear_21 rfl hl (by decide) rfl (fun ls hl => ?_)
    refine lv_aload_n hx hb dX7_clear_22 rfl (lv_at hl 1 rfl) ?_
    refine lv_iload_n hx hb dX7_clear_23 rfl (lv_at hl 2 rfl) ?_
    refine lv_iload_n hx hb dX7_clear_24 rfl (lv_at hl 3 rfl) ?_
    refine lv_iconst (v := 0) hx hb dX7_clear_25 (by decide) ?_
    refine cl_X7_80 hC hD hH hv10.2 hv10.1 ⟨Nat.le_of_ble_eq_true rfl, Nat.le_of_ble_eq_true rfl⟩ ⟨(Nat.le_of_ble_eq_true rfl), (Nat.le_of_ble_eq_true rfl)⟩ ⟨(Nat.le_of_ble_eq_true rfl), (Nat.le_of_ble_eq_true rfl)⟩ hl.1 (Nat.le_of_ble_eq_true rfl) dX7_clear_26 (fun w12 H locs hH hv13 => ?_)
    refine lv_iload_n hx hb dX7_clear_29 rfl (lv_at hl 0 rfl) ?_
    exact sj_retI hC hD.2 hH hr rfl hv13 ⟨(Nat.le_of_ble_eq_true rfl), (Nat.le_of_ble_eq_true rfl)⟩ dX7_clear_30
  · have hv14 := hv6.2 hc
    refine lv_iconst (v := 0) hx hb dX7_clear_13 (by decide) ?_
    exact sj_retI hC hD.2 hH hr rfl hv14 ⟨(Nat.le_of_ble_eq_true rfl), (Nat.le_of_ble_eq_true rfl)⟩ dX7_clear_14
section SJL_X7_clear
variable {p : Program} {l : Launch} {e : Env} {R : Room} {s : State} {m : MethodId} {args : Array Value} {below : List Frame} {meth : Method} {c : Code} {H : Heap} {locs : List Loc} {cells slots : Nat} {Q : State → Prop} {cc : ByteArray} {pc : Nat} {ls : Array Slot} {rest : List Value} {G : sj_G} {nL : Nat} {w : sj_W}
theorem cg_L_164 {b : Nat} {b0 : Int32} {b1 : Int32} {Qi : Int32 → sj_W → Prop} (hC : sj_C G p l s m args c cc RL nL) (hH : sj_H G s w H locs) (hv : vc_X7_clear b b0 b1 w Qi) (hT : sj_T w b = 6) (hR : rm_X7_clear.frames + 1 ≤ R.frames ∧ 8 + (4 + 11) + rm_X7_clear.locals ≤ R.locals) (hf : cells + 0 ≤ R.cells ∧ slots + 0 ≤ R.slots) (hls : ls.size = nL) (hW : (rest.map fun v => v.category).sum ≤ 8) (hdg : decode cc pc = .ok (.invokevirtual 164, 3)) (kk : ∀ (r : Int32) (w1 : sj_W) (H : Heap) (locs : List Loc), sj_H G s w1 H locs → Qi r w1 → W p l e R s m args below meth c H locs (cells + 0) (slots + 0) Q (F0 m (pc + 3) ls (.int r :: rest))) : W p l e R s m args below meth c H locs cells slots Q (F0 m pc ls (.int b1 :: .int b0 :: .ref b :: rest)) :=
  sj_xI hH (sj_runV (n := 2) hC hH (As := [.int b0, .int b1]) (wk_X7_clear G l hC.2.2.2.2.2.2 b b0 b1 w Qi (fun _ _ => False) hv) (ci := 5) rfl (by decide) hT mb_797 mb_798 mb_799 mb_5 mb_800 (by decide +kernel) hR hf rfl hls hW hdg) (fun _ _ _ _ _ _ _ h _ _ _ => h.elim) kk
end SJL_X7_clear
abbrev rm_X7_common : Room := { frames := 4, cells := 0, slots := 0, locals := 88 }
def vc_X7_common (self : Nat) (a1 : Int32) (a2 : Int32) (a3 : Int32) (w : sj_W) (Q : Int32 → sj_W → Prop) : Prop := vc_X7_isKind a1 w (fun r1 w2 => sj_T w2 self = 6 ∧ vc_X7_noWords self r1 a1 a2 a3 w2 (fun r4 w5 => sj_T w5 self = 6 ∧ vc_X7_fails self r4 w5 (fun r7 w8 => ((r7 = 0 → sj_T w8 self = 6 ∧ sj_A w8 42 self ≠ 0 ∧ sj_T w8 (sj_A w8 42 self) = 7 ∧ vp_in a2 (sj_N w8 (sj_A w8 42 self)) ∧ sj_T w8 self = 6 ∧ sj_A w8 43 self ≠ 0 ∧ sj_T w8 (sj_A w8 43 self) = 7 ∧ vp_in a2 (sj_N w8 (sj_A w8 43 self)) ∧ sj_T w8 self = 6 ∧ vc_X7_many self a2 w8 (fun r11 w12 => sj_T w12 self = 6 ∧ sj_A w12 42 self ≠ 0 ∧ sj_T w12 (sj_A w12 42 self) = 7 ∧ vp_in a3 (sj_N w12 (sj_A w12 42 self)) ∧ sj_T w12 self = 6 ∧ sj_A w12 43 self ≠ 0 ∧ sj_T w12 (sj_A w12 43 self) = 7 ∧ vp_in a3 (sj_N w12 (sj_A w12 43 self)) ∧ sj_T w12 self = 6 ∧ vc_X7_many self a3 w12 (fun r14 w15 => sj_T w15 self = 6 ∧ vc_X7_alike self a1 (sj_i w8 (sj_A w8 42 self) a2.toNatClampNeg) (sj_i w8 (sj_A w8 43 self) a2.toNatClampNeg) r11 (sj_i w12 (sj_A w12 42 self) a3.toNatClampNeg) (sj_i w12 (sj_A w12 43 self) a3.toNatClampNeg) r14 w15 (fun r17 w18 => Q r17 w18)))) ∧ (¬ r7 = 0 → Q 0 w8)))))
set_option maxHeartbeats 4000000 in
set_option maxRecDepth 100000 in
theorem wk_X7_common (G : sj_G) (l : Launch) (hlt : l.stackTraces = false) (self : Nat) (a1 : Int32) (a2 : Int32) (a3 : Int32) (w : sj_W) (Q : Int32 → sj_W → Prop) (QX : String → sj_W → Prop) (hv : vc_X7_common self a1 a2 a3 w Q) : sj_MI G l yX7_common (sj_ws yX7_common cX7_common 4 (some .int)) rm_X7_common [.ref self, .int a1, .int a2, .int a3] w Q QX := by
  refine sj_of (by decide +kernel) (Nat.le_of_ble_eq_true rfl) hlt ?_
  intro p e s m args below meth c ls hC hD hr hin hH hl
  have hx := hC.1
  have hb := hC.2.1
  have hl : lv_has ls 4 [(0, .ref self), (1, .int a1), (2, .int a2), (3, .int a3)] := hl
  refine lv_aload_n hx hb dX7_common_0 rfl (lv_at hl 0 rfl) ?_
  refine lv_aload_n hx hb dX7_common_1 rfl (lv_at hl 0 rfl) ?_
  refine lv_iload_n hx hb dX7_common_2 rfl (lv_at hl 1 rfl) ?_
  refine cl_X7_57 hC hD hH hv ⟨Nat.le_of_ble_eq_true rfl, Nat.le_of_ble_eq_true rfl⟩ ⟨(Nat.le_of_ble_eq_true rfl), (Nat.le_of_ble_eq_true rfl)⟩ ⟨(Nat.le_of_ble_eq_true rfl), (Nat.le_of_ble_eq_true rfl)⟩ hl.1 (Nat.le_of_ble_eq_true rfl) dX7_common_3 (fun r1 w2 H locs hH hv3 => ?_)
  refine lv_iload_n hx hb dX7_common_6 rfl (lv_at hl 1 rfl) ?_
  refine lv_iload_n hx hb dX7_common_7 rfl (lv_at hl 2 rfl) ?_
  refine lv_iload_n hx hb dX7_common_8 rfl (lv_at hl 3 rfl) ?_
  refine cl_X7_129 hC hD hH hv3.2 hv3.1 ⟨Nat.le_of_ble_eq_true rfl, Nat.le_of_ble_eq_true rfl⟩ ⟨(Nat.le_of_ble_eq_true rfl), (Nat.le_of_ble_eq_true rfl)⟩ ⟨(Nat.le_of_ble_eq_true rfl), (Nat.le_of_ble_eq_true rfl)⟩ hl.1 (Nat.le_of_ble_eq_true rfl) dX7_common_9 (fun r4 w5 H locs hH hv6 => ?_)
  refine cl_X7_73 hC hD hH hv6.2 hv6.1 ⟨Nat.le_of_ble_eq_true rfl, Nat.le_of_ble_eq_true rfl⟩ ⟨(Nat.le_of_ble_eq_true rfl), (Nat.le_of_ble_eq_true rfl)⟩ ⟨(Nat.le_of_ble_eq_true rfl), (Nat.le_of_ble_eq_true rfl)⟩ hl.1 (Nat.le_of_ble_eq_true rfl) dX7_common_12 (fun r7 w8 H locs hH hv9 => ?_)
  refine lv_if_eq (tgt := 20) hx hb dX7_common_15 (by decide) (fun hc => ?_) (fun hc => ?_)
  · have hv10 := hv9.1 hc
    refine lv_aload_n hx hb dX7_common_20 rfl (lv_at hl 0 rfl) ?_
    refine lv_iload_n hx hb dX7_common_21 rfl (lv_at hl 1 rfl) ?_
    refine lv_aload_n hx hb dX7_common_22 rfl (lv_at hl 0 rfl) ?_
    refine gf_X7_17 hC hH hv10.1 hv10.2.1 dX7_common_23 ?_
    refine lv_iload_n hx hb dX7_common_26 rfl (lv_at hl 2 rfl) ?_
    refine sj_iald hC hH hv10.2.2.1 hv10.2.2.2.1 dX7_common_27 ?_
    refine lv_aload_n hx hb dX7_common_28 rfl (lv_at hl 0 rfl) ?_
    refine gf_X7_20 hC hH hv10.2.2.2.2.1 hv10.2.2.2.2.2.1 dX7_common_29 ?_
    refine lv_iload_n hx hb dX7_common_32 rfl (lv_at hl 2 rfl) ?_
    refine sj_iald hC hH hv10.2.2.2.2.2.2.1 hv10.2.2.2.2.2.2.2.1 dX7_common_33 ?_
    refine lv_aload_n hx hb dX7_common_34 rfl (lv_at hl 0 rfl) ?_
    refine lv_iload_n hx hb dX7_common_35 rfl (lv_at hl 2 rfl) ?_
    refine cl_X7_133 hC hD hH hv10.2.2.2.2.2.2.2.2.2 hv10.2.2.2.2.2.2.2.2.1 ⟨Nat.le_of_ble_eq_true rfl, Nat.le_of_ble_eq_true rfl⟩ ⟨(Nat.le_of_ble_eq_true rfl), (Nat.le_of_ble_eq_true rfl)⟩ ⟨(Nat.le_of_ble_eq_true rfl), (Nat.le_of_ble_eq_true rfl)⟩ hl.1 (Nat.le_of_ble_eq_true rfl) dX7_common_36 (fun r11 w12 H locs hH hv13 => ?_)
    refine lv_aload_n hx hb dX7_common_39 rfl (lv_at hl 0 rfl) ?_
    refine gf_X7_17 hC hH hv13.1 hv13.2.1 dX7_common_40 ?_
    refine lv_iload_n hx hb dX7_common_43 rfl (lv_at hl 3 rfl) ?_
    refine sj_iald hC hH hv13.2.2.1 hv13.2.2.2.1 dX7_common_44 ?_
    refine lv_aload_n hx hb dX7_common_45 rfl (lv_at hl 0 rfl) ?_
    refine gf_X7_20 hC hH hv13.2.2.2.2.1 hv13.2.2.2.2.2.1 dX7_common_46 ?_
    refine lv_iload_n hx hb dX7_common_49 rfl (lv_at hl 3 rfl) ?_
    refine sj_iald hC hH hv13.2.2.2.2.2.2.1 hv13.2.2.2.2.2.2.2.1 dX7_common_50 ?_
    refine lv_aload_n hx hb dX7_common_51 rfl (lv_at hl 0 rfl) ?_
    refine lv_iload_n hx hb dX7_common_52 rfl (lv_at hl 3 rfl) ?_
    refine cl_X7_133 hC hD hH hv13.2.2.2.2.2.2.2.2.2 hv13.2.2.2.2.2.2.2.2.1 ⟨Nat.le_of_ble_eq_true rfl, Nat.le_of_ble_eq_true rfl⟩ ⟨(Nat.le_of_ble_eq_true rfl), (Nat.le_of_ble_eq_true rfl)⟩ ⟨(Nat.le_of_ble_eq_true rfl), (Nat.le_of_ble_eq_true rfl)⟩ hl.1 (Nat.le_of_ble_eq_true rfl) dX7_common_53 (fun r14 w15 H locs hH hv16 => ?_)
    refine cl_X7_114 hC hD hH hv16.2 hv16.1 ⟨Nat.le_of_ble_eq_true rfl, Nat.le_of_ble_eq_true rfl⟩ ⟨(Nat.le_of_ble_eq_true rfl), (Nat.le_of_ble_eq_true rfl)⟩ ⟨(Nat.le_of_ble_eq_true rfl), (Nat.le_of_ble_eq_true rfl)⟩ hl.1 (Nat.le_of_ble_eq_true rfl) dX7_common_56 (fun r17 w18 H locs hH hv19 => ?_)
    exact sj_retI hC hD.2 hH hr rfl hv19 ⟨(Nat.le_of_ble_eq_true rfl), (Nat.le_of_ble_eq_true rfl)⟩ dX7_common_59
  · have hv20 := hv9.2 hc
    refine lv_iconst (v := 0) hx hb dX7_common_18 (by decide) ?_
    exact sj_retI hC hD.2 hH hr rfl hv20 ⟨(Nat.le_of_ble_eq_true rfl), (Nat.le_of_ble_eq_true rfl)⟩ dX7_common_19
section SJL_X7_common
variable {p : Program} {l : Launch} {e : Env} {R : Room} {s : State} {m : MethodId} {args : Array Value} {below : List Frame} {meth : Method} {c : Code} {H : Heap} {locs : List Loc} {cells slots : Nat} {Q : State → Prop} {cc : ByteArray} {pc : Nat} {ls : Array Slot} {rest : List Value} {G : sj_G} {nL : Nat} {w : sj_W}
theorem cg_L_203 {b : Nat} {b0 : Int32} {b1 : Int32} {b2 : Int32} {Qi : Int32 → sj_W → Prop} (hC : sj_C G p l s m args c cc RL nL) (hH : sj_H G s w H locs) (hv : vc_X7_common b b0 b1 b2 w Qi) (hT : sj_T w b = 6) (hR : rm_X7_common.frames + 1 ≤ R.frames ∧ 8 + (4 + 11) + rm_X7_common.locals ≤ R.locals) (hf : cells + 0 ≤ R.cells ∧ slots + 0 ≤ R.slots) (hls : ls.size = nL) (hW : (rest.map fun v => v.category).sum ≤ 8) (hdg : decode cc pc = .ok (.invokevirtual 203, 3)) (kk : ∀ (r : Int32) (w1 : sj_W) (H : Heap) (locs : List Loc), sj_H G s w1 H locs → Qi r w1 → W p l e R s m args below meth c H locs (cells + 0) (slots + 0) Q (F0 m (pc + 3) ls (.int r :: rest))) : W p l e R s m args below meth c H locs cells slots Q (F0 m pc ls (.int b2 :: .int b1 :: .int b0 :: .ref b :: rest)) :=
  sj_xI hH (sj_runV (n := 3) hC hH (As := [.int b0, .int b1, .int b2]) (wk_X7_common G l hC.2.2.2.2.2.2 b b0 b1 b2 w Qi (fun _ _ => False) hv) (ci := 5) rfl (by decide) hT mb_885 mb_886 mb_887 mb_5 mb_888 (by decide +kernel) hR hf rfl hls hW hdg) (fun _ _ _ _ _ _ _ h _ _ _ => h.elim) kk
end SJL_X7_common
abbrev rm_X7_half : Room := { frames := 0, cells := 0, slots := 0, locals := 0 }
def vc_X7_half (a1 : Int32) (w : sj_W) (Q : Int64 → sj_W → Prop) : Prop := ((¬ a1 = 0 → ((¬ a1 = 1 → Q 2147483648 w) ∧ (a1 = 1 → Q 32768 w))) ∧ (a1 = 0 → Q 128 w))
set_option maxHeartbeats 4000000 in
set_option maxRecDepth 100000 in
theorem wk_X7_half (G : sj_G) (l : Launch) (hlt : l.stackTraces = false) (a1 : Int32) (w : sj_W) (Q : Int64 → sj_W → Prop) (QX : String → sj_W → Prop) (hv : vc_X7_half a1 w Q) : sj_ML G l yX7_half (sj_ws yX7_half cX7_half 1 (some .long)) rm_X7_half [.int a1] w Q QX := by
  refine sj_of (by decide +kernel) (Nat.le_of_ble_eq_true rfl) hlt ?_
  intro p e s m args below meth c ls hC hD hr hin hH hl
  have hx := hC.1
  have hb := hC.2.1
  have hl : lv_has ls 1 [(0, .int a1)] := hl
  refine lv_iload_n hx hb dX7_half_0 rfl (lv_at hl 0 rfl) ?_
  refine lv_if_ne (tgt := 10) hx hb dX7_half_1 (by decide) (fun hc => ?_) (fun hc => ?_)
  · have hv1 := hv.1 hc
    refine lv_iload_n hx hb dX7_half_10 rfl (lv_at hl 0 rfl) ?_
    refine lv_iconst (v := 1) hx hb dX7_half_11 (by decide) ?_
    refine lv_icmp_ne (tgt := 21) hx hb dX7_half_12 (by decide) (fun hc => ?_) (fun hc => ?_)
    · have hv2 := hv1.1 hc
      refine lv_ldc2 (v := 2147483648) hx hb hC.2.2.2.1 (hC.2.2.2.2.1 _ mb_825) dX7_half_21 ?_
      exact sj_retL hC hD.2 hH hr hv2 ⟨(Nat.le_of_ble_eq_true rfl), (Nat.le_of_ble_eq_true rfl)⟩ dX7_half_24
    · have hv3 := hv1.2 hc
      refine lv_ldc2 (v := 32768) hx hb hC.2.2.2.1 (hC.2.2.2.2.1 _ mb_824) dX7_half_15 ?_
      refine lv_goto (tgt := 24) hx hb dX7_half_18 (by decide) ?_
      exact sj_retL hC hD.2 hH hr hv3 ⟨(Nat.le_of_ble_eq_true rfl), (Nat.le_of_ble_eq_true rfl)⟩ dX7_half_24
  · have hv4 := hv.2 hc
    refine lv_ldc2 (v := 128) hx hb hC.2.2.2.1 (hC.2.2.2.2.1 _ mb_823) dX7_half_4 ?_
    refine lv_goto (tgt := 24) hx hb dX7_half_7 (by decide) ?_
    exact sj_retL hC hD.2 hH hr hv4 ⟨(Nat.le_of_ble_eq_true rfl), (Nat.le_of_ble_eq_true rfl)⟩ dX7_half_24
section SJL_X7_half
variable {p : Program} {l : Launch} {e : Env} {R : Room} {s : State} {m : MethodId} {args : Array Value} {below : List Frame} {meth : Method} {c : Code} {H : Heap} {locs : List Loc} {cells slots : Nat} {Q : State → Prop} {cc : ByteArray} {pc : Nat} {ls : Array Slot} {rest : List Value} {G : sj_G} {nL : Nat} {w : sj_W}
theorem cl_X7_101 {rmM : Room} {QcM : Array Value → State → Outcome → State → Prop} {QX : String → sj_W → Prop} {b0 : Int32} {Qi : Int64 → sj_W → Prop} (hC : sj_C G p l s m args c cc RX7 nL) (hD : sj_D meth c) (hH : sj_H G s w H locs) (hv : vc_X7_half b0 w Qi) (hR : rm_X7_half.frames + 1 ≤ R.frames ∧ 8 + (1 + 11) + rm_X7_half.locals ≤ R.locals) (hf : cells + 0 ≤ R.cells ∧ slots + 0 ≤ R.slots) (hfM : cells + 0 ≤ rmM.cells ∧ slots + 0 ≤ rmM.slots) (hls : ls.size = nL) (hW : (rest.map fun v => v.category).sum ≤ 8) (hdg : decode cc pc = .ok (.invokestatic 101, 3)) (kk : ∀ (r : Int64) (w1 : sj_W) (H : Heap) (locs : List Loc), sj_H G s w1 H locs → Qi r w1 → W p l e R s m args below meth c H locs (cells + 0) (slots + 0) (sj_MQ G below QcM QX args s rmM) (F0 m (pc + 3) ls (.long r :: rest))) : W p l e R s m args below meth c H locs cells slots (sj_MQ G below QcM QX args s rmM) (F0 m pc ls (.int b0 :: rest)) :=
  sj_cL hD hH (sj_runS (n := 1) hC hH (As := [.int b0]) (wk_X7_half G l hC.2.2.2.2.2.2 b0 w Qi QX hv) mb_820 mb_821 mb_5 mb_822 (by decide +kernel) hR hf rfl hls hW hdg) hfM kk
end SJL_X7_half
abbrev rm_X7_convert : Room := { frames := 2, cells := 1, slots := 32, locals := 47 }
def vb_X7_convert_100 (f0 : Nat) (f1 : Int32) (f2 : Int32) (f3 : Int32) (f4 : Int32) (f5 : Int32) (f7 : Int32) (f8 : Nat) (Q : Int32 → sj_W → Prop) (E : Int32 → sj_W → Prop) (K : Int32 → Int32 → sj_W → Prop) (v9 : Int32) (v10 : Int32) (w : sj_W) : Prop := ((f7 ≤ v10 → E v9 w) ∧ (¬ f7 ≤ v10 → sj_T w f0 = 6 ∧ sj_A w 40 f0 ≠ 0 ∧ sj_T w f0 = 6 ∧ vc_X7_at f0 f1 f2 v10 w (fun r55 w56 => sj_T w56 (sj_A w 40 f0) = 8 ∧ vp_in r55 (sj_N w56 (sj_A w 40 f0)) ∧ sj_jn1 (fun (E58 : Int32 → sj_W → Prop) => ((0 ≤ (lg_cmp (sj_l w56 (sj_A w 40 f0) r55.toNatClampNeg) 0) → E58 0 w56) ∧ (¬ 0 ≤ (lg_cmp (sj_l w56 (sj_A w 40 f0) r55.toNatClampNeg) 0) → E58 1 w56))) (fun (y0_134 : Int32) (w_134 : sj_W) => sj_jn2 (fun (E66 : Int32 → Int64 → sj_W → Prop) => ((¬ f1 = 108 → sj_jn1 (fun (E73 : Int64 → sj_W → Prop) => ((¬ f5 = 117 → E73 (sj_l w56 (sj_A w 40 f0) r55.toNatClampNeg) w_134) ∧ (f5 = 117 → ((y0_134 = 0 → E73 (sj_l w56 (sj_A w 40 f0) r55.toNatClampNeg) w_134) ∧ (¬ y0_134 = 0 → vc_X7_kindOf f1 w_134 (fun r83 w84 => vc_X7_half r83 w84 (fun r86 w87 => E73 ((sj_l w56 (sj_A w 40 f0) r55.toNatClampNeg) + (2 * r86)) w87))))))) (fun (x11_221 : Int64) (w_221 : sj_W) => ((¬ f5 = 116 → E66 v9 x11_221 w_221) ∧ (f5 = 116 → sj_jn2 (fun (E91 : Int64 → Int64 → sj_W → Prop) => ((y0_134 = 0 → vc_X7_kindOf f1 w_221 (fun r98 w99 => vc_X7_half r98 w99 (fun r101 w102 => E91 (-r101) x11_221 w102))) ∧ (¬ y0_134 = 0 → vc_X7_kindOf f1 w_221 (fun r105 w106 => vc_X7_half r105 w106 (fun r108 w109 => E91 r108 x11_221 w109))))) (fun (y0_253 : Int64) (y1_253 : Int64) (w_253 : sj_W) => E66 v9 (y1_253 + y0_253) w_253))))) ∧ (f1 = 108 → sj_jn1 (fun (E112 : Int32 → sj_W → Prop) => ((¬ f5 = 117 → E112 v9 w_134) ∧ (f5 = 117 → ((y0_134 = 0 → E112 v9 w_134) ∧ (¬ y0_134 = 0 → E112 0 w_134))))) (fun (x9_157 : Int32) (w_157 : sj_W) => ((¬ f5 = 116 → E66 x9_157 (sj_l w56 (sj_A w 40 f0) r55.toNatClampNeg) w_157) ∧ (f5 = 116 → sj_jn1 (fun (E124 : Int64 → sj_W → Prop) => ((y0_134 = 0 → E124 (((sj_l w56 (sj_A w 40 f0) r55.toNatClampNeg) - 9223372036854775807) - 1) w_157) ∧ (¬ y0_134 = 0 → E124 (((sj_l w56 (sj_A w 40 f0) r55.toNatClampNeg) + 9223372036854775807) + 1) w_157))) (fun (y0_188 : Int64) (w_188 : sj_W) => E66 x9_157 y0_188 w_188))))))) (fun (x9_256 : Int32) (x11_256 : Int64) (w_256 : sj_W) => vc_X7_kindOf f3 w_256 (fun r132 w133 => vc_X7_isOf r132 x11_256 w133 (fun r135 w136 => sj_T w136 f8 = 8 ∧ vp_in v10 (sj_N w136 f8) ∧ ∀ w138 : sj_W, w138 = sj_sl w136 f8 v10.toNatClampNeg x11_256 → K (x9_256 &&& r135) (v10 + 1) w138)))))))
def vb_X7_convert_305 (f0 : Nat) (f3 : Int32) (f4 : Int32) (f7 : Int32) (f8 : Nat) (Q : Int32 → sj_W → Prop) (E : sj_W → Prop) (K : Int32 → sj_W → Prop) (v10 : Int32) (w : sj_W) : Prop := ((f7 ≤ v10 → E w) ∧ (¬ f7 ≤ v10 → sj_T w f0 = 6 ∧ sj_A w 40 f0 ≠ 0 ∧ sj_T w f0 = 6 ∧ vc_X7_at f0 f3 f4 v10 w (fun r155 w156 => sj_T w156 f8 = 8 ∧ vp_in v10 (sj_N w156 f8) ∧ sj_T w156 (sj_A w 40 f0) = 8 ∧ vp_in r155 (sj_N w156 (sj_A w 40 f0)) ∧ ∀ w158 : sj_W, w158 = sj_sl w156 (sj_A w 40 f0) r155.toNatClampNeg (sj_l w156 f8 v10.toNatClampNeg) → K (v10 + 1) w158)))
def vc_X7_convert (self : Nat) (a1 : Int32) (a2 : Int32) (a3 : Int32) (a4 : Int32) (a5 : Int32) (w : sj_W) (Q : Int32 → sj_W → Prop) : Prop := vc_X7_isKind a1 w (fun r1 w2 => sj_jn1 (fun (E4 : Int32 → sj_W → Prop) => ((r1 = 0 → E4 0 w2) ∧ (¬ r1 = 0 → vc_X7_isKind a3 w2 (fun r12 w13 => ((r12 = 0 → E4 0 w13) ∧ (¬ r12 = 0 → ((a5 = 110 → E4 1 w13) ∧ (¬ a5 = 110 → ((a5 = 117 → E4 1 w13) ∧ (¬ a5 = 117 → ((¬ a5 = 116 → E4 0 w13) ∧ (a5 = 116 → E4 1 w13)))))))))))) (fun (y0_40 : Int32) (w_40 : sj_W) => sj_jn2 (fun (E23 : Int32 → Nat → sj_W → Prop) => ((¬ y0_40 = 0 → vc_X7_isRow a2 w_40 (fun r30 w31 => ((r30 = 0 → E23 2 self w31) ∧ (¬ r30 = 0 → vc_X7_isRow a4 w31 (fun r35 w36 => ((r35 = 0 → E23 2 self w36) ∧ (¬ r35 = 0 → E23 0 self w36))))))) ∧ (y0_40 = 0 → E23 1 self w_40))) (fun (y0_72 : Int32) (y1_72 : Nat) (w_72 : sj_W) => sj_T w_72 y1_72 = 6 ∧ vc_X7_fails y1_72 y0_72 w_72 (fun r41 w42 => ((r41 = 0 → sj_T w42 self = 6 ∧ vc_X7_size self a1 a2 w42 (fun r45 w46 => ¬ r45 < 0 ∧ r45.toNatClampNeg ≤ 32 ∧ ∀ q48 : Nat, q48 ≠ 0 → sj_T w46 q48 = 0 → ∀ w49 : sj_W, w49 = sj_nw w46 q48 8 r45.toNatClampNeg → sj_lp2 (vb_X7_convert_100 self a1 a2 a3 a4 a5 r45 q48 Q (fun z9_100 w_100 => sj_jn2 (fun (E141 : Int32 → Nat → sj_W → Prop) => ((z9_100 = 0 → E141 3 self w_100) ∧ (¬ z9_100 = 0 → E141 0 self w_100))) (fun (y0_294 : Int32) (y1_294 : Nat) (w_294 : sj_W) => sj_T w_294 y1_294 = 6 ∧ vc_X7_fails y1_294 y0_294 w_294 (fun r149 w150 => ((r149 = 0 → sj_lp1 (vb_X7_convert_305 self a3 a4 r45 q48 Q (fun w_305 => sj_T w_305 self = 6 ∧ vc_X7_resize self a3 a4 r45 w_305 (fun w162 => Q r45 w162))) 64 0 w150) ∧ (¬ r149 = 0 → Q 0 w150)))))) 64 1 0 w49)) ∧ (¬ r41 = 0 → Q 0 w42))))))
set_option maxHeartbeats 4000000 in
set_option maxRecDepth 100000 in
theorem wl_X7_convert_100 {p : Program} {l : Launch} {e : Env} {s : State} {m : MethodId} {args : Array Value} {below : List Frame} {meth : Method} {c : Code} {G : sj_G} {f0 : Nat} {f1 : Int32} {f2 : Int32} {f3 : Int32} {f4 : Int32} {f5 : Int32} {f7 : Int32} {f8 : Nat} {Q : Int32 → sj_W → Prop} {QX : String → sj_W → Prop} {E : Int32 → sj_W → Prop} (hC : sj_C G p l s m args c cX7_convert RX7 14) (hD : sj_D meth c) (hr : meth.sig.returnType = (some .int)) (hin : meth.name = "convert") (hE : ∀ (v9 : Int32) (w : sj_W) (H : Heap) (locs : List Loc) (ls : Array Slot), lv_has ls 14 [(0, .ref f0), (3, .int f3), (4, .int f4), (7, .int f7), (8, .ref f8), (9, .int v9)] → sj_H G s w H locs → E v9 w → W p l e rm_X7_convert s m args below meth c H locs 1 32 (sj_MQ G below (va_Qi Q (sj_B G) (sj_F G)) QX args s rm_X7_convert) (F0 m 283 ls [])) : ∀ (n : Nat) (v9 : Int32) (v10 : Int32) (w : sj_W) (H : Heap) (locs : List Loc) (ls : Array Slot), lv_has ls 14 [(0, .ref f0), (1, .int f1), (2, .int f2), (3, .int f3), (4, .int f4), (5, .int f5), (7, .int f7), (8, .ref f8), (9, .int v9), (10, .int v10)] → sj_H G s w H locs → sj_lp2 (vb_X7_convert_100 f0 f1 f2 f3 f4 f5 f7 f8 Q E) n v9 v10 w → W p l e rm_X7_convert s m args below meth c H locs 1 32 (sj_MQ G below (va_Qi Q (sj_B G) (sj_F G)) QX args s rm_X7_convert) (F0 m 100 ls []) := by
  have hx := hC.1
  have hb := hC.2.1
  intro n
  induction n with
  | zero =>
    intro v9 v10 w H locs ls _ _ hv
    exact hv.elim
  | succ n ih =>
    intro v9 v10 w H locs ls hl hH hv
    have hv : vb_X7_convert_100 f0 f1 f2 f3 f4 f5 f7 f8 Q E (sj_lp2 (vb_X7_convert_100 f0 f1 f2 f3 f4 f5 f7 f8 Q E) n) v9 v10 w := hv
    have hc1 : rm_X7_convert.cells = 1 := rfl
    have hc2 : rm_X7_convert.slots = 32 := rfl
    refine lv_iload hx hb dX7_convert_100 (lv_at hl 9 rfl) ?_
    refine lv_iload hx hb dX7_convert_102 (lv_at hl 6 rfl) ?_
    refine lv_icmp_ge (tgt := 283) hx hb dX7_convert_104 (by decide) (fun hc => ?_) (fun hc => ?_)
    · have hv53 := hv.1 hc
      exact hE v9 w _ _ _ (lv_sub hl [0, 3, 4, 6, 7, 8] rfl) hH hv53
    · have hv54 := hv.2 hc
      refine lv_aload_n hx hb dX7_convert_107 rfl (lv_at hl 0 rfl) ?_
      refine gf_X7_7 hC hH hv54.1 hv54.2.1 dX7_convert_108 ?_
      refine lv_aload_n hx hb dX7_convert_111 rfl (lv_at hl 0 rfl) ?_
      refine lv_iload_n hx hb dX7_convert_112 rfl (lv_at hl 1 rfl) ?_
      refine lv_iload_n hx hb dX7_convert_113 rfl (lv_at hl 2 rfl) ?_
      refine lv_iload hx hb dX7_convert_114 (lv_at hl 9 rfl) ?_
      refine cl_X7_76 hC hD hH hv54.2.2.2 hv54.2.2.1 ⟨Nat.le_of_ble_eq_true rfl, Nat.le_of_ble_eq_true rfl⟩ ⟨(Nat.le_of_ble_eq_true rfl), (Nat.le_of_ble_eq_true rfl)⟩ ⟨(Nat.le_of_ble_eq_true rfl), (Nat.le_of_ble_eq_true rfl)⟩ hl.1 (Nat.le_of_ble_eq_true rfl) dX7_convert_116 (fun r55 w56 H locs hH hv57 => ?_)
      refine sj_lald hC hH hv57.1 hv57.2.1 dX7_convert_119 ?_
      refine lv_lstore (lv' := [(11, .long (sj_l w56 (sj_A w 40 f0) r55.toNatClampNeg)), (0, .ref f0), (1, .int f1), (2, .int f2), (3, .int f3), (4, .int f4), (5, .int f5), (7, .int f7), (8, .ref f8), (9, .int v9), (10, .int v10)]) hx hb dX7_convert_120 hl (by decide) rfl (fun ls hl => ?_)
      refine lv_lload hx hb dX7_convert_122 (lv_at hl 0 rfl) ?_
      refine lv_lconst (v := 0) hx hb dX7_convert_124 (by decide) ?_
      refine W.lcmp hx hb dX7_convert_125 ?_
      obtain ⟨E58, hE59, hv62⟩ := sj_jn1_e hv57.2.2
      have hJ60 : ∀ (y0_134 : Int32) (w_134 : sj_W) (H : Heap) (locs : List Loc) (ls : Array Slot), lv_has ls 14 [(0, .ref f0), (1, .int f1), (2, .int f2), (3, .int f3), (4, .int f4), (5, .int f5), (7, .int f7), (8, .ref f8), (9, .int v9), (10, .int v10), (11, .long (sj_l w56 (sj_A w 40 f0) r55.toNatClampNeg))] → sj_H G s w_134 H locs → E58 y0_134 w_134 → W p l e rm_X7_convert s m args below meth c H locs 1 32 (sj_MQ G below (va_Qi Q (sj_B G) (sj_F G)) QX args s rm_X7_convert) (F0 m 134 ls [.int y0_134]) := by
        intro y0_134 w_134 H locs ls hl hH hv63
        rw [hE59] at hv63
        refine lv_istore (lv' := [(13, .int y0_134), (0, .ref f0), (1, .int f1), (2, .int f2), (3, .int f3), (4, .int f4), (5, .int f5), (7, .int f7), (8, .ref f8), (9, .int v9), (10, .int v10), (11, .long (sj_l w56 (sj_A w 40 f0) r55.toNatClampNeg))]) hx hb dX7_convert_134 hl (by decide) rfl (fun ls hl => ?_)
        refine lv_iload_n hx hb dX7_convert_136 rfl (lv_at hl 2 rfl) ?_
        refine lv_bipush (v := 108) hx hb dX7_convert_137 (by decide) ?_
        obtain ⟨E66, hE67, hv70⟩ := sj_jn2_e hv63
        have hJ68 : ∀ (x9_256 : Int32) (x11_256 : Int64) (w_256 : sj_W) (H : Heap) (locs : List Loc) (ls : Array Slot), lv_has ls 14 [(0, .ref f0), (1, .int f1), (2, .int f2), (3, .int f3), (4, .int f4), (5, .int f5), (7, .int f7), (8, .ref f8), (9, .int x9_256), (10, .int v10), (11, .long x11_256)] → sj_H G s w_256 H locs → E66 x9_256 x11_256 w_256 → W p l e rm_X7_convert s m args below meth c H locs 1 32 (sj_MQ G below (va_Qi Q (sj_B G) (sj_F G)) QX args s rm_X7_convert) (F0 m 256 ls []) := by
          intro x9_256 x11_256 w_256 H locs ls hl hH hv71
          rw [hE67] at hv71
          refine lv_iload hx hb dX7_convert_256 (lv_at hl 8 rfl) ?_
          refine lv_iload_n hx hb dX7_convert_258 rfl (lv_at hl 3 rfl) ?_
          refine cl_X7_33 hC hD hH hv71 ⟨Nat.le_of_ble_eq_true rfl, Nat.le_of_ble_eq_true rfl⟩ ⟨(Nat.le_of_ble_eq_true rfl), (Nat.le_of_ble_eq_true rfl)⟩ ⟨(Nat.le_of_ble_eq_true rfl), (Nat.le_of_ble_eq_true rfl)⟩ hl.1 (Nat.le_of_ble_eq_true rfl) dX7_convert_259 (fun r132 w133 H locs hH hv134 => ?_)
          refine lv_lload hx hb dX7_convert_262 (lv_at hl 10 rfl) ?_
          refine cl_X7_65 hC hD hH hv134 ⟨Nat.le_of_ble_eq_true rfl, Nat.le_of_ble_eq_true rfl⟩ ⟨(Nat.le_of_ble_eq_true rfl), (Nat.le_of_ble_eq_true rfl)⟩ ⟨(Nat.le_of_ble_eq_true rfl), (Nat.le_of_ble_eq_true rfl)⟩ hl.1 (Nat.le_of_ble_eq_true rfl) dX7_convert_264 (fun r135 w136 H locs hH hv137 => ?_)
          refine lv_iand hx hb dX7_convert_267 ?_
          refine lv_istore (lv' := [(9, .int (x9_256 &&& r135)), (0, .ref f0), (1, .int f1), (2, .int f2), (3, .int f3), (4, .int f4), (5, .int f5), (7, .int f7), (8, .ref f8), (10, .int v10), (11, .long x11_256)]) hx hb dX7_convert_268 hl (by decide) rfl (fun ls hl => ?_)
          refine lv_aload hx hb dX7_convert_270 (lv_at hl 8 rfl) ?_
          refine lv_iload hx hb dX7_convert_272 (lv_at hl 9 rfl) ?_
          refine lv_lload hx hb dX7_convert_274 (lv_at hl 10 rfl) ?_
          refine sj_last hC hH hv137.1 hv137.2.1 dX7_convert_276 (fun w138 H locs e139 hH => ?_)
          refine lv_iinc (v := (v10 + 1)) (lv' := [(10, .int (v10 + 1)), (9, .int (x9_256 &&& r135)), (0, .ref f0), (1, .int f1), (2, .int f2), (3, .int f3), (4, .int f4), (5, .int f5), (7, .int f7), (8, .ref f8), (11, .long x11_256)]) hx hb dX7_convert_277 hl (k := 9) rfl rfl (by decide) rfl (fun ls hl => ?_)
          refine lv_goto (tgt := 100) hx hb dX7_convert_280 (by decide) ?_
          exact ih (x9_256 &&& r135) (v10 + 1) w138 _ _ _ (lv_sub hl [2, 3, 4, 5, 6, 7, 8, 9, 1, 0] rfl) hH (hv137.2.2 w138 e139)
        clear hE67
        refine lv_icmp_ne (tgt := 193) hx hb dX7_convert_139 (by decide) (fun hc => ?_) (fun hc => ?_)
        · have hv72 := hv70.1 hc
          refine lv_iload hx hb dX7_convert_193 (lv_at hl 6 rfl) ?_
          refine lv_bipush (v := 117) hx hb dX7_convert_195 (by decide) ?_
          obtain ⟨E73, hE74, hv77⟩ := sj_jn1_e hv72
          have hJ75 : ∀ (x11_221 : Int64) (w_221 : sj_W) (H : Heap) (locs : List Loc) (ls : Array Slot), lv_has ls 14 [(0, .ref f0), (1, .int f1), (2, .int f2), (3, .int f3), (4, .int f4), (5, .int f5), (7, .int f7), (8, .ref f8), (9, .int v9), (10, .int v10), (11, .long x11_221), (13, .int y0_134)] → sj_H G s w_221 H locs → E73 x11_221 w_221 → W p l e rm_X7_convert s m args below meth c H locs 1 32 (sj_MQ G below (va_Qi Q (sj_B G) (sj_F G)) QX args s rm_X7_convert) (F0 m 221 ls []) := by
            intro x11_221 w_221 H locs ls hl hH hv78
            rw [hE74] at hv78
            refine lv_iload hx hb dX7_convert_221 (lv_at hl 5 rfl) ?_
            refine lv_bipush (v := 116) hx hb dX7_convert_223 (by decide) ?_
            refine lv_icmp_ne (tgt := 256) hx hb dX7_convert_225 (by decide) (fun hc => ?_) (fun hc => ?_)
            · have hv89 := hv78.1 hc
              exact hJ68 v9 x11_221 w_221 _ _ _ (lv_sub hl [0, 1, 2, 3, 4, 5, 6, 7, 8, 9, 10] rfl) hH hv89
            · have hv90 := hv78.2 hc
              refine lv_lload hx hb dX7_convert_228 (lv_at hl 10 rfl) ?_
              refine lv_iload hx hb dX7_convert_230 (lv_at hl 11 rfl) ?_
              obtain ⟨E91, hE92, hv95⟩ := sj_jn2_e hv90
              have hJ93 : ∀ (y0_253 : Int64) (y1_253 : Int64) (w_253 : sj_W) (H : Heap) (locs : List Loc) (ls : Array Slot), lv_has ls 14 [(0, .ref f0), (1, .int f1), (2, .int f2), (3, .int f3), (4, .int f4), (5, .int f5), (7, .int f7), (8, .ref f8), (9, .int v9), (10, .int v10)] → sj_H G s w_253 H locs → E91 y0_253 y1_253 w_253 → W p l e rm_X7_convert s m args below meth c H locs 1 32 (sj_MQ G below (va_Qi Q (sj_B G) (sj_F G)) QX args s rm_X7_convert) (F0 m 253 ls [.long y0_253, .long y1_253]) := by
                intro y0_253 y1_253 w_253 H locs ls hl hH hv96
                rw [hE92] at hv96
                refine lv_ladd hx hb dX7_convert_253 ?_
                refine lv_lstore (lv' := [(11, .long (y1_253 + y0_253)), (0, .ref f0), (1, .int f1), (2, .int f2), (3, .int f3), (4, .int f4), (5, .int f5), (7, .int f7), (8, .ref f8), (9, .int v9), (10, .int v10)]) hx hb dX7_convert_254 hl (by decide) rfl (fun ls hl => ?_)
                exact hJ68 v9 (y1_253 + y0_253) w_253 _ _ _ (lv_sub hl [1, 2, 3, 4, 5, 6, 7, 8, 9, 10, 0] rfl) hH hv96
              clear hE92
              refine lv_if_eq (tgt := 245) hx hb dX7_convert_232 (by decide) (fun hc => ?_) (fun hc => ?_)
              · have hv97 := hv95.1 hc
                refine lv_iload_n hx hb dX7_convert_245 rfl (lv_at hl 1 rfl) ?_
                refine cl_X7_33 hC hD hH hv97 ⟨Nat.le_of_ble_eq_true rfl, Nat.le_of_ble_eq_true rfl⟩ ⟨(Nat.le_of_ble_eq_true rfl), (Nat.le_of_ble_eq_true rfl)⟩ ⟨(Nat.le_of_ble_eq_true rfl), (Nat.le_of_ble_eq_true rfl)⟩ hl.1 (Nat.le_of_ble_eq_true rfl) dX7_convert_246 (fun r98 w99 H locs hH hv100 => ?_)
                refine cl_X7_101 hC hD hH hv100 ⟨Nat.le_of_ble_eq_true rfl, Nat.le_of_ble_eq_true rfl⟩ ⟨(Nat.le_of_ble_eq_true rfl), (Nat.le_of_ble_eq_true rfl)⟩ ⟨(Nat.le_of_ble_eq_true rfl), (Nat.le_of_ble_eq_true rfl)⟩ hl.1 (Nat.le_of_ble_eq_true rfl) dX7_convert_249 (fun r101 w102 H locs hH hv103 => ?_)
                refine lv_lneg hx hb dX7_convert_252 ?_
                exact hJ93 (-r101) x11_221 w102 _ _ _ (lv_sub hl [0, 1, 2, 3, 4, 5, 6, 7, 8, 9] rfl) hH hv103
              · have hv104 := hv95.2 hc
                refine lv_iload_n hx hb dX7_convert_235 rfl (lv_at hl 1 rfl) ?_
                refine cl_X7_33 hC hD hH hv104 ⟨Nat.le_of_ble_eq_true rfl, Nat.le_of_ble_eq_true rfl⟩ ⟨(Nat.le_of_ble_eq_true rfl), (Nat.le_of_ble_eq_true rfl)⟩ ⟨(Nat.le_of_ble_eq_true rfl), (Nat.le_of_ble_eq_true rfl)⟩ hl.1 (Nat.le_of_ble_eq_true rfl) dX7_convert_236 (fun r105 w106 H locs hH hv107 => ?_)
                refine cl_X7_101 hC hD hH hv107 ⟨Nat.le_of_ble_eq_true rfl, Nat.le_of_ble_eq_true rfl⟩ ⟨(Nat.le_of_ble_eq_true rfl), (Nat.le_of_ble_eq_true rfl)⟩ ⟨(Nat.le_of_ble_eq_true rfl), (Nat.le_of_ble_eq_true rfl)⟩ hl.1 (Nat.le_of_ble_eq_true rfl) dX7_convert_239 (fun r108 w109 H locs hH hv110 => ?_)
                refine lv_goto (tgt := 253) hx hb dX7_convert_242 (by decide) ?_
                exact hJ93 r108 x11_221 w109 _ _ _ (lv_sub hl [0, 1, 2, 3, 4, 5, 6, 7, 8, 9] rfl) hH hv110
          clear hE74
          refine lv_icmp_ne (tgt := 221) hx hb dX7_convert_197 (by decide) (fun hc => ?_) (fun hc => ?_)
          · have hv79 := hv77.1 hc
            exact hJ75 (sj_l w56 (sj_A w 40 f0) r55.toNatClampNeg) w_134 _ _ _ (lv_sub hl [1, 2, 3, 4, 5, 6, 7, 8, 9, 10, 11, 0] rfl) hH hv79
          · have hv80 := hv77.2 hc
            refine lv_iload hx hb dX7_convert_200 (lv_at hl 0 rfl) ?_
            refine lv_if_eq (tgt := 221) hx hb dX7_convert_202 (by decide) (fun hc => ?_) (fun hc => ?_)
            · have hv81 := hv80.1 hc
              exact hJ75 (sj_l w56 (sj_A w 40 f0) r55.toNatClampNeg) w_134 _ _ _ (lv_sub hl [1, 2, 3, 4, 5, 6, 7, 8, 9, 10, 11, 0] rfl) hH hv81
            · have hv82 := hv80.2 hc
              refine lv_lload hx hb dX7_convert_205 (lv_at hl 11 rfl) ?_
              refine lv_ldc2 (v := 2) hx hb hC.2.2.2.1 (hC.2.2.2.2.1 _ mb_819) dX7_convert_207 ?_
              refine lv_iload_n hx hb dX7_convert_210 rfl (lv_at hl 2 rfl) ?_
              refine cl_X7_33 hC hD hH hv82 ⟨Nat.le_of_ble_eq_true rfl, Nat.le_of_ble_eq_true rfl⟩ ⟨(Nat.le_of_ble_eq_true rfl), (Nat.le_of_ble_eq_true rfl)⟩ ⟨(Nat.le_of_ble_eq_true rfl), (Nat.le_of_ble_eq_true rfl)⟩ hl.1 (Nat.le_of_ble_eq_true rfl) dX7_convert_211 (fun r83 w84 H locs hH hv85 => ?_)
              refine cl_X7_101 hC hD hH hv85 ⟨Nat.le_of_ble_eq_true rfl, Nat.le_of_ble_eq_true rfl⟩ ⟨(Nat.le_of_ble_eq_true rfl), (Nat.le_of_ble_eq_true rfl)⟩ ⟨(Nat.le_of_ble_eq_true rfl), (Nat.le_of_ble_eq_true rfl)⟩ hl.1 (Nat.le_of_ble_eq_true rfl) dX7_convert_214 (fun r86 w87 H locs hH hv88 => ?_)
              refine lv_lmul hx hb dX7_convert_217 ?_
              refine lv_ladd hx hb dX7_convert_218 ?_
              refine lv_lstore (lv' := [(11, .long ((sj_l w56 (sj_A w 40 f0) r55.toNatClampNeg) + (2 * r86))), (13, .int y0_134), (0, .ref f0), (1, .int f1), (2, .int f2), (3, .int f3), (4, .int f4), (5, .int f5), (7, .int f7), (8, .ref f8), (9, .int v9), (10, .int v10)]) hx hb dX7_convert_219 hl (by decide) rfl (fun ls hl => ?_)
              exact hJ75 ((sj_l w56 (sj_A w 40 f0) r55.toNatClampNeg) + (2 * r86)) w87 _ _ _ (lv_sub hl [2, 3, 4, 5, 6, 7, 8, 9, 10, 11, 0, 1] rfl) hH hv88
        · have hv111 := hv70.2 hc
          refine lv_iload hx hb dX7_convert_142 (lv_at hl 6 rfl) ?_
          refine lv_bipush (v := 117) hx hb dX7_convert_144 (by decide) ?_
          obtain ⟨E112, hE113, hv116⟩ := sj_jn1_e hv111
          have hJ114 : ∀ (x9_157 : Int32) (w_157 : sj_W) (H : Heap) (locs : List Loc) (ls : Array Slot), lv_has ls 14 [(0, .ref f0), (1, .int f1), (2, .int f2), (3, .int f3), (4, .int f4), (5, .int f5), (7, .int f7), (8, .ref f8), (9, .int x9_157), (10, .int v10), (11, .long (sj_l w56 (sj_A w 40 f0) r55.toNatClampNeg)), (13, .int y0_134)] → sj_H G s w_157 H locs → E112 x9_157 w_157 → W p l e rm_X7_convert s m args below meth c H locs 1 32 (sj_MQ G below (va_Qi Q (sj_B G) (sj_F G)) QX args s rm_X7_convert) (F0 m 157 ls []) := by
            intro x9_157 w_157 H locs ls hl hH hv117
            rw [hE113] at hv117
            refine lv_iload hx hb dX7_convert_157 (lv_at hl 5 rfl) ?_
            refine lv_bipush (v := 116) hx hb dX7_convert_159 (by decide) ?_
            refine lv_icmp_ne (tgt := 256) hx hb dX7_convert_161 (by decide) (fun hc => ?_) (fun hc => ?_)
            · have hv122 := hv117.1 hc
              exact hJ68 x9_157 (sj_l w56 (sj_A w 40 f0) r55.toNatClampNeg) w_157 _ _ _ (lv_sub hl [0, 1, 2, 3, 4, 5, 6, 7, 8, 9, 10] rfl) hH hv122
            · have hv123 := hv117.2 hc
              refine lv_iload hx hb dX7_convert_164 (lv_at hl 11 rfl) ?_
              obtain ⟨E124, hE125, hv128⟩ := sj_jn1_e hv123
              have hJ126 : ∀ (y0_188 : Int64) (w_188 : sj_W) (H : Heap) (locs : List Loc) (ls : Array Slot), lv_has ls 14 [(0, .ref f0), (1, .int f1), (2, .int f2), (3, .int f3), (4, .int f4), (5, .int f5), (7, .int f7), (8, .ref f8), (9, .int x9_157), (10, .int v10)] → sj_H G s w_188 H locs → E124 y0_188 w_188 → W p l e rm_X7_convert s m args below meth c H locs 1 32 (sj_MQ G below (va_Qi Q (sj_B G) (sj_F G)) QX args s rm_X7_convert) (F0 m 188 ls [.long y0_188]) := by
                intro y0_188 w_188 H locs ls hl hH hv129
                rw [hE125] at hv129
                refine lv_lstore (lv' := [(11, .long y0_188), (0, .ref f0), (1, .int f1), (2, .int f2), (3, .int f3), (4, .int f4), (5, .int f5), (7, .int f7), (8, .ref f8), (9, .int x9_157), (10, .int v10)]) hx hb dX7_convert_188 hl (by decide) rfl (fun ls hl => ?_)
                refine lv_goto (tgt := 256) hx hb dX7_convert_190 (by decide) ?_
                exact hJ68 x9_157 y0_188 w_188 _ _ _ (lv_sub hl [1, 2, 3, 4, 5, 6, 7, 8, 9, 10, 0] rfl) hH hv129
              clear hE125
              refine lv_if_eq (tgt := 180) hx hb dX7_convert_166 (by decide) (fun hc => ?_) (fun hc => ?_)
              · have hv130 := hv128.1 hc
                refine lv_lload hx hb dX7_convert_180 (lv_at hl 10 rfl) ?_
                refine lv_ldc2 (v := 9223372036854775807) hx hb hC.2.2.2.1 (hC.2.2.2.2.1 _ mb_818) dX7_convert_182 ?_
                refine lv_lsub hx hb dX7_convert_185 ?_
                refine lv_lconst (v := 1) hx hb dX7_convert_186 (by decide) ?_
                refine lv_lsub hx hb dX7_convert_187 ?_
                exact hJ126 (((sj_l w56 (sj_A w 40 f0) r55.toNatClampNeg) - 9223372036854775807) - 1) w_157 _ _ _ (lv_sub hl [0, 1, 2, 3, 4, 5, 6, 7, 8, 9] rfl) hH hv130
              · have hv131 := hv128.2 hc
                refine lv_lload hx hb dX7_convert_169 (lv_at hl 10 rfl) ?_
                refine lv_ldc2 (v := 9223372036854775807) hx hb hC.2.2.2.1 (hC.2.2.2.2.1 _ mb_818) dX7_convert_171 ?_
                refine lv_ladd hx hb dX7_convert_174 ?_
                refine lv_lconst (v := 1) hx hb dX7_convert_175 (by decide) ?_
                refine lv_ladd hx hb dX7_convert_176 ?_
                refine lv_goto (tgt := 188) hx hb dX7_convert_177 (by decide) ?_
                exact hJ126 (((sj_l w56 (sj_A w 40 f0) r55.toNatClampNeg) + 9223372036854775807) + 1) w_157 _ _ _ (lv_sub hl [0, 1, 2, 3, 4, 5, 6, 7, 8, 9] rfl) hH hv131
          clear hE113
          refine lv_icmp_ne (tgt := 157) hx hb dX7_convert_146 (by decide) (fun hc => ?_) (fun hc => ?_)
          · have hv118 := hv116.1 hc
            exact hJ114 v9 w_134 _ _ _ (lv_sub hl [1, 2, 3, 4, 5, 6, 7, 8, 9, 10, 11, 0] rfl) hH hv118
          · have hv119 := hv116.2 hc
            refine lv_iload hx hb dX7_convert_149 (lv_at hl 0 rfl) ?_
            refine lv_if_eq (tgt := 157) hx hb dX7_convert_151 (by decide) (fun hc => ?_) (fun hc => ?_)
            · have hv120 := hv119.1 hc
              exact hJ114 v9 w_134 _ _ _ (lv_sub hl [1, 2, 3, 4, 5, 6, 7, 8, 9, 10, 11, 0] rfl) hH hv120
            · have hv121 := hv119.2 hc
              refine lv_iconst (v := 0) hx hb dX7_convert_154 (by decide) ?_
              refine lv_istore (lv' := [(9, .int 0), (13, .int y0_134), (0, .ref f0), (1, .int f1), (2, .int f2), (3, .int f3), (4, .int f4), (5, .int f5), (7, .int f7), (8, .ref f8), (10, .int v10), (11, .long (sj_l w56 (sj_A w 40 f0) r55.toNatClampNeg))]) hx hb dX7_convert_155 hl (by decide) rfl (fun ls hl => ?_)
              exact hJ114 0 w_134 _ _ _ (lv_sub hl [2, 3, 4, 5, 6, 7, 8, 9, 0, 10, 11, 1] rfl) hH hv121
      clear hE59
      refine lv_if_ge (tgt := 133) hx hb dX7_convert_126 (by decide) (fun hc => ?_) (fun hc => ?_)
      · have hv64 := hv62.1 hc
        refine lv_iconst (v := 0) hx hb dX7_convert_133 (by decide) ?_
        exact hJ60 0 w56 _ _ _ (lv_sub hl [1, 2, 3, 4, 5, 6, 7, 8, 9, 10, 0] rfl) hH hv64
      · have hv65 := hv62.2 hc
        refine lv_iconst (v := 1) hx hb dX7_convert_129 (by decide) ?_
        refine lv_goto (tgt := 134) hx hb dX7_convert_130 (by decide) ?_
        exact hJ60 1 w56 _ _ _ (lv_sub hl [1, 2, 3, 4, 5, 6, 7, 8, 9, 10, 0] rfl) hH hv65
set_option maxHeartbeats 4000000 in
set_option maxRecDepth 100000 in
theorem wl_X7_convert_305 {p : Program} {l : Launch} {e : Env} {s : State} {m : MethodId} {args : Array Value} {below : List Frame} {meth : Method} {c : Code} {G : sj_G} {f0 : Nat} {f3 : Int32} {f4 : Int32} {f7 : Int32} {f8 : Nat} {Q : Int32 → sj_W → Prop} {QX : String → sj_W → Prop} {E : sj_W → Prop} (hC : sj_C G p l s m args c cX7_convert RX7 14) (hD : sj_D meth c) (hr : meth.sig.returnType = (some .int)) (hin : meth.name = "convert") (hE : ∀ (w : sj_W) (H : Heap) (locs : List Loc) (ls : Array Slot), lv_has ls 14 [(0, .ref f0), (3, .int f3), (4, .int f4), (7, .int f7)] → sj_H G s w H locs → E w → W p l e rm_X7_convert s m args below meth c H locs 1 32 (sj_MQ G below (va_Qi Q (sj_B G) (sj_F G)) QX args s rm_X7_convert) (F0 m 337 ls [])) : ∀ (n : Nat) (v10 : Int32) (w : sj_W) (H : Heap) (locs : List Loc) (ls : Array Slot), lv_has ls 14 [(0, .ref f0), (3, .int f3), (4, .int f4), (7, .int f7), (8, .ref f8), (10, .int v10)] → sj_H G s w H locs → sj_lp1 (vb_X7_convert_305 f0 f3 f4 f7 f8 Q E) n v10 w → W p l e rm_X7_convert s m args below meth c H locs 1 32 (sj_MQ G below (va_Qi Q (sj_B G) (sj_F G)) QX args s rm_X7_convert) (F0 m 305 ls []) := by
  have hx := hC.1
  have hb := hC.2.1
  intro n
  induction n with
  | zero =>
    intro v10 w H locs ls _ _ hv
    exact hv.elim
  | succ n ih =>
    intro v10 w H locs ls hl hH hv
    have hv : vb_X7_convert_305 f0 f3 f4 f7 f8 Q E (sj_lp1 (vb_X7_convert_305 f0 f3 f4 f7 f8 Q E) n) v10 w := hv
    have hc1 : rm_X7_convert.cells = 1 := rfl
    have hc2 : rm_X7_convert.slots = 32 := rfl
    refine lv_iload hx hb dX7_convert_305 (lv_at hl 5 rfl) ?_
    refine lv_iload hx hb dX7_convert_307 (lv_at hl 3 rfl) ?_
    refine lv_icmp_ge (tgt := 337) hx hb dX7_convert_309 (by decide) (fun hc => ?_) (fun hc => ?_)
    · have hv153 := hv.1 hc
      exact hE  w _ _ _ (lv_sub hl [0, 1, 2, 3] rfl) hH hv153
    · have hv154 := hv.2 hc
      refine lv_aload_n hx hb dX7_convert_312 rfl (lv_at hl 0 rfl) ?_
      refine gf_X7_7 hC hH hv154.1 hv154.2.1 dX7_convert_313 ?_
      refine lv_aload_n hx hb dX7_convert_316 rfl (lv_at hl 0 rfl) ?_
      refine lv_iload_n hx hb dX7_convert_317 rfl (lv_at hl 1 rfl) ?_
      refine lv_iload hx hb dX7_convert_318 (lv_at hl 2 rfl) ?_
      refine lv_iload hx hb dX7_convert_320 (lv_at hl 5 rfl) ?_
      refine cl_X7_76 hC hD hH hv154.2.2.2 hv154.2.2.1 ⟨Nat.le_of_ble_eq_true rfl, Nat.le_of_ble_eq_true rfl⟩ ⟨(Nat.le_of_ble_eq_true rfl), (Nat.le_of_ble_eq_true rfl)⟩ ⟨(Nat.le_of_ble_eq_true rfl), (Nat.le_of_ble_eq_true rfl)⟩ hl.1 (Nat.le_of_ble_eq_true rfl) dX7_convert_322 (fun r155 w156 H locs hH hv157 => ?_)
      refine lv_aload hx hb dX7_convert_325 (lv_at hl 4 rfl) ?_
      refine lv_iload hx hb dX7_convert_327 (lv_at hl 5 rfl) ?_
      refine sj_lald hC hH hv157.1 hv157.2.1 dX7_convert_329 ?_
      refine sj_last hC hH hv157.2.2.1 hv157.2.2.2.1 dX7_convert_330 (fun w158 H locs e159 hH => ?_)
      refine lv_iinc (v := (v10 + 1)) (lv' := [(10, .int (v10 + 1)), (0, .ref f0), (3, .int f3), (4, .int f4), (7, .int f7), (8, .ref f8)]) hx hb dX7_convert_331 hl (k := 5) rfl rfl (by decide) rfl (fun ls hl => ?_)
      refine lv_goto (tgt := 305) hx hb dX7_convert_334 (by decide) ?_
      exact ih (v10 + 1) w158 _ _ _ (lv_sub hl [1, 2, 3, 4, 5, 0] rfl) hH (hv157.2.2.2.2 w158 e159)
set_option maxHeartbeats 4000000 in
set_option maxRecDepth 100000 in
theorem wk_X7_convert (G : sj_G) (l : Launch) (hlt : l.stackTraces = false) (self : Nat) (a1 : Int32) (a2 : Int32) (a3 : Int32) (a4 : Int32) (a5 : Int32) (w : sj_W) (Q : Int32 → sj_W → Prop) (QX : String → sj_W → Prop) (hv : vc_X7_convert self a1 a2 a3 a4 a5 w Q) : sj_MI G l yX7_convert (sj_ws yX7_convert cX7_convert 14 (some .int)) rm_X7_convert [.ref self, .int a1, .int a2, .int a3, .int a4, .int a5] w Q QX := by
  refine sj_of (by decide +kernel) (Nat.le_of_ble_eq_true rfl) hlt ?_
  intro p e s m args below meth c ls hC hD hr hin hH hl
  have hx := hC.1
  have hb := hC.2.1
  have hl : lv_has ls 14 [(0, .ref self), (1, .int a1), (2, .int a2), (3, .int a3), (4, .int a4), (5, .int a5)] := hl
  refine lv_iload_n hx hb dX7_convert_0 rfl (lv_at hl 1 rfl) ?_
  refine cl_X7_57 hC hD hH hv ⟨Nat.le_of_ble_eq_true rfl, Nat.le_of_ble_eq_true rfl⟩ ⟨(Nat.le_of_ble_eq_true rfl), (Nat.le_of_ble_eq_true rfl)⟩ ⟨(Nat.le_of_ble_eq_true rfl), (Nat.le_of_ble_eq_true rfl)⟩ hl.1 (Nat.le_of_ble_eq_true rfl) dX7_convert_1 (fun r1 w2 H locs hH hv3 => ?_)
  obtain ⟨E4, hE5, hv8⟩ := sj_jn1_e hv3
  have hJ6 : ∀ (y0_40 : Int32) (w_40 : sj_W) (H : Heap) (locs : List Loc) (ls : Array Slot), lv_has ls 14 [(0, .ref self), (1, .int a1), (2, .int a2), (3, .int a3), (4, .int a4), (5, .int a5)] → sj_H G s w_40 H locs → E4 y0_40 w_40 → W p l e rm_X7_convert s m args below meth c H locs 0 0 (sj_MQ G below (va_Qi Q (sj_B G) (sj_F G)) QX args s rm_X7_convert) (F0 m 40 ls [.int y0_40]) := by
    intro y0_40 w_40 H locs ls hl hH hv9
    rw [hE5] at hv9
    refine lv_istore (lv' := [(6, .int y0_40), (0, .ref self), (1, .int a1), (2, .int a2), (3, .int a3), (4, .int a4), (5, .int a5)]) hx hb dX7_convert_40 hl (by decide) rfl (fun ls hl => ?_)
    refine lv_aload_n hx hb dX7_convert_42 rfl (lv_at hl 1 rfl) ?_
    refine lv_iload hx hb dX7_convert_43 (lv_at hl 0 rfl) ?_
    obtain ⟨E23, hE24, hv27⟩ := sj_jn2_e hv9
    have hJ25 : ∀ (y0_72 : Int32) (y1_72 : Nat) (w_72 : sj_W) (H : Heap) (locs : List Loc) (ls : Array Slot), lv_has ls 14 [(0, .ref self), (1, .int a1), (2, .int a2), (3, .int a3), (4, .int a4), (5, .int a5)] → sj_H G s w_72 H locs → E23 y0_72 y1_72 w_72 → W p l e rm_X7_convert s m args below meth c H locs 0 0 (sj_MQ G below (va_Qi Q (sj_B G) (sj_F G)) QX args s rm_X7_convert) (F0 m 72 ls [.int y0_72, .ref y1_72]) := by
      intro y0_72 y1_72 w_72 H locs ls hl hH hv28
      rw [hE24] at hv28
      refine cl_X7_73 hC hD hH hv28.2 hv28.1 ⟨Nat.le_of_ble_eq_true rfl, Nat.le_of_ble_eq_true rfl⟩ ⟨(Nat.le_of_ble_eq_true rfl), (Nat.le_of_ble_eq_true rfl)⟩ ⟨(Nat.le_of_ble_eq_true rfl), (Nat.le_of_ble_eq_true rfl)⟩ hl.1 (Nat.le_of_ble_eq_true rfl) dX7_convert_72 (fun r41 w42 H locs hH hv43 => ?_)
      refine lv_if_eq (tgt := 80) hx hb dX7_convert_75 (by decide) (fun hc => ?_) (fun hc => ?_)
      · have hv44 := hv43.1 hc
        refine lv_aload_n hx hb dX7_convert_80 rfl (lv_at hl 0 rfl) ?_
        refine lv_iload_n hx hb dX7_convert_81 rfl (lv_at hl 1 rfl) ?_
        refine lv_iload_n hx hb dX7_convert_82 rfl (lv_at hl 2 rfl) ?_
        refine cl_X7_69 hC hD hH hv44.2 hv44.1 ⟨Nat.le_of_ble_eq_true rfl, Nat.le_of_ble_eq_true rfl⟩ ⟨(Nat.le_of_ble_eq_true rfl), (Nat.le_of_ble_eq_true rfl)⟩ ⟨(Nat.le_of_ble_eq_true rfl), (Nat.le_of_ble_eq_true rfl)⟩ hl.1 (Nat.le_of_ble_eq_true rfl) dX7_convert_83 (fun r45 w46 H locs hH hv47 => ?_)
        refine lv_istore (lv' := [(7, .int r45), (0, .ref self), (1, .int a1), (2, .int a2), (3, .int a3), (4, .int a4), (5, .int a5)]) hx hb dX7_convert_86 hl (by decide) rfl (fun ls hl => ?_)
        refine lv_iload hx hb dX7_convert_88 (lv_at hl 0 rfl) ?_
        have hN := hv47.2.1
        refine sj_newJ hC hH mb_70 hv47.1 rfl (Nat.le_trans hN (by decide)) (Nat.le_of_ble_eq_true rfl) (Nat.le_trans (Nat.add_le_add_left hN _) (Nat.le_of_ble_eq_true rfl)) dX7_convert_90 (fun q48 w49 H h51 h52 e50 hH => ?_)
        refine W.widen (k := 1) (n := 32) (Nat.le_refl _) (Nat.add_le_add_left hN _) ?_
        refine lv_astore (lv' := [(8, .ref q48), (7, .int r45), (0, .ref self), (1, .int a1), (2, .int a2), (3, .int a3), (4, .int a4), (5, .int a5)]) hx hb dX7_convert_92 hl (by decide) rfl (fun ls hl => ?_)
        refine lv_iconst (v := 1) hx hb dX7_convert_94 (by decide) ?_
        refine lv_istore (lv' := [(9, .int 1), (8, .ref q48), (7, .int r45), (0, .ref self), (1, .int a1), (2, .int a2), (3, .int a3), (4, .int a4), (5, .int a5)]) hx hb dX7_convert_95 hl (by decide) rfl (fun ls hl => ?_)
        refine lv_iconst (v := 0) hx hb dX7_convert_97 (by decide) ?_
        refine lv_istore (lv' := [(10, .int 0), (9, .int 1), (8, .ref q48), (7, .int r45), (0, .ref self), (1, .int a1), (2, .int a2), (3, .int a3), (4, .int a4), (5, .int a5)]) hx hb dX7_convert_98 hl (by decide) rfl (fun ls hl => ?_)
        refine wl_X7_convert_100 hC hD hr hin (fun z9_100 w_100 H locs ls hl hH hv140 => ?_) 64 1 0 w49 _ _ _ (lv_sub hl [4, 5, 6, 7, 8, 9, 3, 2, 1, 0] rfl) hH (hv47.2.2 q48 h51 h52 w49 e50)
        refine lv_aload_n hx hb dX7_convert_283 rfl (lv_at hl 0 rfl) ?_
        refine lv_iload hx hb dX7_convert_284 (lv_at hl 5 rfl) ?_
        obtain ⟨E141, hE142, hv145⟩ := sj_jn2_e hv140
        have hJ143 : ∀ (y0_294 : Int32) (y1_294 : Nat) (w_294 : sj_W) (H : Heap) (locs : List Loc) (ls : Array Slot), lv_has ls 14 [(0, .ref self), (3, .int a3), (4, .int a4), (7, .int r45), (8, .ref q48)] → sj_H G s w_294 H locs → E141 y0_294 y1_294 w_294 → W p l e rm_X7_convert s m args below meth c H locs 1 32 (sj_MQ G below (va_Qi Q (sj_B G) (sj_F G)) QX args s rm_X7_convert) (F0 m 294 ls [.int y0_294, .ref y1_294]) := by
          intro y0_294 y1_294 w_294 H locs ls hl hH hv146
          rw [hE142] at hv146
          refine cl_X7_73 hC hD hH hv146.2 hv146.1 ⟨Nat.le_of_ble_eq_true rfl, Nat.le_of_ble_eq_true rfl⟩ ⟨(Nat.le_of_ble_eq_true rfl), (Nat.le_of_ble_eq_true rfl)⟩ ⟨(Nat.le_of_ble_eq_true rfl), (Nat.le_of_ble_eq_true rfl)⟩ hl.1 (Nat.le_of_ble_eq_true rfl) dX7_convert_294 (fun r149 w150 H locs hH hv151 => ?_)
          refine lv_if_eq (tgt := 302) hx hb dX7_convert_297 (by decide) (fun hc => ?_) (fun hc => ?_)
          · have hv152 := hv151.1 hc
            refine lv_iconst (v := 0) hx hb dX7_convert_302 (by decide) ?_
            refine lv_istore (lv' := [(10, .int 0), (0, .ref self), (3, .int a3), (4, .int a4), (7, .int r45), (8, .ref q48)]) hx hb dX7_convert_303 hl (by decide) rfl (fun ls hl => ?_)
            refine wl_X7_convert_305 hC hD hr hin (fun w_305 H locs ls hl hH hv160 => ?_) 64 0 w150 _ _ _ (lv_sub hl [1, 2, 3, 4, 5, 0] rfl) hH hv152
            refine lv_aload_n hx hb dX7_convert_337 rfl (lv_at hl 0 rfl) ?_
            refine lv_iload_n hx hb dX7_convert_338 rfl (lv_at hl 1 rfl) ?_
            refine lv_iload hx hb dX7_convert_339 (lv_at hl 2 rfl) ?_
            refine lv_iload hx hb dX7_convert_341 (lv_at hl 3 rfl) ?_
            refine cl_X7_80 hC hD hH hv160.2 hv160.1 ⟨Nat.le_of_ble_eq_true rfl, Nat.le_of_ble_eq_true rfl⟩ ⟨(Nat.le_of_ble_eq_true rfl), (Nat.le_of_ble_eq_true rfl)⟩ ⟨(Nat.le_of_ble_eq_true rfl), (Nat.le_of_ble_eq_true rfl)⟩ hl.1 (Nat.le_of_ble_eq_true rfl) dX7_convert_343 (fun w162 H locs hH hv163 => ?_)
            refine lv_iload hx hb dX7_convert_346 (lv_at hl 3 rfl) ?_
            exact sj_retI hC hD.2 hH hr rfl hv163 ⟨(Nat.le_of_ble_eq_true rfl), (Nat.le_of_ble_eq_true rfl)⟩ dX7_convert_348
          · have hv164 := hv151.2 hc
            refine lv_iconst (v := 0) hx hb dX7_convert_300 (by decide) ?_
            exact sj_retI hC hD.2 hH hr rfl hv164 ⟨(Nat.le_of_ble_eq_true rfl), (Nat.le_of_ble_eq_true rfl)⟩ dX7_convert_301
        clear hE142
        refine lv_if_eq (tgt := 293) hx hb dX7_convert_286 (by decide) (fun hc => ?_) (fun hc => ?_)
        · have hv147 := hv145.1 hc
          refine lv_iconst (v := 3) hx hb dX7_convert_293 (by decide) ?_
          exact hJ143 3 self w_100 _ _ _ (lv_sub hl [0, 1, 2, 3, 4] rfl) hH hv147
        · have hv148 := hv145.2 hc
          refine lv_iconst (v := 0) hx hb dX7_convert_289 (by decide) ?_
          refine lv_goto (tgt := 294) hx hb dX7_convert_290 (by decide) ?_
          exact hJ143 0 self w_100 _ _ _ (lv_sub hl [0, 1, 2, 3, 4] rfl) hH hv148
      · have hv165 := hv43.2 hc
        refine lv_iconst (v := 0) hx hb dX7_convert_78 (by decide) ?_
        exact sj_retI hC hD.2 hH hr rfl hv165 ⟨(Nat.le_of_ble_eq_true rfl), (Nat.le_of_ble_eq_true rfl)⟩ dX7_convert_79
    clear hE24
    refine lv_if_ne (tgt := 52) hx hb dX7_convert_45 (by decide) (fun hc => ?_) (fun hc => ?_)
    · have hv29 := hv27.1 hc
      refine lv_iload_n hx hb dX7_convert_52 rfl (lv_at hl 3 rfl) ?_
      refine cl_X7_61 hC hD hH hv29 ⟨Nat.le_of_ble_eq_true rfl, Nat.le_of_ble_eq_true rfl⟩ ⟨(Nat.le_of_ble_eq_true rfl), (Nat.le_of_ble_eq_true rfl)⟩ ⟨(Nat.le_of_ble_eq_true rfl), (Nat.le_of_ble_eq_true rfl)⟩ hl.1 (Nat.le_of_ble_eq_true rfl) dX7_convert_53 (fun r30 w31 H locs hH hv32 => ?_)
      refine lv_if_eq (tgt := 71) hx hb dX7_convert_56 (by decide) (fun hc => ?_) (fun hc => ?_)
      · have hv33 := hv32.1 hc
        refine lv_iconst (v := 2) hx hb dX7_convert_71 (by decide) ?_
        exact hJ25 2 self w31 _ _ _ (lv_sub hl [1, 2, 3, 4, 5, 6] rfl) hH hv33
      · have hv34 := hv32.2 hc
        refine lv_iload hx hb dX7_convert_59 (lv_at hl 5 rfl) ?_
        refine cl_X7_61 hC hD hH hv34 ⟨Nat.le_of_ble_eq_true rfl, Nat.le_of_ble_eq_true rfl⟩ ⟨(Nat.le_of_ble_eq_true rfl), (Nat.le_of_ble_eq_true rfl)⟩ ⟨(Nat.le_of_ble_eq_true rfl), (Nat.le_of_ble_eq_true rfl)⟩ hl.1 (Nat.le_of_ble_eq_true rfl) dX7_convert_61 (fun r35 w36 H locs hH hv37 => ?_)
        refine lv_if_eq (tgt := 71) hx hb dX7_convert_64 (by decide) (fun hc => ?_) (fun hc => ?_)
        · have hv38 := hv37.1 hc
          refine lv_iconst (v := 2) hx hb dX7_convert_71 (by decide) ?_
          exact hJ25 2 self w36 _ _ _ (lv_sub hl [1, 2, 3, 4, 5, 6] rfl) hH hv38
        · have hv39 := hv37.2 hc
          refine lv_iconst (v := 0) hx hb dX7_convert_67 (by decide) ?_
          refine lv_goto (tgt := 72) hx hb dX7_convert_68 (by decide) ?_
          exact hJ25 0 self w36 _ _ _ (lv_sub hl [1, 2, 3, 4, 5, 6] rfl) hH hv39
    · have hv40 := hv27.2 hc
      refine lv_iconst (v := 1) hx hb dX7_convert_48 (by decide) ?_
      refine lv_goto (tgt := 72) hx hb dX7_convert_49 (by decide) ?_
      exact hJ25 1 self w_40 _ _ _ (lv_sub hl [1, 2, 3, 4, 5, 6] rfl) hH hv40
  clear hE5
  refine lv_if_eq (tgt := 39) hx hb dX7_convert_4 (by decide) (fun hc => ?_) (fun hc => ?_)
  · have hv10 := hv8.1 hc
    refine lv_iconst (v := 0) hx hb dX7_convert_39 (by decide) ?_
    exact hJ6 0 w2 _ _ _ (lv_sub hl [0, 1, 2, 3, 4, 5] rfl) hH hv10
  · have hv11 := hv8.2 hc
    refine lv_iload_n hx hb dX7_convert_7 rfl (lv_at hl 3 rfl) ?_
    refine cl_X7_57 hC hD hH hv11 ⟨Nat.le_of_ble_eq_true rfl, Nat.le_of_ble_eq_true rfl⟩ ⟨(Nat.le_of_ble_eq_true rfl), (Nat.le_of_ble_eq_true rfl)⟩ ⟨(Nat.le_of_ble_eq_true rfl), (Nat.le_of_ble_eq_true rfl)⟩ hl.1 (Nat.le_of_ble_eq_true rfl) dX7_convert_8 (fun r12 w13 H locs hH hv14 => ?_)
    refine lv_if_eq (tgt := 39) hx hb dX7_convert_11 (by decide) (fun hc => ?_) (fun hc => ?_)
    · have hv15 := hv14.1 hc
      refine lv_iconst (v := 0) hx hb dX7_convert_39 (by decide) ?_
      exact hJ6 0 w13 _ _ _ (lv_sub hl [0, 1, 2, 3, 4, 5] rfl) hH hv15
    · have hv16 := hv14.2 hc
      refine lv_iload hx hb dX7_convert_14 (lv_at hl 5 rfl) ?_
      refine lv_bipush (v := 110) hx hb dX7_convert_16 (by decide) ?_
      refine lv_icmp_eq (tgt := 35) hx hb dX7_convert_18 (by decide) (fun hc => ?_) (fun hc => ?_)
      · have hv17 := hv16.1 hc
        refine lv_iconst (v := 1) hx hb dX7_convert_35 (by decide) ?_
        refine lv_goto (tgt := 40) hx hb dX7_convert_36 (by decide) ?_
        exact hJ6 1 w13 _ _ _ (lv_sub hl [0, 1, 2, 3, 4, 5] rfl) hH hv17
      · have hv18 := hv16.2 hc
        refine lv_iload hx hb dX7_convert_21 (lv_at hl 5 rfl) ?_
        refine lv_bipush (v := 117) hx hb dX7_convert_23 (by decide) ?_
        refine lv_icmp_eq (tgt := 35) hx hb dX7_convert_25 (by decide) (fun hc => ?_) (fun hc => ?_)
        · have hv19 := hv18.1 hc
          refine lv_iconst (v := 1) hx hb dX7_convert_35 (by decide) ?_
          refine lv_goto (tgt := 40) hx hb dX7_convert_36 (by decide) ?_
          exact hJ6 1 w13 _ _ _ (lv_sub hl [0, 1, 2, 3, 4, 5] rfl) hH hv19
        · have hv20 := hv18.2 hc
          refine lv_iload hx hb dX7_convert_28 (lv_at hl 5 rfl) ?_
          refine lv_bipush (v := 116) hx hb dX7_convert_30 (by decide) ?_
          refine lv_icmp_ne (tgt := 39) hx hb dX7_convert_32 (by decide) (fun hc => ?_) (fun hc => ?_)
          · have hv21 := hv20.1 hc
            refine lv_iconst (v := 0) hx hb dX7_convert_39 (by decide) ?_
            exact hJ6 0 w13 _ _ _ (lv_sub hl [0, 1, 2, 3, 4, 5] rfl) hH hv21
          · have hv22 := hv20.2 hc
            refine lv_iconst (v := 1) hx hb dX7_convert_35 (by decide) ?_
            refine lv_goto (tgt := 40) hx hb dX7_convert_36 (by decide) ?_
            exact hJ6 1 w13 _ _ _ (lv_sub hl [0, 1, 2, 3, 4, 5] rfl) hH hv22
section SJL_X7_convert
variable {p : Program} {l : Launch} {e : Env} {R : Room} {s : State} {m : MethodId} {args : Array Value} {below : List Frame} {meth : Method} {c : Code} {H : Heap} {locs : List Loc} {cells slots : Nat} {Q : State → Prop} {cc : ByteArray} {pc : Nat} {ls : Array Slot} {rest : List Value} {G : sj_G} {nL : Nat} {w : sj_W}
theorem cg_L_178 {b : Nat} {b0 : Int32} {b1 : Int32} {b2 : Int32} {b3 : Int32} {b4 : Int32} {Qi : Int32 → sj_W → Prop} (hC : sj_C G p l s m args c cc RL nL) (hH : sj_H G s w H locs) (hv : vc_X7_convert b b0 b1 b2 b3 b4 w Qi) (hT : sj_T w b = 6) (hR : rm_X7_convert.frames + 1 ≤ R.frames ∧ 8 + (14 + 11) + rm_X7_convert.locals ≤ R.locals) (hf : cells + 1 ≤ R.cells ∧ slots + 32 ≤ R.slots) (hls : ls.size = nL) (hW : (rest.map fun v => v.category).sum ≤ 8) (hdg : decode cc pc = .ok (.invokevirtual 178, 3)) (kk : ∀ (r : Int32) (w1 : sj_W) (H : Heap) (locs : List Loc), sj_H G s w1 H locs → Qi r w1 → W p l e R s m args below meth c H locs (cells + 1) (slots + 32) Q (F0 m (pc + 3) ls (.int r :: rest))) : W p l e R s m args below meth c H locs cells slots Q (F0 m pc ls (.int b4 :: .int b3 :: .int b2 :: .int b1 :: .int b0 :: .ref b :: rest)) :=
  sj_xI hH (sj_runV (n := 5) hC hH (As := [.int b0, .int b1, .int b2, .int b3, .int b4]) (wk_X7_convert G l hC.2.2.2.2.2.2 b b0 b1 b2 b3 b4 w Qi (fun _ _ => False) hv) (ci := 5) rfl (by decide) hT mb_814 mb_815 mb_816 mb_5 mb_817 (by decide +kernel) hR hf rfl hls hW hdg) (fun _ _ _ _ _ _ _ h _ _ _ => h.elim) kk
end SJL_X7_convert
abbrev rm_X7_cut : Room := { frames := 2, cells := 0, slots := 0, locals := 45 }
def vb_X7_cut_58 (f0 : Nat) (f1 : Int32) (f2 : Int32) (f3 : Int32) (f4 : Int32) (Q : Int32 → sj_W → Prop) (E : sj_W → Prop) (K : Int32 → sj_W → Prop) (v5 : Int32) (w : sj_W) : Prop := ((f4 ≤ v5 → E w) ∧ (¬ f4 ≤ v5 → sj_T w f0 = 6 ∧ sj_A w 40 f0 ≠ 0 ∧ sj_T w f0 = 6 ∧ vc_X7_at f0 f1 f2 (v5 - f3) w (fun r33 w34 => sj_T w34 f0 = 6 ∧ sj_A w34 40 f0 ≠ 0 ∧ sj_T w34 f0 = 6 ∧ vc_X7_at f0 f1 f2 v5 w34 (fun r36 w37 => sj_T w37 (sj_A w34 40 f0) = 8 ∧ vp_in r36 (sj_N w37 (sj_A w34 40 f0)) ∧ sj_T w37 (sj_A w 40 f0) = 8 ∧ vp_in r33 (sj_N w37 (sj_A w 40 f0)) ∧ ∀ w39 : sj_W, w39 = sj_sl w37 (sj_A w 40 f0) r33.toNatClampNeg (sj_l w37 (sj_A w34 40 f0) r36.toNatClampNeg) → K (v5 + 1) w39))))
def vc_X7_cut (self : Nat) (a1 : Int32) (a2 : Int32) (a3 : Int32) (a4 : Int32) (w : sj_W) (Q : Int32 → sj_W → Prop) : Prop := vc_X7_isKind a1 w (fun r1 w2 => sj_jn2 (fun (E4 : Int32 → Nat → sj_W → Prop) => ((¬ r1 = 0 → vc_X7_isRow a2 w2 (fun r11 w12 => ((r11 = 0 → E4 2 self w12) ∧ (¬ r11 = 0 → vc_X7_in (a3.toInt64) 0 (a4.toInt64) w12 (fun r16 w17 => ((r16 = 0 → E4 2 self w17) ∧ (¬ r16 = 0 → sj_T w17 self = 6 ∧ vc_X7_size self a1 a2 w17 (fun r21 w22 => ((a4 ≤ r21 → E4 0 self w22) ∧ (¬ a4 ≤ r21 → E4 2 self w22)))))))))) ∧ (r1 = 0 → E4 1 self w2))) (fun (y0_47 : Int32) (y1_47 : Nat) (w_47 : sj_W) => sj_T w_47 y1_47 = 6 ∧ vc_X7_fails y1_47 y0_47 w_47 (fun r27 w28 => ((r27 = 0 → sj_lp1 (vb_X7_cut_58 self a1 a2 a3 a4 Q (fun w_58 => sj_T w_58 self = 6 ∧ vc_X7_resize self a1 a2 (a4 - a3) w_58 (fun w43 => Q (a4 - a3) w43))) 64 a3 w28) ∧ (¬ r27 = 0 → Q 0 w28)))))
set_option maxHeartbeats 4000000 in
set_option maxRecDepth 100000 in
theorem wl_X7_cut_58 {p : Program} {l : Launch} {e : Env} {s : State} {m : MethodId} {args : Array Value} {below : List Frame} {meth : Method} {c : Code} {G : sj_G} {f0 : Nat} {f1 : Int32} {f2 : Int32} {f3 : Int32} {f4 : Int32} {Q : Int32 → sj_W → Prop} {QX : String → sj_W → Prop} {E : sj_W → Prop} (hC : sj_C G p l s m args c cX7_cut RX7 6) (hD : sj_D meth c) (hr : meth.sig.returnType = (some .int)) (hin : meth.name = "cut") (hE : ∀ (w : sj_W) (H : Heap) (locs : List Loc) (ls : Array Slot), lv_has ls 6 [(0, .ref f0), (1, .int f1), (2, .int f2), (3, .int f3), (4, .int f4)] → sj_H G s w H locs → E w → W p l e rm_X7_cut s m args below meth c H locs 0 0 (sj_MQ G below (va_Qi Q (sj_B G) (sj_F G)) QX args s rm_X7_cut) (F0 m 99 ls [])) : ∀ (n : Nat) (v5 : Int32) (w : sj_W) (H : Heap) (locs : List Loc) (ls : Array Slot), lv_has ls 6 [(0, .ref f0), (1, .int f1), (2, .int f2), (3, .int f3), (4, .int f4), (5, .int v5)] → sj_H G s w H locs → sj_lp1 (vb_X7_cut_58 f0 f1 f2 f3 f4 Q E) n v5 w → W p l e rm_X7_cut s m args below meth c H locs 0 0 (sj_MQ G below (va_Qi Q (sj_B G) (sj_F G)) QX args s rm_X7_cut) (F0 m 58 ls []) := by
  have hx := hC.1
  have hb := hC.2.1
  intro n
  induction n with
  | zero =>
    intro v5 w H locs ls _ _ hv
    exact hv.elim
  | succ n ih =>
    intro v5 w H locs ls hl hH hv
    have hv : vb_X7_cut_58 f0 f1 f2 f3 f4 Q E (sj_lp1 (vb_X7_cut_58 f0 f1 f2 f3 f4 Q E) n) v5 w := hv
    have hc1 : rm_X7_cut.cells = 0 := rfl
    have hc2 : rm_X7_cut.slots = 0 := rfl
    refine lv_iload hx hb dX7_cut_58 (lv_at hl 5 rfl) ?_
    refine lv_iload hx hb dX7_cut_60 (lv_at hl 4 rfl) ?_
    refine lv_icmp_ge (tgt := 99) hx hb dX7_cut_62 (by decide) (fun hc => ?_) (fun hc => ?_)
    · have hv31 := hv.1 hc
      exact hE  w _ _ _ (lv_sub hl [0, 1, 2, 3, 4] rfl) hH hv31
    · have hv32 := hv.2 hc
      refine lv_aload_n hx hb dX7_cut_65 rfl (lv_at hl 0 rfl) ?_
      refine gf_X7_7 hC hH hv32.1 hv32.2.1 dX7_cut_66 ?_
      refine lv_aload_n hx hb dX7_cut_69 rfl (lv_at hl 0 rfl) ?_
      refine lv_iload_n hx hb dX7_cut_70 rfl (lv_at hl 1 rfl) ?_
      refine lv_iload_n hx hb dX7_cut_71 rfl (lv_at hl 2 rfl) ?_
      refine lv_iload hx hb dX7_cut_72 (lv_at hl 5 rfl) ?_
      refine lv_iload_n hx hb dX7_cut_74 rfl (lv_at hl 3 rfl) ?_
      refine lv_isub hx hb dX7_cut_75 ?_
      refine cl_X7_76 hC hD hH hv32.2.2.2 hv32.2.2.1 ⟨Nat.le_of_ble_eq_true rfl, Nat.le_of_ble_eq_true rfl⟩ ⟨(Nat.le_of_ble_eq_true rfl), (Nat.le_of_ble_eq_true rfl)⟩ ⟨(Nat.le_of_ble_eq_true rfl), (Nat.le_of_ble_eq_true rfl)⟩ hl.1 (Nat.le_of_ble_eq_true rfl) dX7_cut_76 (fun r33 w34 H locs hH hv35 => ?_)
      refine lv_aload_n hx hb dX7_cut_79 rfl (lv_at hl 0 rfl) ?_
      refine gf_X7_7 hC hH hv35.1 hv35.2.1 dX7_cut_80 ?_
      refine lv_aload_n hx hb dX7_cut_83 rfl (lv_at hl 0 rfl) ?_
      refine lv_iload_n hx hb dX7_cut_84 rfl (lv_at hl 1 rfl) ?_
      refine lv_iload_n hx hb dX7_cut_85 rfl (lv_at hl 2 rfl) ?_
      refine lv_iload hx hb dX7_cut_86 (lv_at hl 5 rfl) ?_
      refine cl_X7_76 hC hD hH hv35.2.2.2 hv35.2.2.1 ⟨Nat.le_of_ble_eq_true rfl, Nat.le_of_ble_eq_true rfl⟩ ⟨(Nat.le_of_ble_eq_true rfl), (Nat.le_of_ble_eq_true rfl)⟩ ⟨(Nat.le_of_ble_eq_true rfl), (Nat.le_of_ble_eq_true rfl)⟩ hl.1 (Nat.le_of_ble_eq_true rfl) dX7_cut_88 (fun r36 w37 H locs hH hv38 => ?_)
      refine sj_lald hC hH hv38.1 hv38.2.1 dX7_cut_91 ?_
      refine sj_last hC hH hv38.2.2.1 hv38.2.2.2.1 dX7_cut_92 (fun w39 H locs e40 hH => ?_)
      refine lv_iinc (v := (v5 + 1)) (lv' := [(5, .int (v5 + 1)), (0, .ref f0), (1, .int f1), (2, .int f2), (3, .int f3), (4, .int f4)]) hx hb dX7_cut_93 hl (k := 5) rfl rfl (by decide) rfl (fun ls hl => ?_)
      refine lv_goto (tgt := 58) hx hb dX7_cut_96 (by decide) ?_
      exact ih (v5 + 1) w39 _ _ _ (lv_sub hl [1, 2, 3, 4, 5, 0] rfl) hH (hv38.2.2.2.2 w39 e40)
set_option maxHeartbeats 4000000 in
set_option maxRecDepth 100000 in
theorem wk_X7_cut (G : sj_G) (l : Launch) (hlt : l.stackTraces = false) (self : Nat) (a1 : Int32) (a2 : Int32) (a3 : Int32) (a4 : Int32) (w : sj_W) (Q : Int32 → sj_W → Prop) (QX : String → sj_W → Prop) (hv : vc_X7_cut self a1 a2 a3 a4 w Q) : sj_MI G l yX7_cut (sj_ws yX7_cut cX7_cut 6 (some .int)) rm_X7_cut [.ref self, .int a1, .int a2, .int a3, .int a4] w Q QX := by
  refine sj_of (by decide +kernel) (Nat.le_of_ble_eq_true rfl) hlt ?_
  intro p e s m args below meth c ls hC hD hr hin hH hl
  have hx := hC.1
  have hb := hC.2.1
  have hl : lv_has ls 6 [(0, .ref self), (1, .int a1), (2, .int a2), (3, .int a3), (4, .int a4)] := hl
  refine lv_aload_n hx hb dX7_cut_0 rfl (lv_at hl 0 rfl) ?_
  refine lv_iload_n hx hb dX7_cut_1 rfl (lv_at hl 1 rfl) ?_
  refine cl_X7_57 hC hD hH hv ⟨Nat.le_of_ble_eq_true rfl, Nat.le_of_ble_eq_true rfl⟩ ⟨(Nat.le_of_ble_eq_true rfl), (Nat.le_of_ble_eq_true rfl)⟩ ⟨(Nat.le_of_ble_eq_true rfl), (Nat.le_of_ble_eq_true rfl)⟩ hl.1 (Nat.le_of_ble_eq_true rfl) dX7_cut_2 (fun r1 w2 H locs hH hv3 => ?_)
  obtain ⟨E4, hE5, hv8⟩ := sj_jn2_e hv3
  have hJ6 : ∀ (y0_47 : Int32) (y1_47 : Nat) (w_47 : sj_W) (H : Heap) (locs : List Loc) (ls : Array Slot), lv_has ls 6 [(0, .ref self), (1, .int a1), (2, .int a2), (3, .int a3), (4, .int a4)] → sj_H G s w_47 H locs → E4 y0_47 y1_47 w_47 → W p l e rm_X7_cut s m args below meth c H locs 0 0 (sj_MQ G below (va_Qi Q (sj_B G) (sj_F G)) QX args s rm_X7_cut) (F0 m 47 ls [.int y0_47, .ref y1_47]) := by
    intro y0_47 y1_47 w_47 H locs ls hl hH hv9
    rw [hE5] at hv9
    refine cl_X7_73 hC hD hH hv9.2 hv9.1 ⟨Nat.le_of_ble_eq_true rfl, Nat.le_of_ble_eq_true rfl⟩ ⟨(Nat.le_of_ble_eq_true rfl), (Nat.le_of_ble_eq_true rfl)⟩ ⟨(Nat.le_of_ble_eq_true rfl), (Nat.le_of_ble_eq_true rfl)⟩ hl.1 (Nat.le_of_ble_eq_true rfl) dX7_cut_47 (fun r27 w28 H locs hH hv29 => ?_)
    refine lv_if_eq (tgt := 55) hx hb dX7_cut_50 (by decide) (fun hc => ?_) (fun hc => ?_)
    · have hv30 := hv29.1 hc
      refine lv_iload_n hx hb dX7_cut_55 rfl (lv_at hl 3 rfl) ?_
      refine lv_istore (lv' := [(5, .int a3), (0, .ref self), (1, .int a1), (2, .int a2), (3, .int a3), (4, .int a4)]) hx hb dX7_cut_56 hl (by decide) rfl (fun ls hl => ?_)
      refine wl_X7_cut_58 hC hD hr hin (fun w_58 H locs ls hl hH hv41 => ?_) 64 a3 w28 _ _ _ (lv_sub hl [1, 2, 3, 4, 5, 0] rfl) hH hv30
      refine lv_aload_n hx hb dX7_cut_99 rfl (lv_at hl 0 rfl) ?_
      refine lv_iload_n hx hb dX7_cut_100 rfl (lv_at hl 1 rfl) ?_
      refine lv_iload_n hx hb dX7_cut_101 rfl (lv_at hl 2 rfl) ?_
      refine lv_iload hx hb dX7_cut_102 (lv_at hl 4 rfl) ?_
      refine lv_iload_n hx hb dX7_cut_104 rfl (lv_at hl 3 rfl) ?_
      refine lv_isub hx hb dX7_cut_105 ?_
      refine cl_X7_80 hC hD hH hv41.2 hv41.1 ⟨Nat.le_of_ble_eq_true rfl, Nat.le_of_ble_eq_true rfl⟩ ⟨(Nat.le_of_ble_eq_true rfl), (Nat.le_of_ble_eq_true rfl)⟩ ⟨(Nat.le_of_ble_eq_true rfl), (Nat.le_of_ble_eq_true rfl)⟩ hl.1 (Nat.le_of_ble_eq_true rfl) dX7_cut_106 (fun w43 H locs hH hv44 => ?_)
      refine lv_iload hx hb dX7_cut_109 (lv_at hl 4 rfl) ?_
      refine lv_iload_n hx hb dX7_cut_111 rfl (lv_at hl 3 rfl) ?_
      refine lv_isub hx hb dX7_cut_112 ?_
      exact sj_retI hC hD.2 hH hr rfl hv44 ⟨(Nat.le_of_ble_eq_true rfl), (Nat.le_of_ble_eq_true rfl)⟩ dX7_cut_113
    · have hv45 := hv29.2 hc
      refine lv_iconst (v := 0) hx hb dX7_cut_53 (by decide) ?_
      exact sj_retI hC hD.2 hH hr rfl hv45 ⟨(Nat.le_of_ble_eq_true rfl), (Nat.le_of_ble_eq_true rfl)⟩ dX7_cut_54
  clear hE5
  refine lv_if_ne (tgt := 12) hx hb dX7_cut_5 (by decide) (fun hc => ?_) (fun hc => ?_)
  · have hv10 := hv8.1 hc
    refine lv_iload_n hx hb dX7_cut_12 rfl (lv_at hl 2 rfl) ?_
    refine cl_X7_61 hC hD hH hv10 ⟨Nat.le_of_ble_eq_true rfl, Nat.le_of_ble_eq_true rfl⟩ ⟨(Nat.le_of_ble_eq_true rfl), (Nat.le_of_ble_eq_true rfl)⟩ ⟨(Nat.le_of_ble_eq_true rfl), (Nat.le_of_ble_eq_true rfl)⟩ hl.1 (Nat.le_of_ble_eq_true rfl) dX7_cut_13 (fun r11 w12 H locs hH hv13 => ?_)
    refine lv_if_eq (tgt := 42) hx hb dX7_cut_16 (by decide) (fun hc => ?_) (fun hc => ?_)
    · have hv14 := hv13.1 hc
      refine lv_iconst (v := 2) hx hb dX7_cut_42 (by decide) ?_
      refine lv_goto (tgt := 47) hx hb dX7_cut_43 (by decide) ?_
      exact hJ6 2 self w12 _ _ _ (lv_sub hl [0, 1, 2, 3, 4] rfl) hH hv14
    · have hv15 := hv13.2 hc
      refine lv_iload_n hx hb dX7_cut_19 rfl (lv_at hl 3 rfl) ?_
      refine lv_i2l hx hb dX7_cut_20 rfl ?_
      refine lv_lconst (v := 0) hx hb dX7_cut_21 (by decide) ?_
      refine lv_iload hx hb dX7_cut_22 (lv_at hl 4 rfl) ?_
      refine lv_i2l hx hb dX7_cut_24 rfl ?_
      refine cl_X7_39 hC hD hH hv15 ⟨Nat.le_of_ble_eq_true rfl, Nat.le_of_ble_eq_true rfl⟩ ⟨(Nat.le_of_ble_eq_true rfl), (Nat.le_of_ble_eq_true rfl)⟩ ⟨(Nat.le_of_ble_eq_true rfl), (Nat.le_of_ble_eq_true rfl)⟩ hl.1 (Nat.le_of_ble_eq_true rfl) dX7_cut_25 (fun r16 w17 H locs hH hv18 => ?_)
      refine lv_if_eq (tgt := 42) hx hb dX7_cut_28 (by decide) (fun hc => ?_) (fun hc => ?_)
      · have hv19 := hv18.1 hc
        refine lv_iconst (v := 2) hx hb dX7_cut_42 (by decide) ?_
        refine lv_goto (tgt := 47) hx hb dX7_cut_43 (by decide) ?_
        exact hJ6 2 self w17 _ _ _ (lv_sub hl [0, 1, 2, 3, 4] rfl) hH hv19
      · have hv20 := hv18.2 hc
        refine lv_iload hx hb dX7_cut_31 (lv_at hl 4 rfl) ?_
        refine lv_aload_n hx hb dX7_cut_33 rfl (lv_at hl 0 rfl) ?_
        refine lv_iload_n hx hb dX7_cut_34 rfl (lv_at hl 1 rfl) ?_
        refine lv_iload_n hx hb dX7_cut_35 rfl (lv_at hl 2 rfl) ?_
        refine cl_X7_69 hC hD hH hv20.2 hv20.1 ⟨Nat.le_of_ble_eq_true rfl, Nat.le_of_ble_eq_true rfl⟩ ⟨(Nat.le_of_ble_eq_true rfl), (Nat.le_of_ble_eq_true rfl)⟩ ⟨(Nat.le_of_ble_eq_true rfl), (Nat.le_of_ble_eq_true rfl)⟩ hl.1 (Nat.le_of_ble_eq_true rfl) dX7_cut_36 (fun r21 w22 H locs hH hv23 => ?_)
        refine lv_icmp_le (tgt := 46) hx hb dX7_cut_39 (by decide) (fun hc => ?_) (fun hc => ?_)
        · have hv24 := hv23.1 hc
          refine lv_iconst (v := 0) hx hb dX7_cut_46 (by decide) ?_
          exact hJ6 0 self w22 _ _ _ (lv_sub hl [0, 1, 2, 3, 4] rfl) hH hv24
        · have hv25 := hv23.2 hc
          refine lv_iconst (v := 2) hx hb dX7_cut_42 (by decide) ?_
          refine lv_goto (tgt := 47) hx hb dX7_cut_43 (by decide) ?_
          exact hJ6 2 self w22 _ _ _ (lv_sub hl [0, 1, 2, 3, 4] rfl) hH hv25
  · have hv26 := hv8.2 hc
    refine lv_iconst (v := 1) hx hb dX7_cut_8 (by decide) ?_
    refine lv_goto (tgt := 47) hx hb dX7_cut_9 (by decide) ?_
    exact hJ6 1 self w2 _ _ _ (lv_sub hl [0, 1, 2, 3, 4] rfl) hH hv26
section SJL_X7_cut
variable {p : Program} {l : Launch} {e : Env} {R : Room} {s : State} {m : MethodId} {args : Array Value} {below : List Frame} {meth : Method} {c : Code} {H : Heap} {locs : List Loc} {cells slots : Nat} {Q : State → Prop} {cc : ByteArray} {pc : Nat} {ls : Array Slot} {rest : List Value} {G : sj_G} {nL : Nat} {w : sj_W}
theorem cg_L_174 {b : Nat} {b0 : Int32} {b1 : Int32} {b2 : Int32} {b3 : Int32} {Qi : Int32 → sj_W → Prop} (hC : sj_C G p l s m args c cc RL nL) (hH : sj_H G s w H locs) (hv : vc_X7_cut b b0 b1 b2 b3 w Qi) (hT : sj_T w b = 6) (hR : rm_X7_cut.frames + 1 ≤ R.frames ∧ 8 + (6 + 11) + rm_X7_cut.locals ≤ R.locals) (hf : cells + 0 ≤ R.cells ∧ slots + 0 ≤ R.slots) (hls : ls.size = nL) (hW : (rest.map fun v => v.category).sum ≤ 8) (hdg : decode cc pc = .ok (.invokevirtual 174, 3)) (kk : ∀ (r : Int32) (w1 : sj_W) (H : Heap) (locs : List Loc), sj_H G s w1 H locs → Qi r w1 → W p l e R s m args below meth c H locs (cells + 0) (slots + 0) Q (F0 m (pc + 3) ls (.int r :: rest))) : W p l e R s m args below meth c H locs cells slots Q (F0 m pc ls (.int b3 :: .int b2 :: .int b1 :: .int b0 :: .ref b :: rest)) :=
  sj_xI hH (sj_runV (n := 4) hC hH (As := [.int b0, .int b1, .int b2, .int b3]) (wk_X7_cut G l hC.2.2.2.2.2.2 b b0 b1 b2 b3 w Qi (fun _ _ => False) hv) (ci := 5) rfl (by decide) hT mb_810 mb_811 mb_812 mb_5 mb_813 (by decide +kernel) hR hf rfl hls hW hdg) (fun _ _ _ _ _ _ _ h _ _ _ => h.elim) kk
end SJL_X7_cut
abbrev rm_X7_distinct : Room := { frames := 3, cells := 0, slots := 0, locals := 71 }
def vb_X7_distinct_40 (f0 : Nat) (f1 : Int32) (f2 : Int32) (f3 : Int32) (f4 : Int32) (f5 : Int32) (Q : Int32 → sj_W → Prop) (E : Int32 → sj_W → Prop) (K : Int32 → Int32 → sj_W → Prop) (v6 : Int32) (v7 : Int32) (w : sj_W) : Prop := ((f5 ≤ v7 → E v6 w) ∧ (¬ f5 ≤ v7 → sj_T w f0 = 6 ∧ vc_X7_alike f0 f1 f2 v7 (f3 - v7) f2 f5 (f3 - f5) w (fun r15 w16 => ((r15 ≤ v6 → K v6 (v7 + 1) w16) ∧ (¬ r15 ≤ v6 → K r15 (v7 + 1) w16)))))
def vb_X7_distinct_28 (f0 : Nat) (f1 : Int32) (f2 : Int32) (f3 : Int32) (Q : Int32 → sj_W → Prop) (E : Int32 → sj_W → Prop) (K : Int32 → Int32 → sj_W → Prop) (v4 : Int32) (v5 : Int32) (w : sj_W) : Prop := ((f3 ≤ v5 → E v4 w) ∧ (¬ f3 ≤ v5 → sj_lp2 (vb_X7_distinct_40 f0 f1 f2 f3 v4 v5 Q (fun z6_40 w_40 => K (v4 + ((f3 - v5) - z6_40)) (v5 + 1) w_40)) 64 0 0 w))
def vc_X7_distinct (self : Nat) (a1 : Int32) (a2 : Int32) (w : sj_W) (Q : Int32 → sj_W → Prop) : Prop := sj_T w self = 6 ∧ vc_X7_noRow self a1 a2 w (fun r1 w2 => sj_T w2 self = 6 ∧ vc_X7_fails self r1 w2 (fun r4 w5 => ((r4 = 0 → sj_T w5 self = 6 ∧ vc_X7_size self a1 a2 w5 (fun r8 w9 => sj_lp2 (vb_X7_distinct_28 self a1 a2 r8 Q (fun z4_28 w_28 => Q z4_28 w_28)) 64 0 0 w9)) ∧ (¬ r4 = 0 → Q 0 w5))))
set_option maxHeartbeats 4000000 in
set_option maxRecDepth 100000 in
theorem wl_X7_distinct_40 {p : Program} {l : Launch} {e : Env} {s : State} {m : MethodId} {args : Array Value} {below : List Frame} {meth : Method} {c : Code} {G : sj_G} {f0 : Nat} {f1 : Int32} {f2 : Int32} {f3 : Int32} {f4 : Int32} {f5 : Int32} {Q : Int32 → sj_W → Prop} {QX : String → sj_W → Prop} {E : Int32 → sj_W → Prop} (hC : sj_C G p l s m args c cX7_distinct RX7 9) (hD : sj_D meth c) (hr : meth.sig.returnType = (some .int)) (hin : meth.name = "distinct") (hE : ∀ (v6 : Int32) (w : sj_W) (H : Heap) (locs : List Loc) (ls : Array Slot), lv_has ls 9 [(0, .ref f0), (1, .int f1), (2, .int f2), (3, .int f3), (4, .int f4), (5, .int f5), (6, .int v6)] → sj_H G s w H locs → E v6 w → W p l e rm_X7_distinct s m args below meth c H locs 0 0 (sj_MQ G below (va_Qi Q (sj_B G) (sj_F G)) QX args s rm_X7_distinct) (F0 m 90 ls [])) : ∀ (n : Nat) (v6 : Int32) (v7 : Int32) (w : sj_W) (H : Heap) (locs : List Loc) (ls : Array Slot), lv_has ls 9 [(0, .ref f0), (1, .int f1), (2, .int f2), (3, .int f3), (4, .int f4), (5, .int f5), (6, .int v6), (7, .int v7)] → sj_H G s w H locs → sj_lp2 (vb_X7_distinct_40 f0 f1 f2 f3 f4 f5 Q E) n v6 v7 w → W p l e rm_X7_distinct s m args below meth c H locs 0 0 (sj_MQ G below (va_Qi Q (sj_B G) (sj_F G)) QX args s rm_X7_distinct) (F0 m 40 ls []) := by
  have hx := hC.1
  have hb := hC.2.1
  intro n
  induction n with
  | zero =>
    intro v6 v7 w H locs ls _ _ hv
    exact hv.elim
  | succ n ih =>
    intro v6 v7 w H locs ls hl hH hv
    have hv : vb_X7_distinct_40 f0 f1 f2 f3 f4 f5 Q E (sj_lp2 (vb_X7_distinct_40 f0 f1 f2 f3 f4 f5 Q E) n) v6 v7 w := hv
    have hc1 : rm_X7_distinct.cells = 0 := rfl
    have hc2 : rm_X7_distinct.slots = 0 := rfl
    refine lv_iload hx hb dX7_distinct_40 (lv_at hl 7 rfl) ?_
    refine lv_iload hx hb dX7_distinct_42 (lv_at hl 5 rfl) ?_
    refine lv_icmp_ge (tgt := 90) hx hb dX7_distinct_44 (by decide) (fun hc => ?_) (fun hc => ?_)
    · have hv13 := hv.1 hc
      exact hE v6 w _ _ _ (lv_sub hl [0, 1, 2, 3, 4, 5, 6] rfl) hH hv13
    · have hv14 := hv.2 hc
      refine lv_aload_n hx hb dX7_distinct_47 rfl (lv_at hl 0 rfl) ?_
      refine lv_iload_n hx hb dX7_distinct_48 rfl (lv_at hl 1 rfl) ?_
      refine lv_iload_n hx hb dX7_distinct_49 rfl (lv_at hl 2 rfl) ?_
      refine lv_iload hx hb dX7_distinct_50 (lv_at hl 7 rfl) ?_
      refine lv_iload_n hx hb dX7_distinct_52 rfl (lv_at hl 3 rfl) ?_
      refine lv_iload hx hb dX7_distinct_53 (lv_at hl 7 rfl) ?_
      refine lv_isub hx hb dX7_distinct_55 ?_
      refine lv_iload_n hx hb dX7_distinct_56 rfl (lv_at hl 2 rfl) ?_
      refine lv_iload hx hb dX7_distinct_57 (lv_at hl 5 rfl) ?_
      refine lv_iload_n hx hb dX7_distinct_59 rfl (lv_at hl 3 rfl) ?_
      refine lv_iload hx hb dX7_distinct_60 (lv_at hl 5 rfl) ?_
      refine lv_isub hx hb dX7_distinct_62 ?_
      refine cl_X7_114 hC hD hH hv14.2 hv14.1 ⟨Nat.le_of_ble_eq_true rfl, Nat.le_of_ble_eq_true rfl⟩ ⟨(Nat.le_of_ble_eq_true rfl), (Nat.le_of_ble_eq_true rfl)⟩ ⟨(Nat.le_of_ble_eq_true rfl), (Nat.le_of_ble_eq_true rfl)⟩ hl.1 (Nat.le_of_ble_eq_true rfl) dX7_distinct_63 (fun r15 w16 H locs hH hv17 => ?_)
      refine lv_istore (lv' := [(8, .int r15), (0, .ref f0), (1, .int f1), (2, .int f2), (3, .int f3), (4, .int f4), (5, .int f5), (6, .int v6), (7, .int v7)]) hx hb dX7_distinct_66 hl (by decide) rfl (fun ls hl => ?_)
      refine lv_iload hx hb dX7_distinct_68 (lv_at hl 0 rfl) ?_
      refine lv_iload hx hb dX7_distinct_70 (lv_at hl 7 rfl) ?_
      refine lv_icmp_le (tgt := 80) hx hb dX7_distinct_72 (by decide) (fun hc => ?_) (fun hc => ?_)
      · have hv18 := hv17.1 hc
        refine lv_iload hx hb dX7_distinct_80 (lv_at hl 7 rfl) ?_
        refine lv_istore (lv' := [(6, .int v6), (8, .int r15), (0, .ref f0), (1, .int f1), (2, .int f2), (3, .int f3), (4, .int f4), (5, .int f5), (7, .int v7)]) hx hb dX7_distinct_82 hl (by decide) rfl (fun ls hl => ?_)
        refine lv_iinc (v := (v7 + 1)) (lv' := [(7, .int (v7 + 1)), (6, .int v6), (8, .int r15), (0, .ref f0), (1, .int f1), (2, .int f2), (3, .int f3), (4, .int f4), (5, .int f5)]) hx hb dX7_distinct_84 hl (k := 8) rfl rfl (by decide) rfl (fun ls hl => ?_)
        refine lv_goto (tgt := 40) hx hb dX7_distinct_87 (by decide) ?_
        exact ih v6 (v7 + 1) w16 _ _ _ (lv_sub hl [3, 4, 5, 6, 7, 8, 1, 0] rfl) hH hv18
      · have hv19 := hv17.2 hc
        refine lv_iload hx hb dX7_distinct_75 (lv_at hl 0 rfl) ?_
        refine lv_goto (tgt := 82) hx hb dX7_distinct_77 (by decide) ?_
        refine lv_istore (lv' := [(6, .int r15), (8, .int r15), (0, .ref f0), (1, .int f1), (2, .int f2), (3, .int f3), (4, .int f4), (5, .int f5), (7, .int v7)]) hx hb dX7_distinct_82 hl (by decide) rfl (fun ls hl => ?_)
        refine lv_iinc (v := (v7 + 1)) (lv' := [(7, .int (v7 + 1)), (6, .int r15), (8, .int r15), (0, .ref f0), (1, .int f1), (2, .int f2), (3, .int f3), (4, .int f4), (5, .int f5)]) hx hb dX7_distinct_84 hl (k := 8) rfl rfl (by decide) rfl (fun ls hl => ?_)
        refine lv_goto (tgt := 40) hx hb dX7_distinct_87 (by decide) ?_
        exact ih r15 (v7 + 1) w16 _ _ _ (lv_sub hl [3, 4, 5, 6, 7, 8, 1, 0] rfl) hH hv19
set_option maxHeartbeats 4000000 in
set_option maxRecDepth 100000 in
theorem wl_X7_distinct_28 {p : Program} {l : Launch} {e : Env} {s : State} {m : MethodId} {args : Array Value} {below : List Frame} {meth : Method} {c : Code} {G : sj_G} {f0 : Nat} {f1 : Int32} {f2 : Int32} {f3 : Int32} {Q : Int32 → sj_W → Prop} {QX : String → sj_W → Prop} {E : Int32 → sj_W → Prop} (hC : sj_C G p l s m args c cX7_distinct RX7 9) (hD : sj_D meth c) (hr : meth.sig.returnType = (some .int)) (hin : meth.name = "distinct") (hE : ∀ (v4 : Int32) (w : sj_W) (H : Heap) (locs : List Loc) (ls : Array Slot), lv_has ls 9 [(4, .int v4)] → sj_H G s w H locs → E v4 w → W p l e rm_X7_distinct s m args below meth c H locs 0 0 (sj_MQ G below (va_Qi Q (sj_B G) (sj_F G)) QX args s rm_X7_distinct) (F0 m 108 ls [])) : ∀ (n : Nat) (v4 : Int32) (v5 : Int32) (w : sj_W) (H : Heap) (locs : List Loc) (ls : Array Slot), lv_has ls 9 [(0, .ref f0), (1, .int f1), (2, .int f2), (3, .int f3), (4, .int v4), (5, .int v5)] → sj_H G s w H locs → sj_lp2 (vb_X7_distinct_28 f0 f1 f2 f3 Q E) n v4 v5 w → W p l e rm_X7_distinct s m args below meth c H locs 0 0 (sj_MQ G below (va_Qi Q (sj_B G) (sj_F G)) QX args s rm_X7_distinct) (F0 m 28 ls []) := by
  have hx := hC.1
  have hb := hC.2.1
  intro n
  induction n with
  | zero =>
    intro v4 v5 w H locs ls _ _ hv
    exact hv.elim
  | succ n ih =>
    intro v4 v5 w H locs ls hl hH hv
    have hv : vb_X7_distinct_28 f0 f1 f2 f3 Q E (sj_lp2 (vb_X7_distinct_28 f0 f1 f2 f3 Q E) n) v4 v5 w := hv
    have hc1 : rm_X7_distinct.cells = 0 := rfl
    have hc2 : rm_X7_distinct.slots = 0 := rfl
    refine lv_iload hx hb dX7_distinct_28 (lv_at hl 5 rfl) ?_
    refine lv_iload_n hx hb dX7_distinct_30 rfl (lv_at hl 3 rfl) ?_
    refine lv_icmp_ge (tgt := 108) hx hb dX7_distinct_31 (by decide) (fun hc => ?_) (fun hc => ?_)
    · have hv11 := hv.1 hc
      exact hE v4 w _ _ _ (lv_sub hl [4] rfl) hH hv11
    · have hv12 := hv.2 hc
      refine lv_iconst (v := 0) hx hb dX7_distinct_34 (by decide) ?_
      refine lv_istore (lv' := [(6, .int 0), (0, .ref f0), (1, .int f1), (2, .int f2), (3, .int f3), (4, .int v4), (5, .int v5)]) hx hb dX7_distinct_35 hl (by decide) rfl (fun ls hl => ?_)
      refine lv_iconst (v := 0) hx hb dX7_distinct_37 (by decide) ?_
      refine lv_istore (lv' := [(7, .int 0), (6, .int 0), (0, .ref f0), (1, .int f1), (2, .int f2), (3, .int f3), (4, .int v4), (5, .int v5)]) hx hb dX7_distinct_38 hl (by decide) rfl (fun ls hl => ?_)
      refine wl_X7_distinct_40 hC hD hr hin (fun z6_40 w_40 H locs ls hl hH hv20 => ?_) 64 0 0 w _ _ _ (lv_sub hl [2, 3, 4, 5, 6, 7, 1, 0] rfl) hH hv12
      refine lv_iload hx hb dX7_distinct_90 (lv_at hl 4 rfl) ?_
      refine lv_iload_n hx hb dX7_distinct_92 rfl (lv_at hl 3 rfl) ?_
      refine lv_iload hx hb dX7_distinct_93 (lv_at hl 5 rfl) ?_
      refine lv_isub hx hb dX7_distinct_95 ?_
      refine lv_iload hx hb dX7_distinct_96 (lv_at hl 6 rfl) ?_
      refine lv_isub hx hb dX7_distinct_98 ?_
      refine lv_iadd hx hb dX7_distinct_99 ?_
      refine lv_istore (lv' := [(4, .int (v4 + ((f3 - v5) - z6_40))), (0, .ref f0), (1, .int f1), (2, .int f2), (3, .int f3), (5, .int v5), (6, .int z6_40)]) hx hb dX7_distinct_100 hl (by decide) rfl (fun ls hl => ?_)
      refine lv_iinc (v := (v5 + 1)) (lv' := [(5, .int (v5 + 1)), (4, .int (v4 + ((f3 - v5) - z6_40))), (0, .ref f0), (1, .int f1), (2, .int f2), (3, .int f3), (6, .int z6_40)]) hx hb dX7_distinct_102 hl (k := 5) rfl rfl (by decide) rfl (fun ls hl => ?_)
      refine lv_goto (tgt := 28) hx hb dX7_distinct_105 (by decide) ?_
      exact ih (v4 + ((f3 - v5) - z6_40)) (v5 + 1) w_40 _ _ _ (lv_sub hl [2, 3, 4, 5, 1, 0] rfl) hH hv20
set_option maxHeartbeats 4000000 in
set_option maxRecDepth 100000 in
theorem wk_X7_distinct (G : sj_G) (l : Launch) (hlt : l.stackTraces = false) (self : Nat) (a1 : Int32) (a2 : Int32) (w : sj_W) (Q : Int32 → sj_W → Prop) (QX : String → sj_W → Prop) (hv : vc_X7_distinct self a1 a2 w Q) : sj_MI G l yX7_distinct (sj_ws yX7_distinct cX7_distinct 9 (some .int)) rm_X7_distinct [.ref self, .int a1, .int a2] w Q QX := by
  refine sj_of (by decide +kernel) (Nat.le_of_ble_eq_true rfl) hlt ?_
  intro p e s m args below meth c ls hC hD hr hin hH hl
  have hx := hC.1
  have hb := hC.2.1
  have hl : lv_has ls 9 [(0, .ref self), (1, .int a1), (2, .int a2)] := hl
  refine lv_aload_n hx hb dX7_distinct_0 rfl (lv_at hl 0 rfl) ?_
  refine lv_aload_n hx hb dX7_distinct_1 rfl (lv_at hl 0 rfl) ?_
  refine lv_iload_n hx hb dX7_distinct_2 rfl (lv_at hl 1 rfl) ?_
  refine lv_iload_n hx hb dX7_distinct_3 rfl (lv_at hl 2 rfl) ?_
  refine cl_X7_84 hC hD hH hv.2 hv.1 ⟨Nat.le_of_ble_eq_true rfl, Nat.le_of_ble_eq_true rfl⟩ ⟨(Nat.le_of_ble_eq_true rfl), (Nat.le_of_ble_eq_true rfl)⟩ ⟨(Nat.le_of_ble_eq_true rfl), (Nat.le_of_ble_eq_true rfl)⟩ hl.1 (Nat.le_of_ble_eq_true rfl) dX7_distinct_4 (fun r1 w2 H locs hH hv3 => ?_)
  refine cl_X7_73 hC hD hH hv3.2 hv3.1 ⟨Nat.le_of_ble_eq_true rfl, Nat.le_of_ble_eq_true rfl⟩ ⟨(Nat.le_of_ble_eq_true rfl), (Nat.le_of_ble_eq_true rfl)⟩ ⟨(Nat.le_of_ble_eq_true rfl), (Nat.le_of_ble_eq_true rfl)⟩ hl.1 (Nat.le_of_ble_eq_true rfl) dX7_distinct_7 (fun r4 w5 H locs hH hv6 => ?_)
  refine lv_if_eq (tgt := 15) hx hb dX7_distinct_10 (by decide) (fun hc => ?_) (fun hc => ?_)
  · have hv7 := hv6.1 hc
    refine lv_aload_n hx hb dX7_distinct_15 rfl (lv_at hl 0 rfl) ?_
    refine lv_iload_n hx hb dX7_distinct_16 rfl (lv_at hl 1 rfl) ?_
    refine lv_iload_n hx hb dX7_distinct_17 rfl (lv_at hl 2 rfl) ?_
    refine cl_X7_69 hC hD hH hv7.2 hv7.1 ⟨Nat.le_of_ble_eq_true rfl, Nat.le_of_ble_eq_true rfl⟩ ⟨(Nat.le_of_ble_eq_true rfl), (Nat.le_of_ble_eq_true rfl)⟩ ⟨(Nat.le_of_ble_eq_true rfl), (Nat.le_of_ble_eq_true rfl)⟩ hl.1 (Nat.le_of_ble_eq_true rfl) dX7_distinct_18 (fun r8 w9 H locs hH hv10 => ?_)
    refine lv_istore_n (lv' := [(3, .int r8), (0, .ref self), (1, .int a1), (2, .int a2)]) hx hb dX7_distinct_21 rfl hl (by decide) rfl (fun ls hl => ?_)
    refine lv_iconst (v := 0) hx hb dX7_distinct_22 (by decide) ?_
    refine lv_istore (lv' := [(4, .int 0), (3, .int r8), (0, .ref self), (1, .int a1), (2, .int a2)]) hx hb dX7_distinct_23 hl (by decide) rfl (fun ls hl => ?_)
    refine lv_iconst (v := 0) hx hb dX7_distinct_25 (by decide) ?_
    refine lv_istore (lv' := [(5, .int 0), (4, .int 0), (3, .int r8), (0, .ref self), (1, .int a1), (2, .int a2)]) hx hb dX7_distinct_26 hl (by decide) rfl (fun ls hl => ?_)
    refine wl_X7_distinct_28 hC hD hr hin (fun z4_28 w_28 H locs ls hl hH hv21 => ?_) 64 0 0 w9 _ _ _ (lv_sub hl [3, 4, 5, 2, 1, 0] rfl) hH hv10
    refine lv_iload hx hb dX7_distinct_108 (lv_at hl 0 rfl) ?_
    exact sj_retI hC hD.2 hH hr rfl hv21 ⟨(Nat.le_of_ble_eq_true rfl), (Nat.le_of_ble_eq_true rfl)⟩ dX7_distinct_110
  · have hv22 := hv6.2 hc
    refine lv_iconst (v := 0) hx hb dX7_distinct_13 (by decide) ?_
    exact sj_retI hC hD.2 hH hr rfl hv22 ⟨(Nat.le_of_ble_eq_true rfl), (Nat.le_of_ble_eq_true rfl)⟩ dX7_distinct_14
section SJL_X7_distinct
variable {p : Program} {l : Launch} {e : Env} {R : Room} {s : State} {m : MethodId} {args : Array Value} {below : List Frame} {meth : Method} {c : Code} {H : Heap} {locs : List Loc} {cells slots : Nat} {Q : State → Prop} {cc : ByteArray} {pc : Nat} {ls : Array Slot} {rest : List Value} {G : sj_G} {nL : Nat} {w : sj_W}
theorem cg_L_221 {b : Nat} {b0 : Int32} {b1 : Int32} {Qi : Int32 → sj_W → Prop} (hC : sj_C G p l s m args c cc RL nL) (hH : sj_H G s w H locs) (hv : vc_X7_distinct b b0 b1 w Qi) (hT : sj_T w b = 6) (hR : rm_X7_distinct.frames + 1 ≤ R.frames ∧ 8 + (9 + 11) + rm_X7_distinct.locals ≤ R.locals) (hf : cells + 0 ≤ R.cells ∧ slots + 0 ≤ R.slots) (hls : ls.size = nL) (hW : (rest.map fun v => v.category).sum ≤ 8) (hdg : decode cc pc = .ok (.invokevirtual 221, 3)) (kk : ∀ (r : Int32) (w1 : sj_W) (H : Heap) (locs : List Loc), sj_H G s w1 H locs → Qi r w1 → W p l e R s m args below meth c H locs (cells + 0) (slots + 0) Q (F0 m (pc + 3) ls (.int r :: rest))) : W p l e R s m args below meth c H locs cells slots Q (F0 m pc ls (.int b1 :: .int b0 :: .ref b :: rest)) :=
  sj_xI hH (sj_runV (n := 2) hC hH (As := [.int b0, .int b1]) (wk_X7_distinct G l hC.2.2.2.2.2.2 b b0 b1 w Qi (fun _ _ => False) hv) (ci := 5) rfl (by decide) hT mb_920 mb_921 mb_922 mb_5 mb_923 (by decide +kernel) hR hf rfl hls hW hdg) (fun _ _ _ _ _ _ _ h _ _ _ => h.elim) kk
end SJL_X7_distinct
abbrev rm_X7_isOrder : Room := { frames := 0, cells := 0, slots := 0, locals := 0 }
def vc_X7_isOrder (a1 : Int32) (w : sj_W) (Q : Int32 → sj_W → Prop) : Prop := ((a1 = 115 → Q 1 w) ∧ (¬ a1 = 115 → ((¬ a1 = 117 → Q 0 w) ∧ (a1 = 117 → Q 1 w))))
set_option maxHeartbeats 4000000 in
set_option maxRecDepth 100000 in
theorem wk_X7_isOrder (G : sj_G) (l : Launch) (hlt : l.stackTraces = false) (a1 : Int32) (w : sj_W) (Q : Int32 → sj_W → Prop) (QX : String → sj_W → Prop) (hv : vc_X7_isOrder a1 w Q) : sj_MI G l yX7_isOrder (sj_ws yX7_isOrder cX7_isOrder 1 (some .boolean)) rm_X7_isOrder [.int a1] w Q QX := by
  refine sj_of (by decide +kernel) (Nat.le_of_ble_eq_true rfl) hlt ?_
  intro p e s m args below meth c ls hC hD hr hin hH hl
  have hx := hC.1
  have hb := hC.2.1
  have hl : lv_has ls 1 [(0, .int a1)] := hl
  refine lv_iload_n hx hb dX7_isOrder_0 rfl (lv_at hl 0 rfl) ?_
  refine lv_bipush (v := 115) hx hb dX7_isOrder_1 (by decide) ?_
  refine lv_icmp_eq (tgt := 12) hx hb dX7_isOrder_3 (by decide) (fun hc => ?_) (fun hc => ?_)
  · have hv1 := hv.1 hc
    refine lv_iconst (v := 1) hx hb dX7_isOrder_12 (by decide) ?_
    refine lv_goto (tgt := 17) hx hb dX7_isOrder_13 (by decide) ?_
    exact sj_retI hC hD.2 hH hr rfl hv1 ⟨(Nat.le_of_ble_eq_true rfl), (Nat.le_of_ble_eq_true rfl)⟩ dX7_isOrder_17
  · have hv2 := hv.2 hc
    refine lv_iload_n hx hb dX7_isOrder_6 rfl (lv_at hl 0 rfl) ?_
    refine lv_bipush (v := 117) hx hb dX7_isOrder_7 (by decide) ?_
    refine lv_icmp_ne (tgt := 16) hx hb dX7_isOrder_9 (by decide) (fun hc => ?_) (fun hc => ?_)
    · have hv3 := hv2.1 hc
      refine lv_iconst (v := 0) hx hb dX7_isOrder_16 (by decide) ?_
      exact sj_retI hC hD.2 hH hr rfl hv3 ⟨(Nat.le_of_ble_eq_true rfl), (Nat.le_of_ble_eq_true rfl)⟩ dX7_isOrder_17
    · have hv4 := hv2.2 hc
      refine lv_iconst (v := 1) hx hb dX7_isOrder_12 (by decide) ?_
      refine lv_goto (tgt := 17) hx hb dX7_isOrder_13 (by decide) ?_
      exact sj_retI hC hD.2 hH hr rfl hv4 ⟨(Nat.le_of_ble_eq_true rfl), (Nat.le_of_ble_eq_true rfl)⟩ dX7_isOrder_17
section SJL_X7_isOrder
variable {p : Program} {l : Launch} {e : Env} {R : Room} {s : State} {m : MethodId} {args : Array Value} {below : List Frame} {meth : Method} {c : Code} {H : Heap} {locs : List Loc} {cells slots : Nat} {Q : State → Prop} {cc : ByteArray} {pc : Nat} {ls : Array Slot} {rest : List Value} {G : sj_G} {nL : Nat} {w : sj_W}
theorem cl_X7_140 {rmM : Room} {QcM : Array Value → State → Outcome → State → Prop} {QX : String → sj_W → Prop} {b0 : Int32} {Qi : Int32 → sj_W → Prop} (hC : sj_C G p l s m args c cc RX7 nL) (hD : sj_D meth c) (hH : sj_H G s w H locs) (hv : vc_X7_isOrder b0 w Qi) (hR : rm_X7_isOrder.frames + 1 ≤ R.frames ∧ 8 + (1 + 11) + rm_X7_isOrder.locals ≤ R.locals) (hf : cells + 0 ≤ R.cells ∧ slots + 0 ≤ R.slots) (hfM : cells + 0 ≤ rmM.cells ∧ slots + 0 ≤ rmM.slots) (hls : ls.size = nL) (hW : (rest.map fun v => v.category).sum ≤ 8) (hdg : decode cc pc = .ok (.invokestatic 140, 3)) (kk : ∀ (r : Int32) (w1 : sj_W) (H : Heap) (locs : List Loc), sj_H G s w1 H locs → Qi r w1 → W p l e R s m args below meth c H locs (cells + 0) (slots + 0) (sj_MQ G below QcM QX args s rmM) (F0 m (pc + 3) ls (.int r :: rest))) : W p l e R s m args below meth c H locs cells slots (sj_MQ G below QcM QX args s rmM) (F0 m pc ls (.int b0 :: rest)) :=
  sj_cI hD hH (sj_runS (n := 1) hC hH (As := [.int b0]) (wk_X7_isOrder G l hC.2.2.2.2.2.2 b0 w Qi QX hv) mb_893 mb_894 mb_5 mb_895 (by decide +kernel) hR hf rfl hls hW hdg) hfM kk
end SJL_X7_isOrder
abbrev rm_X7_noOrder : Room := { frames := 2, cells := 0, slots := 0, locals := 45 }
def vc_X7_noOrder (self : Nat) (a1 : Int32) (a2 : Int32) (a3 : Int32) (w : sj_W) (Q : Int32 → sj_W → Prop) : Prop := vc_X7_isKind a1 w (fun r1 w2 => ((r1 = 0 → Q 1 w2) ∧ (¬ r1 = 0 → vc_X7_isOrder a2 w2 (fun r6 w7 => ((¬ r6 = 0 → vc_X7_isRow a3 w7 (fun r10 w11 => ((r10 = 0 → Q 2 w11) ∧ (¬ r10 = 0 → Q 0 w11)))) ∧ (r6 = 0 → Q 1 w7))))))
set_option maxHeartbeats 4000000 in
set_option maxRecDepth 100000 in
theorem wk_X7_noOrder (G : sj_G) (l : Launch) (hlt : l.stackTraces = false) (self : Nat) (a1 : Int32) (a2 : Int32) (a3 : Int32) (w : sj_W) (Q : Int32 → sj_W → Prop) (QX : String → sj_W → Prop) (hv : vc_X7_noOrder self a1 a2 a3 w Q) : sj_MI G l yX7_noOrder (sj_ws yX7_noOrder cX7_noOrder 4 (some .int)) rm_X7_noOrder [.ref self, .int a1, .int a2, .int a3] w Q QX := by
  refine sj_of (by decide +kernel) (Nat.le_of_ble_eq_true rfl) hlt ?_
  intro p e s m args below meth c ls hC hD hr hin hH hl
  have hx := hC.1
  have hb := hC.2.1
  have hl : lv_has ls 4 [(0, .ref self), (1, .int a1), (2, .int a2), (3, .int a3)] := hl
  refine lv_iload_n hx hb dX7_noOrder_0 rfl (lv_at hl 1 rfl) ?_
  refine cl_X7_57 hC hD hH hv ⟨Nat.le_of_ble_eq_true rfl, Nat.le_of_ble_eq_true rfl⟩ ⟨(Nat.le_of_ble_eq_true rfl), (Nat.le_of_ble_eq_true rfl)⟩ ⟨(Nat.le_of_ble_eq_true rfl), (Nat.le_of_ble_eq_true rfl)⟩ hl.1 (Nat.le_of_ble_eq_true rfl) dX7_noOrder_1 (fun r1 w2 H locs hH hv3 => ?_)
  refine lv_if_eq (tgt := 14) hx hb dX7_noOrder_4 (by decide) (fun hc => ?_) (fun hc => ?_)
  · have hv4 := hv3.1 hc
    refine lv_iconst (v := 1) hx hb dX7_noOrder_14 (by decide) ?_
    refine lv_goto (tgt := 30) hx hb dX7_noOrder_15 (by decide) ?_
    exact sj_retI hC hD.2 hH hr rfl hv4 ⟨(Nat.le_of_ble_eq_true rfl), (Nat.le_of_ble_eq_true rfl)⟩ dX7_noOrder_30
  · have hv5 := hv3.2 hc
    refine lv_iload_n hx hb dX7_noOrder_7 rfl (lv_at hl 2 rfl) ?_
    refine cl_X7_140 hC hD hH hv5 ⟨Nat.le_of_ble_eq_true rfl, Nat.le_of_ble_eq_true rfl⟩ ⟨(Nat.le_of_ble_eq_true rfl), (Nat.le_of_ble_eq_true rfl)⟩ ⟨(Nat.le_of_ble_eq_true rfl), (Nat.le_of_ble_eq_true rfl)⟩ hl.1 (Nat.le_of_ble_eq_true rfl) dX7_noOrder_8 (fun r6 w7 H locs hH hv8 => ?_)
    refine lv_if_ne (tgt := 18) hx hb dX7_noOrder_11 (by decide) (fun hc => ?_) (fun hc => ?_)
    · have hv9 := hv8.1 hc
      refine lv_iload_n hx hb dX7_noOrder_18 rfl (lv_at hl 3 rfl) ?_
      refine cl_X7_61 hC hD hH hv9 ⟨Nat.le_of_ble_eq_true rfl, Nat.le_of_ble_eq_true rfl⟩ ⟨(Nat.le_of_ble_eq_true rfl), (Nat.le_of_ble_eq_true rfl)⟩ ⟨(Nat.le_of_ble_eq_true rfl), (Nat.le_of_ble_eq_true rfl)⟩ hl.1 (Nat.le_of_ble_eq_true rfl) dX7_noOrder_19 (fun r10 w11 H locs hH hv12 => ?_)
      refine lv_if_eq (tgt := 29) hx hb dX7_noOrder_22 (by decide) (fun hc => ?_) (fun hc => ?_)
      · have hv13 := hv12.1 hc
        refine lv_iconst (v := 2) hx hb dX7_noOrder_29 (by decide) ?_
        exact sj_retI hC hD.2 hH hr rfl hv13 ⟨(Nat.le_of_ble_eq_true rfl), (Nat.le_of_ble_eq_true rfl)⟩ dX7_noOrder_30
      · have hv14 := hv12.2 hc
        refine lv_iconst (v := 0) hx hb dX7_noOrder_25 (by decide) ?_
        refine lv_goto (tgt := 30) hx hb dX7_noOrder_26 (by decide) ?_
        exact sj_retI hC hD.2 hH hr rfl hv14 ⟨(Nat.le_of_ble_eq_true rfl), (Nat.le_of_ble_eq_true rfl)⟩ dX7_noOrder_30
    · have hv15 := hv8.2 hc
      refine lv_iconst (v := 1) hx hb dX7_noOrder_14 (by decide) ?_
      refine lv_goto (tgt := 30) hx hb dX7_noOrder_15 (by decide) ?_
      exact sj_retI hC hD.2 hH hr rfl hv15 ⟨(Nat.le_of_ble_eq_true rfl), (Nat.le_of_ble_eq_true rfl)⟩ dX7_noOrder_30
section SJL_X7_noOrder
variable {p : Program} {l : Launch} {e : Env} {R : Room} {s : State} {m : MethodId} {args : Array Value} {below : List Frame} {meth : Method} {c : Code} {H : Heap} {locs : List Loc} {cells slots : Nat} {Q : State → Prop} {cc : ByteArray} {pc : Nat} {ls : Array Slot} {rest : List Value} {G : sj_G} {nL : Nat} {w : sj_W}
theorem cl_X7_150 {rmM : Room} {QcM : Array Value → State → Outcome → State → Prop} {QX : String → sj_W → Prop} {b : Nat} {b0 : Int32} {b1 : Int32} {b2 : Int32} {Qi : Int32 → sj_W → Prop} (hC : sj_C G p l s m args c cc RX7 nL) (hD : sj_D meth c) (hH : sj_H G s w H locs) (hv : vc_X7_noOrder b b0 b1 b2 w Qi) (hT : sj_T w b = 6) (hR : rm_X7_noOrder.frames + 1 ≤ R.frames ∧ 8 + (4 + 11) + rm_X7_noOrder.locals ≤ R.locals) (hf : cells + 0 ≤ R.cells ∧ slots + 0 ≤ R.slots) (hfM : cells + 0 ≤ rmM.cells ∧ slots + 0 ≤ rmM.slots) (hls : ls.size = nL) (hW : (rest.map fun v => v.category).sum ≤ 8) (hdg : decode cc pc = .ok (.invokevirtual 150, 3)) (kk : ∀ (r : Int32) (w1 : sj_W) (H : Heap) (locs : List Loc), sj_H G s w1 H locs → Qi r w1 → W p l e R s m args below meth c H locs (cells + 0) (slots + 0) (sj_MQ G below QcM QX args s rmM) (F0 m (pc + 3) ls (.int r :: rest))) : W p l e R s m args below meth c H locs cells slots (sj_MQ G below QcM QX args s rmM) (F0 m pc ls (.int b2 :: .int b1 :: .int b0 :: .ref b :: rest)) :=
  sj_cI hD hH (sj_runV (n := 3) hC hH (As := [.int b0, .int b1, .int b2]) (wk_X7_noOrder G l hC.2.2.2.2.2.2 b b0 b1 b2 w Qi QX hv) (ci := 5) rfl (by decide) hT mb_912 mb_914 mb_s38 mb_5 mb_915 (by decide +kernel) hR hf rfl hls hW hdg) hfM kk
end SJL_X7_noOrder
abbrev rm_X7_endings : Room := { frames := 4, cells := 0, slots := 0, locals := 100 }
def vc_X7_endings (self : Nat) (a1 : Int32) (a2 : Int32) (a3 : Int32) (a4 : Int32) (a5 : Int32) (a6 : Int32) (w : sj_W) (Q : Int32 → sj_W → Prop) : Prop := sj_T w self = 6 ∧ vc_X7_compared self a1 a2 a3 a5 (a4 - a5) a3 a6 (a4 - a6) w (fun r1 w2 => Q r1 w2)
set_option maxHeartbeats 4000000 in
set_option maxRecDepth 100000 in
theorem wk_X7_endings (G : sj_G) (l : Launch) (hlt : l.stackTraces = false) (self : Nat) (a1 : Int32) (a2 : Int32) (a3 : Int32) (a4 : Int32) (a5 : Int32) (a6 : Int32) (w : sj_W) (Q : Int32 → sj_W → Prop) (QX : String → sj_W → Prop) (hv : vc_X7_endings self a1 a2 a3 a4 a5 a6 w Q) : sj_MI G l yX7_endings (sj_ws yX7_endings cX7_endings 7 (some .int)) rm_X7_endings [.ref self, .int a1, .int a2, .int a3, .int a4, .int a5, .int a6] w Q QX := by
  refine sj_of (by decide +kernel) (Nat.le_of_ble_eq_true rfl) hlt ?_
  intro p e s m args below meth c ls hC hD hr hin hH hl
  have hx := hC.1
  have hb := hC.2.1
  have hl : lv_has ls 7 [(0, .ref self), (1, .int a1), (2, .int a2), (3, .int a3), (4, .int a4), (5, .int a5), (6, .int a6)] := hl
  refine lv_aload_n hx hb dX7_endings_0 rfl (lv_at hl 0 rfl) ?_
  refine lv_iload_n hx hb dX7_endings_1 rfl (lv_at hl 1 rfl) ?_
  refine lv_iload_n hx hb dX7_endings_2 rfl (lv_at hl 2 rfl) ?_
  refine lv_iload_n hx hb dX7_endings_3 rfl (lv_at hl 3 rfl) ?_
  refine lv_iload hx hb dX7_endings_4 (lv_at hl 5 rfl) ?_
  refine lv_iload hx hb dX7_endings_6 (lv_at hl 4 rfl) ?_
  refine lv_iload hx hb dX7_endings_8 (lv_at hl 5 rfl) ?_
  refine lv_isub hx hb dX7_endings_10 ?_
  refine lv_iload_n hx hb dX7_endings_11 rfl (lv_at hl 3 rfl) ?_
  refine lv_iload hx hb dX7_endings_12 (lv_at hl 6 rfl) ?_
  refine lv_iload hx hb dX7_endings_14 (lv_at hl 4 rfl) ?_
  refine lv_iload hx hb dX7_endings_16 (lv_at hl 6 rfl) ?_
  refine lv_isub hx hb dX7_endings_18 ?_
  refine cl_X7_122 hC hD hH hv.2 hv.1 ⟨Nat.le_of_ble_eq_true rfl, Nat.le_of_ble_eq_true rfl⟩ ⟨(Nat.le_of_ble_eq_true rfl), (Nat.le_of_ble_eq_true rfl)⟩ ⟨(Nat.le_of_ble_eq_true rfl), (Nat.le_of_ble_eq_true rfl)⟩ hl.1 (Nat.le_of_ble_eq_true rfl) dX7_endings_19 (fun r1 w2 H locs hH hv3 => ?_)
  exact sj_retI hC hD.2 hH hr rfl hv3 ⟨(Nat.le_of_ble_eq_true rfl), (Nat.le_of_ble_eq_true rfl)⟩ dX7_endings_22
section SJL_X7_endings
variable {p : Program} {l : Launch} {e : Env} {R : Room} {s : State} {m : MethodId} {args : Array Value} {below : List Frame} {meth : Method} {c : Code} {H : Heap} {locs : List Loc} {cells slots : Nat} {Q : State → Prop} {cc : ByteArray} {pc : Nat} {ls : Array Slot} {rest : List Value} {G : sj_G} {nL : Nat} {w : sj_W}
theorem cl_X7_154 {rmM : Room} {QcM : Array Value → State → Outcome → State → Prop} {QX : String → sj_W → Prop} {b : Nat} {b0 : Int32} {b1 : Int32} {b2 : Int32} {b3 : Int32} {b4 : Int32} {b5 : Int32} {Qi : Int32 → sj_W → Prop} (hC : sj_C G p l s m args c cc RX7 nL) (hD : sj_D meth c) (hH : sj_H G s w H locs) (hv : vc_X7_endings b b0 b1 b2 b3 b4 b5 w Qi) (hT : sj_T w b = 6) (hR : rm_X7_endings.frames + 1 ≤ R.frames ∧ 8 + (7 + 11) + rm_X7_endings.locals ≤ R.locals) (hf : cells + 0 ≤ R.cells ∧ slots + 0 ≤ R.slots) (hfM : cells + 0 ≤ rmM.cells ∧ slots + 0 ≤ rmM.slots) (hls : ls.size = nL) (hW : (rest.map fun v => v.category).sum ≤ 8) (hdg : decode cc pc = .ok (.invokevirtual 154, 3)) (kk : ∀ (r : Int32) (w1 : sj_W) (H : Heap) (locs : List Loc), sj_H G s w1 H locs → Qi r w1 → W p l e R s m args below meth c H locs (cells + 0) (slots + 0) (sj_MQ G below QcM QX args s rmM) (F0 m (pc + 3) ls (.int r :: rest))) : W p l e R s m args below meth c H locs cells slots (sj_MQ G below QcM QX args s rmM) (F0 m pc ls (.int b5 :: .int b4 :: .int b3 :: .int b2 :: .int b1 :: .int b0 :: .ref b :: rest)) :=
  sj_cI hD hH (sj_runV (n := 6) hC hH (As := [.int b0, .int b1, .int b2, .int b3, .int b4, .int b5]) (wk_X7_endings G l hC.2.2.2.2.2.2 b b0 b1 b2 b3 b4 b5 w Qi QX hv) (ci := 5) rfl (by decide) hT mb_916 mb_918 mb_s39 mb_5 mb_919 (by decide +kernel) hR hf rfl hls hW hdg) hfM kk
end SJL_X7_endings
abbrev rm_X7_ending : Room := { frames := 5, cells := 0, slots := 0, locals := 126 }
def vb_X7_ending_76 (f0 : Nat) (f1 : Int32) (f2 : Int32) (f3 : Int32) (f4 : Int32) (f6 : Int32) (f7 : Int32) (Q : Int32 → sj_W → Prop) (E : Int32 → sj_W → Prop) (K : Int32 → Int32 → sj_W → Prop) (v8 : Int32) (v9 : Int32) (w : sj_W) : Prop := ((f6 ≤ v9 → E v8 w) ∧ (¬ f6 ≤ v9 → sj_T w f0 = 6 ∧ vc_X7_endings f0 f1 f2 f3 f6 v9 f7 w (fun r31 w32 => ((0 ≤ r31 → K (v8 + 0) (v9 + 1) w32) ∧ (¬ 0 ≤ r31 → K (v8 + 1) (v9 + 1) w32)))))
def vb_X7_ending_63 (f0 : Nat) (f1 : Int32) (f2 : Int32) (f3 : Int32) (f4 : Int32) (f6 : Int32) (Q : Int32 → sj_W → Prop) (E : sj_W → Prop) (K : Int32 → sj_W → Prop) (v7 : Int32) (w : sj_W) : Prop := ((f6 ≤ v7 → E w) ∧ (¬ f6 ≤ v7 → sj_lp2 (vb_X7_ending_76 f0 f1 f2 f3 f4 f6 v7 Q (fun z8_76 w_76 => ((¬ z8_76 = f4 → K (v7 + 1) w_76) ∧ (z8_76 = f4 → Q v7 w_76)))) 64 0 0 w))
def vc_X7_ending (self : Nat) (a1 : Int32) (a2 : Int32) (a3 : Int32) (a4 : Int32) (w : sj_W) (Q : Int32 → sj_W → Prop) : Prop := sj_T w self = 6 ∧ vc_X7_noOrder self a1 a2 a3 w (fun r1 w2 => sj_jn2 (fun (E4 : Int32 → Nat → sj_W → Prop) => ((r1 ≤ 0 → sj_T w2 self = 6 ∧ vc_X7_size self a1 a3 w2 (fun r11 w12 => vc_X7_in (a4.toInt64) 0 ((r11 - 1).toInt64) w12 (fun r14 w15 => ((r14 = 0 → E4 2 self w15) ∧ (¬ r14 = 0 → E4 0 self w15))))) ∧ (¬ r1 ≤ 0 → E4 r1 self w2))) (fun (y0_44 : Int32) (y1_44 : Nat) (w_44 : sj_W) => sj_T w_44 y1_44 = 6 ∧ vc_X7_fails y1_44 y0_44 w_44 (fun r20 w21 => ((r20 = 0 → sj_T w21 self = 6 ∧ vc_X7_size self a1 a3 w21 (fun r24 w25 => sj_lp1 (vb_X7_ending_63 self a1 a2 a3 a4 r24 Q (fun w_63 => Q (-1) w_63)) 64 0 w25)) ∧ (¬ r20 = 0 → Q 0 w21)))))
set_option maxHeartbeats 4000000 in
set_option maxRecDepth 100000 in
theorem wl_X7_ending_76 {p : Program} {l : Launch} {e : Env} {s : State} {m : MethodId} {args : Array Value} {below : List Frame} {meth : Method} {c : Code} {G : sj_G} {f0 : Nat} {f1 : Int32} {f2 : Int32} {f3 : Int32} {f4 : Int32} {f6 : Int32} {f7 : Int32} {Q : Int32 → sj_W → Prop} {QX : String → sj_W → Prop} {E : Int32 → sj_W → Prop} (hC : sj_C G p l s m args c cX7_ending RX7 10) (hD : sj_D meth c) (hr : meth.sig.returnType = (some .int)) (hin : meth.name = "ending") (hE : ∀ (v8 : Int32) (w : sj_W) (H : Heap) (locs : List Loc) (ls : Array Slot), lv_has ls 10 [(0, .ref f0), (1, .int f1), (2, .int f2), (3, .int f3), (4, .int f4), (6, .int f6), (7, .int f7), (8, .int v8)] → sj_H G s w H locs → E v8 w → W p l e rm_X7_ending s m args below meth c H locs 0 0 (sj_MQ G below (va_Qi Q (sj_B G) (sj_F G)) QX args s rm_X7_ending) (F0 m 115 ls [])) : ∀ (n : Nat) (v8 : Int32) (v9 : Int32) (w : sj_W) (H : Heap) (locs : List Loc) (ls : Array Slot), lv_has ls 10 [(0, .ref f0), (1, .int f1), (2, .int f2), (3, .int f3), (4, .int f4), (6, .int f6), (7, .int f7), (8, .int v8), (9, .int v9)] → sj_H G s w H locs → sj_lp2 (vb_X7_ending_76 f0 f1 f2 f3 f4 f6 f7 Q E) n v8 v9 w → W p l e rm_X7_ending s m args below meth c H locs 0 0 (sj_MQ G below (va_Qi Q (sj_B G) (sj_F G)) QX args s rm_X7_ending) (F0 m 76 ls []) := by
  have hx := hC.1
  have hb := hC.2.1
  intro n
  induction n with
  | zero =>
    intro v8 v9 w H locs ls _ _ hv
    exact hv.elim
  | succ n ih =>
    intro v8 v9 w H locs ls hl hH hv
    have hv : vb_X7_ending_76 f0 f1 f2 f3 f4 f6 f7 Q E (sj_lp2 (vb_X7_ending_76 f0 f1 f2 f3 f4 f6 f7 Q E) n) v8 v9 w := hv
    have hc1 : rm_X7_ending.cells = 0 := rfl
    have hc2 : rm_X7_ending.slots = 0 := rfl
    refine lv_iload hx hb dX7_ending_76 (lv_at hl 8 rfl) ?_
    refine lv_iload hx hb dX7_ending_78 (lv_at hl 5 rfl) ?_
    refine lv_icmp_ge (tgt := 115) hx hb dX7_ending_80 (by decide) (fun hc => ?_) (fun hc => ?_)
    · have hv29 := hv.1 hc
      exact hE v8 w _ _ _ (lv_sub hl [0, 1, 2, 3, 4, 5, 6, 7] rfl) hH hv29
    · have hv30 := hv.2 hc
      refine lv_iload hx hb dX7_ending_83 (lv_at hl 7 rfl) ?_
      refine lv_aload_n hx hb dX7_ending_85 rfl (lv_at hl 0 rfl) ?_
      refine lv_iload_n hx hb dX7_ending_86 rfl (lv_at hl 1 rfl) ?_
      refine lv_iload_n hx hb dX7_ending_87 rfl (lv_at hl 2 rfl) ?_
      refine lv_iload_n hx hb dX7_ending_88 rfl (lv_at hl 3 rfl) ?_
      refine lv_iload hx hb dX7_ending_89 (lv_at hl 5 rfl) ?_
      refine lv_iload hx hb dX7_ending_91 (lv_at hl 8 rfl) ?_
      refine lv_iload hx hb dX7_ending_93 (lv_at hl 6 rfl) ?_
      refine cl_X7_154 hC hD hH hv30.2 hv30.1 ⟨Nat.le_of_ble_eq_true rfl, Nat.le_of_ble_eq_true rfl⟩ ⟨(Nat.le_of_ble_eq_true rfl), (Nat.le_of_ble_eq_true rfl)⟩ ⟨(Nat.le_of_ble_eq_true rfl), (Nat.le_of_ble_eq_true rfl)⟩ hl.1 (Nat.le_of_ble_eq_true rfl) dX7_ending_95 (fun r31 w32 H locs hH hv33 => ?_)
      refine lv_if_ge (tgt := 105) hx hb dX7_ending_98 (by decide) (fun hc => ?_) (fun hc => ?_)
      · have hv34 := hv33.1 hc
        refine lv_iconst (v := 0) hx hb dX7_ending_105 (by decide) ?_
        refine lv_iadd hx hb dX7_ending_106 ?_
        refine lv_istore (lv' := [(8, .int (v8 + 0)), (0, .ref f0), (1, .int f1), (2, .int f2), (3, .int f3), (4, .int f4), (6, .int f6), (7, .int f7), (9, .int v9)]) hx hb dX7_ending_107 hl (by decide) rfl (fun ls hl => ?_)
        refine lv_iinc (v := (v9 + 1)) (lv' := [(9, .int (v9 + 1)), (8, .int (v8 + 0)), (0, .ref f0), (1, .int f1), (2, .int f2), (3, .int f3), (4, .int f4), (6, .int f6), (7, .int f7)]) hx hb dX7_ending_109 hl (k := 8) rfl rfl (by decide) rfl (fun ls hl => ?_)
        refine lv_goto (tgt := 76) hx hb dX7_ending_112 (by decide) ?_
        exact ih (v8 + 0) (v9 + 1) w32 _ _ _ (lv_sub hl [2, 3, 4, 5, 6, 7, 8, 1, 0] rfl) hH hv34
      · have hv35 := hv33.2 hc
        refine lv_iconst (v := 1) hx hb dX7_ending_101 (by decide) ?_
        refine lv_goto (tgt := 106) hx hb dX7_ending_102 (by decide) ?_
        refine lv_iadd hx hb dX7_ending_106 ?_
        refine lv_istore (lv' := [(8, .int (v8 + 1)), (0, .ref f0), (1, .int f1), (2, .int f2), (3, .int f3), (4, .int f4), (6, .int f6), (7, .int f7), (9, .int v9)]) hx hb dX7_ending_107 hl (by decide) rfl (fun ls hl => ?_)
        refine lv_iinc (v := (v9 + 1)) (lv' := [(9, .int (v9 + 1)), (8, .int (v8 + 1)), (0, .ref f0), (1, .int f1), (2, .int f2), (3, .int f3), (4, .int f4), (6, .int f6), (7, .int f7)]) hx hb dX7_ending_109 hl (k := 8) rfl rfl (by decide) rfl (fun ls hl => ?_)
        refine lv_goto (tgt := 76) hx hb dX7_ending_112 (by decide) ?_
        exact ih (v8 + 1) (v9 + 1) w32 _ _ _ (lv_sub hl [2, 3, 4, 5, 6, 7, 8, 1, 0] rfl) hH hv35
set_option maxHeartbeats 4000000 in
set_option maxRecDepth 100000 in
theorem wl_X7_ending_63 {p : Program} {l : Launch} {e : Env} {s : State} {m : MethodId} {args : Array Value} {below : List Frame} {meth : Method} {c : Code} {G : sj_G} {f0 : Nat} {f1 : Int32} {f2 : Int32} {f3 : Int32} {f4 : Int32} {f6 : Int32} {Q : Int32 → sj_W → Prop} {QX : String → sj_W → Prop} {E : sj_W → Prop} (hC : sj_C G p l s m args c cX7_ending RX7 10) (hD : sj_D meth c) (hr : meth.sig.returnType = (some .int)) (hin : meth.name = "ending") (hE : ∀ (w : sj_W) (H : Heap) (locs : List Loc) (ls : Array Slot), lv_has ls 10 [] → sj_H G s w H locs → E w → W p l e rm_X7_ending s m args below meth c H locs 0 0 (sj_MQ G below (va_Qi Q (sj_B G) (sj_F G)) QX args s rm_X7_ending) (F0 m 131 ls [])) : ∀ (n : Nat) (v7 : Int32) (w : sj_W) (H : Heap) (locs : List Loc) (ls : Array Slot), lv_has ls 10 [(0, .ref f0), (1, .int f1), (2, .int f2), (3, .int f3), (4, .int f4), (6, .int f6), (7, .int v7)] → sj_H G s w H locs → sj_lp1 (vb_X7_ending_63 f0 f1 f2 f3 f4 f6 Q E) n v7 w → W p l e rm_X7_ending s m args below meth c H locs 0 0 (sj_MQ G below (va_Qi Q (sj_B G) (sj_F G)) QX args s rm_X7_ending) (F0 m 63 ls []) := by
  have hx := hC.1
  have hb := hC.2.1
  intro n
  induction n with
  | zero =>
    intro v7 w H locs ls _ _ hv
    exact hv.elim
  | succ n ih =>
    intro v7 w H locs ls hl hH hv
    have hv : vb_X7_ending_63 f0 f1 f2 f3 f4 f6 Q E (sj_lp1 (vb_X7_ending_63 f0 f1 f2 f3 f4 f6 Q E) n) v7 w := hv
    have hc1 : rm_X7_ending.cells = 0 := rfl
    have hc2 : rm_X7_ending.slots = 0 := rfl
    refine lv_iload hx hb dX7_ending_63 (lv_at hl 6 rfl) ?_
    refine lv_iload hx hb dX7_ending_65 (lv_at hl 5 rfl) ?_
    refine lv_icmp_ge (tgt := 131) hx hb dX7_ending_67 (by decide) (fun hc => ?_) (fun hc => ?_)
    · have hv27 := hv.1 hc
      exact hE  w _ _ _ (lv_sub hl [] rfl) hH hv27
    · have hv28 := hv.2 hc
      refine lv_iconst (v := 0) hx hb dX7_ending_70 (by decide) ?_
      refine lv_istore (lv' := [(8, .int 0), (0, .ref f0), (1, .int f1), (2, .int f2), (3, .int f3), (4, .int f4), (6, .int f6), (7, .int v7)]) hx hb dX7_ending_71 hl (by decide) rfl (fun ls hl => ?_)
      refine lv_iconst (v := 0) hx hb dX7_ending_73 (by decide) ?_
      refine lv_istore (lv' := [(9, .int 0), (8, .int 0), (0, .ref f0), (1, .int f1), (2, .int f2), (3, .int f3), (4, .int f4), (6, .int f6), (7, .int v7)]) hx hb dX7_ending_74 hl (by decide) rfl (fun ls hl => ?_)
      refine wl_X7_ending_76 hC hD hr hin (fun z8_76 w_76 H locs ls hl hH hv36 => ?_) 64 0 0 w _ _ _ (lv_sub hl [2, 3, 4, 5, 6, 7, 8, 1, 0] rfl) hH hv28
      refine lv_iload hx hb dX7_ending_115 (lv_at hl 7 rfl) ?_
      refine lv_iload hx hb dX7_ending_117 (lv_at hl 4 rfl) ?_
      refine lv_icmp_ne (tgt := 125) hx hb dX7_ending_119 (by decide) (fun hc => ?_) (fun hc => ?_)
      · have hv37 := hv36.1 hc
        refine lv_iinc (v := (v7 + 1)) (lv' := [(7, .int (v7 + 1)), (0, .ref f0), (1, .int f1), (2, .int f2), (3, .int f3), (4, .int f4), (6, .int f6), (8, .int z8_76)]) hx hb dX7_ending_125 hl (k := 6) rfl rfl (by decide) rfl (fun ls hl => ?_)
        refine lv_goto (tgt := 63) hx hb dX7_ending_128 (by decide) ?_
        exact ih (v7 + 1) w_76 _ _ _ (lv_sub hl [1, 2, 3, 4, 5, 6, 0] rfl) hH hv37
      · have hv38 := hv36.2 hc
        refine lv_iload hx hb dX7_ending_122 (lv_at hl 6 rfl) ?_
        exact sj_retI hC hD.2 hH hr rfl hv38 ⟨(Nat.le_of_ble_eq_true rfl), (Nat.le_of_ble_eq_true rfl)⟩ dX7_ending_124
set_option maxHeartbeats 4000000 in
set_option maxRecDepth 100000 in
theorem wk_X7_ending (G : sj_G) (l : Launch) (hlt : l.stackTraces = false) (self : Nat) (a1 : Int32) (a2 : Int32) (a3 : Int32) (a4 : Int32) (w : sj_W) (Q : Int32 → sj_W → Prop) (QX : String → sj_W → Prop) (hv : vc_X7_ending self a1 a2 a3 a4 w Q) : sj_MI G l yX7_ending (sj_ws yX7_ending cX7_ending 10 (some .int)) rm_X7_ending [.ref self, .int a1, .int a2, .int a3, .int a4] w Q QX := by
  refine sj_of (by decide +kernel) (Nat.le_of_ble_eq_true rfl) hlt ?_
  intro p e s m args below meth c ls hC hD hr hin hH hl
  have hx := hC.1
  have hb := hC.2.1
  have hl : lv_has ls 10 [(0, .ref self), (1, .int a1), (2, .int a2), (3, .int a3), (4, .int a4)] := hl
  refine lv_aload_n hx hb dX7_ending_0 rfl (lv_at hl 0 rfl) ?_
  refine lv_iload_n hx hb dX7_ending_1 rfl (lv_at hl 1 rfl) ?_
  refine lv_iload_n hx hb dX7_ending_2 rfl (lv_at hl 2 rfl) ?_
  refine lv_iload_n hx hb dX7_ending_3 rfl (lv_at hl 3 rfl) ?_
  refine cl_X7_150 hC hD hH hv.2 hv.1 ⟨Nat.le_of_ble_eq_true rfl, Nat.le_of_ble_eq_true rfl⟩ ⟨(Nat.le_of_ble_eq_true rfl), (Nat.le_of_ble_eq_true rfl)⟩ ⟨(Nat.le_of_ble_eq_true rfl), (Nat.le_of_ble_eq_true rfl)⟩ hl.1 (Nat.le_of_ble_eq_true rfl) dX7_ending_4 (fun r1 w2 H locs hH hv3 => ?_)
  refine lv_istore (lv' := [(5, .int r1), (0, .ref self), (1, .int a1), (2, .int a2), (3, .int a3), (4, .int a4)]) hx hb dX7_ending_7 hl (by decide) rfl (fun ls hl => ?_)
  refine lv_aload_n hx hb dX7_ending_9 rfl (lv_at hl 1 rfl) ?_
  refine lv_iload hx hb dX7_ending_10 (lv_at hl 0 rfl) ?_
  obtain ⟨E4, hE5, hv8⟩ := sj_jn2_e hv3
  have hJ6 : ∀ (y0_44 : Int32) (y1_44 : Nat) (w_44 : sj_W) (H : Heap) (locs : List Loc) (ls : Array Slot), lv_has ls 10 [(0, .ref self), (1, .int a1), (2, .int a2), (3, .int a3), (4, .int a4)] → sj_H G s w_44 H locs → E4 y0_44 y1_44 w_44 → W p l e rm_X7_ending s m args below meth c H locs 0 0 (sj_MQ G below (va_Qi Q (sj_B G) (sj_F G)) QX args s rm_X7_ending) (F0 m 44 ls [.int y0_44, .ref y1_44]) := by
    intro y0_44 y1_44 w_44 H locs ls hl hH hv9
    rw [hE5] at hv9
    refine cl_X7_73 hC hD hH hv9.2 hv9.1 ⟨Nat.le_of_ble_eq_true rfl, Nat.le_of_ble_eq_true rfl⟩ ⟨(Nat.le_of_ble_eq_true rfl), (Nat.le_of_ble_eq_true rfl)⟩ ⟨(Nat.le_of_ble_eq_true rfl), (Nat.le_of_ble_eq_true rfl)⟩ hl.1 (Nat.le_of_ble_eq_true rfl) dX7_ending_44 (fun r20 w21 H locs hH hv22 => ?_)
    refine lv_if_eq (tgt := 52) hx hb dX7_ending_47 (by decide) (fun hc => ?_) (fun hc => ?_)
    · have hv23 := hv22.1 hc
      refine lv_aload_n hx hb dX7_ending_52 rfl (lv_at hl 0 rfl) ?_
      refine lv_iload_n hx hb dX7_ending_53 rfl (lv_at hl 1 rfl) ?_
      refine lv_iload_n hx hb dX7_ending_54 rfl (lv_at hl 3 rfl) ?_
      refine cl_X7_69 hC hD hH hv23.2 hv23.1 ⟨Nat.le_of_ble_eq_true rfl, Nat.le_of_ble_eq_true rfl⟩ ⟨(Nat.le_of_ble_eq_true rfl), (Nat.le_of_ble_eq_true rfl)⟩ ⟨(Nat.le_of_ble_eq_true rfl), (Nat.le_of_ble_eq_true rfl)⟩ hl.1 (Nat.le_of_ble_eq_true rfl) dX7_ending_55 (fun r24 w25 H locs hH hv26 => ?_)
      refine lv_istore (lv' := [(6, .int r24), (0, .ref self), (1, .int a1), (2, .int a2), (3, .int a3), (4, .int a4)]) hx hb dX7_ending_58 hl (by decide) rfl (fun ls hl => ?_)
      refine lv_iconst (v := 0) hx hb dX7_ending_60 (by decide) ?_
      refine lv_istore (lv' := [(7, .int 0), (6, .int r24), (0, .ref self), (1, .int a1), (2, .int a2), (3, .int a3), (4, .int a4)]) hx hb dX7_ending_61 hl (by decide) rfl (fun ls hl => ?_)
      refine wl_X7_ending_63 hC hD hr hin (fun w_63 H locs ls hl hH hv39 => ?_) 64 0 w25 _ _ _ (lv_sub hl [2, 3, 4, 5, 6, 1, 0] rfl) hH hv26
      refine lv_iconst (v := (-1)) hx hb dX7_ending_131 (by decide) ?_
      exact sj_retI hC hD.2 hH hr rfl hv39 ⟨(Nat.le_of_ble_eq_true rfl), (Nat.le_of_ble_eq_true rfl)⟩ dX7_ending_132
    · have hv40 := hv22.2 hc
      refine lv_iconst (v := 0) hx hb dX7_ending_50 (by decide) ?_
      exact sj_retI hC hD.2 hH hr rfl hv40 ⟨(Nat.le_of_ble_eq_true rfl), (Nat.le_of_ble_eq_true rfl)⟩ dX7_ending_51
  clear hE5
  refine lv_if_le (tgt := 20) hx hb dX7_ending_12 (by decide) (fun hc => ?_) (fun hc => ?_)
  · have hv10 := hv8.1 hc
    refine lv_iload hx hb dX7_ending_20 (lv_at hl 5 rfl) ?_
    refine lv_i2l hx hb dX7_ending_22 rfl ?_
    refine lv_lconst (v := 0) hx hb dX7_ending_23 (by decide) ?_
    refine lv_aload_n hx hb dX7_ending_24 rfl (lv_at hl 1 rfl) ?_
    refine lv_iload_n hx hb dX7_ending_25 rfl (lv_at hl 2 rfl) ?_
    refine lv_iload_n hx hb dX7_ending_26 rfl (lv_at hl 4 rfl) ?_
    refine cl_X7_69 hC hD hH hv10.2 hv10.1 ⟨Nat.le_of_ble_eq_true rfl, Nat.le_of_ble_eq_true rfl⟩ ⟨(Nat.le_of_ble_eq_true rfl), (Nat.le_of_ble_eq_true rfl)⟩ ⟨(Nat.le_of_ble_eq_true rfl), (Nat.le_of_ble_eq_true rfl)⟩ hl.1 (Nat.le_of_ble_eq_true rfl) dX7_ending_27 (fun r11 w12 H locs hH hv13 => ?_)
    refine lv_iconst (v := 1) hx hb dX7_ending_30 (by decide) ?_
    refine lv_isub hx hb dX7_ending_31 ?_
    refine lv_i2l hx hb dX7_ending_32 rfl ?_
    refine cl_X7_39 hC hD hH hv13 ⟨Nat.le_of_ble_eq_true rfl, Nat.le_of_ble_eq_true rfl⟩ ⟨(Nat.le_of_ble_eq_true rfl), (Nat.le_of_ble_eq_true rfl)⟩ ⟨(Nat.le_of_ble_eq_true rfl), (Nat.le_of_ble_eq_true rfl)⟩ hl.1 (Nat.le_of_ble_eq_true rfl) dX7_ending_33 (fun r14 w15 H locs hH hv16 => ?_)
    refine lv_if_eq (tgt := 43) hx hb dX7_ending_36 (by decide) (fun hc => ?_) (fun hc => ?_)
    · have hv17 := hv16.1 hc
      refine lv_iconst (v := 2) hx hb dX7_ending_43 (by decide) ?_
      exact hJ6 2 self w15 _ _ _ (lv_sub hl [1, 2, 3, 4, 5] rfl) hH hv17
    · have hv18 := hv16.2 hc
      refine lv_iconst (v := 0) hx hb dX7_ending_39 (by decide) ?_
      refine lv_goto (tgt := 44) hx hb dX7_ending_40 (by decide) ?_
      exact hJ6 0 self w15 _ _ _ (lv_sub hl [1, 2, 3, 4, 5] rfl) hH hv18
  · have hv19 := hv8.2 hc
    refine lv_iload hx hb dX7_ending_15 (lv_at hl 0 rfl) ?_
    refine lv_goto (tgt := 44) hx hb dX7_ending_17 (by decide) ?_
    exact hJ6 r1 self w2 _ _ _ (lv_sub hl [1, 2, 3, 4, 5] rfl) hH hv19
section SJL_X7_ending
variable {p : Program} {l : Launch} {e : Env} {R : Room} {s : State} {m : MethodId} {args : Array Value} {below : List Frame} {meth : Method} {c : Code} {H : Heap} {locs : List Loc} {cells slots : Nat} {Q : State → Prop} {cc : ByteArray} {pc : Nat} {ls : Array Slot} {rest : List Value} {G : sj_G} {nL : Nat} {w : sj_W}
theorem cg_L_218 {b : Nat} {b0 : Int32} {b1 : Int32} {b2 : Int32} {b3 : Int32} {Qi : Int32 → sj_W → Prop} (hC : sj_C G p l s m args c cc RL nL) (hH : sj_H G s w H locs) (hv : vc_X7_ending b b0 b1 b2 b3 w Qi) (hT : sj_T w b = 6) (hR : rm_X7_ending.frames + 1 ≤ R.frames ∧ 8 + (10 + 11) + rm_X7_ending.locals ≤ R.locals) (hf : cells + 0 ≤ R.cells ∧ slots + 0 ≤ R.slots) (hls : ls.size = nL) (hW : (rest.map fun v => v.category).sum ≤ 8) (hdg : decode cc pc = .ok (.invokevirtual 218, 3)) (kk : ∀ (r : Int32) (w1 : sj_W) (H : Heap) (locs : List Loc), sj_H G s w1 H locs → Qi r w1 → W p l e R s m args below meth c H locs (cells + 0) (slots + 0) Q (F0 m (pc + 3) ls (.int r :: rest))) : W p l e R s m args below meth c H locs cells slots Q (F0 m pc ls (.int b3 :: .int b2 :: .int b1 :: .int b0 :: .ref b :: rest)) :=
  sj_xI hH (sj_runV (n := 4) hC hH (As := [.int b0, .int b1, .int b2, .int b3]) (wk_X7_ending G l hC.2.2.2.2.2.2 b b0 b1 b2 b3 w Qi (fun _ _ => False) hv) (ci := 5) rfl (by decide) hT mb_908 mb_909 mb_910 mb_5 mb_911 (by decide +kernel) hR hf rfl hls hW hdg) (fun _ _ _ _ _ _ _ h _ _ _ => h.elim) kk
end SJL_X7_ending
abbrev rm_X7_lastOf : Room := { frames := 5, cells := 0, slots := 0, locals := 126 }
def vb_X7_lastOf_6 (f0 : Nat) (f1 : Int32) (f2 : Int32) (f3 : Int32) (f4 : Int32) (Q : Int32 → sj_W → Prop) (E : Int32 → sj_W → Prop) (K : Int32 → Int32 → sj_W → Prop) (v5 : Int32) (v6 : Int32) (w : sj_W) : Prop := ((f4 ≤ v6 → E v5 w) ∧ (¬ f4 ≤ v6 → sj_T w f0 = 6 ∧ vc_X7_endings f0 f1 f2 f3 f4 v6 v5 w (fun r3 w4 => ((0 ≤ r3 → K v5 (v6 + 1) w4) ∧ (¬ 0 ≤ r3 → K v6 (v6 + 1) w4)))))
def vc_X7_lastOf (self : Nat) (a1 : Int32) (a2 : Int32) (a3 : Int32) (a4 : Int32) (w : sj_W) (Q : Int32 → sj_W → Prop) : Prop := sj_lp2 (vb_X7_lastOf_6 self a1 a2 a3 a4 Q (fun z5_6 w_6 => Q z5_6 w_6)) 64 0 1 w
set_option maxHeartbeats 4000000 in
set_option maxRecDepth 100000 in
theorem wl_X7_lastOf_6 {p : Program} {l : Launch} {e : Env} {s : State} {m : MethodId} {args : Array Value} {below : List Frame} {meth : Method} {c : Code} {G : sj_G} {f0 : Nat} {f1 : Int32} {f2 : Int32} {f3 : Int32} {f4 : Int32} {Q : Int32 → sj_W → Prop} {QX : String → sj_W → Prop} {E : Int32 → sj_W → Prop} (hC : sj_C G p l s m args c cX7_lastOf RX7 7) (hD : sj_D meth c) (hr : meth.sig.returnType = (some .int)) (hin : meth.name = "lastOf") (hE : ∀ (v5 : Int32) (w : sj_W) (H : Heap) (locs : List Loc) (ls : Array Slot), lv_has ls 7 [(5, .int v5)] → sj_H G s w H locs → E v5 w → W p l e rm_X7_lastOf s m args below meth c H locs 0 0 (sj_MQ G below (va_Qi Q (sj_B G) (sj_F G)) QX args s rm_X7_lastOf) (F0 m 39 ls [])) : ∀ (n : Nat) (v5 : Int32) (v6 : Int32) (w : sj_W) (H : Heap) (locs : List Loc) (ls : Array Slot), lv_has ls 7 [(0, .ref f0), (1, .int f1), (2, .int f2), (3, .int f3), (4, .int f4), (5, .int v5), (6, .int v6)] → sj_H G s w H locs → sj_lp2 (vb_X7_lastOf_6 f0 f1 f2 f3 f4 Q E) n v5 v6 w → W p l e rm_X7_lastOf s m args below meth c H locs 0 0 (sj_MQ G below (va_Qi Q (sj_B G) (sj_F G)) QX args s rm_X7_lastOf) (F0 m 6 ls []) := by
  have hx := hC.1
  have hb := hC.2.1
  intro n
  induction n with
  | zero =>
    intro v5 v6 w H locs ls _ _ hv
    exact hv.elim
  | succ n ih =>
    intro v5 v6 w H locs ls hl hH hv
    have hv : vb_X7_lastOf_6 f0 f1 f2 f3 f4 Q E (sj_lp2 (vb_X7_lastOf_6 f0 f1 f2 f3 f4 Q E) n) v5 v6 w := hv
    have hc1 : rm_X7_lastOf.cells = 0 := rfl
    have hc2 : rm_X7_lastOf.slots = 0 := rfl
    refine lv_iload hx hb dX7_lastOf_6 (lv_at hl 6 rfl) ?_
    refine lv_iload hx hb dX7_lastOf_8 (lv_at hl 4 rfl) ?_
    refine lv_icmp_ge (tgt := 39) hx hb dX7_lastOf_10 (by decide) (fun hc => ?_) (fun hc => ?_)
    · have hv1 := hv.1 hc
      exact hE v5 w _ _ _ (lv_sub hl [5] rfl) hH hv1
    · have hv2 := hv.2 hc
      refine lv_aload_n hx hb dX7_lastOf_13 rfl (lv_at hl 0 rfl) ?_
      refine lv_iload_n hx hb dX7_lastOf_14 rfl (lv_at hl 1 rfl) ?_
      refine lv_iload_n hx hb dX7_lastOf_15 rfl (lv_at hl 2 rfl) ?_
      refine lv_iload_n hx hb dX7_lastOf_16 rfl (lv_at hl 3 rfl) ?_
      refine lv_iload hx hb dX7_lastOf_17 (lv_at hl 4 rfl) ?_
      refine lv_iload hx hb dX7_lastOf_19 (lv_at hl 6 rfl) ?_
      refine lv_iload hx hb dX7_lastOf_21 (lv_at hl 5 rfl) ?_
      refine cl_X7_154 hC hD hH hv2.2 hv2.1 ⟨Nat.le_of_ble_eq_true rfl, Nat.le_of_ble_eq_true rfl⟩ ⟨(Nat.le_of_ble_eq_true rfl), (Nat.le_of_ble_eq_true rfl)⟩ ⟨(Nat.le_of_ble_eq_true rfl), (Nat.le_of_ble_eq_true rfl)⟩ hl.1 (Nat.le_of_ble_eq_true rfl) dX7_lastOf_23 (fun r3 w4 H locs hH hv5 => ?_)
      refine lv_if_ge (tgt := 33) hx hb dX7_lastOf_26 (by decide) (fun hc => ?_) (fun hc => ?_)
      · have hv6 := hv5.1 hc
        refine lv_iinc (v := (v6 + 1)) (lv' := [(6, .int (v6 + 1)), (0, .ref f0), (1, .int f1), (2, .int f2), (3, .int f3), (4, .int f4), (5, .int v5)]) hx hb dX7_lastOf_33 hl (k := 6) rfl rfl (by decide) rfl (fun ls hl => ?_)
        refine lv_goto (tgt := 6) hx hb dX7_lastOf_36 (by decide) ?_
        exact ih v5 (v6 + 1) w4 _ _ _ (lv_sub hl [1, 2, 3, 4, 5, 6, 0] rfl) hH hv6
      · have hv7 := hv5.2 hc
        refine lv_iload hx hb dX7_lastOf_29 (lv_at hl 6 rfl) ?_
        refine lv_istore (lv' := [(5, .int v6), (0, .ref f0), (1, .int f1), (2, .int f2), (3, .int f3), (4, .int f4), (6, .int v6)]) hx hb dX7_lastOf_31 hl (by decide) rfl (fun ls hl => ?_)
        refine lv_iinc (v := (v6 + 1)) (lv' := [(6, .int (v6 + 1)), (5, .int v6), (0, .ref f0), (1, .int f1), (2, .int f2), (3, .int f3), (4, .int f4)]) hx hb dX7_lastOf_33 hl (k := 6) rfl rfl (by decide) rfl (fun ls hl => ?_)
        refine lv_goto (tgt := 6) hx hb dX7_lastOf_36 (by decide) ?_
        exact ih v6 (v6 + 1) w4 _ _ _ (lv_sub hl [2, 3, 4, 5, 6, 1, 0] rfl) hH hv7
set_option maxHeartbeats 4000000 in
set_option maxRecDepth 100000 in
theorem wk_X7_lastOf (G : sj_G) (l : Launch) (hlt : l.stackTraces = false) (self : Nat) (a1 : Int32) (a2 : Int32) (a3 : Int32) (a4 : Int32) (w : sj_W) (Q : Int32 → sj_W → Prop) (QX : String → sj_W → Prop) (hv : vc_X7_lastOf self a1 a2 a3 a4 w Q) : sj_MI G l yX7_lastOf (sj_ws yX7_lastOf cX7_lastOf 7 (some .int)) rm_X7_lastOf [.ref self, .int a1, .int a2, .int a3, .int a4] w Q QX := by
  refine sj_of (by decide +kernel) (Nat.le_of_ble_eq_true rfl) hlt ?_
  intro p e s m args below meth c ls hC hD hr hin hH hl
  have hx := hC.1
  have hb := hC.2.1
  have hl : lv_has ls 7 [(0, .ref self), (1, .int a1), (2, .int a2), (3, .int a3), (4, .int a4)] := hl
  refine lv_iconst (v := 0) hx hb dX7_lastOf_0 (by decide) ?_
  refine lv_istore (lv' := [(5, .int 0), (0, .ref self), (1, .int a1), (2, .int a2), (3, .int a3), (4, .int a4)]) hx hb dX7_lastOf_1 hl (by decide) rfl (fun ls hl => ?_)
  refine lv_iconst (v := 1) hx hb dX7_lastOf_3 (by decide) ?_
  refine lv_istore (lv' := [(6, .int 1), (5, .int 0), (0, .ref self), (1, .int a1), (2, .int a2), (3, .int a3), (4, .int a4)]) hx hb dX7_lastOf_4 hl (by decide) rfl (fun ls hl => ?_)
  refine wl_X7_lastOf_6 hC hD hr hin (fun z5_6 w_6 H locs ls hl hH hv8 => ?_) 64 0 1 w _ _ _ (lv_sub hl [2, 3, 4, 5, 6, 1, 0] rfl) hH hv
  refine lv_iload hx hb dX7_lastOf_39 (lv_at hl 0 rfl) ?_
  exact sj_retI hC hD.2 hH hr rfl hv8 ⟨(Nat.le_of_ble_eq_true rfl), (Nat.le_of_ble_eq_true rfl)⟩ dX7_lastOf_41
section SJL_X7_lastOf
variable {p : Program} {l : Launch} {e : Env} {R : Room} {s : State} {m : MethodId} {args : Array Value} {below : List Frame} {meth : Method} {c : Code} {H : Heap} {locs : List Loc} {cells slots : Nat} {Q : State → Prop} {cc : ByteArray} {pc : Nat} {ls : Array Slot} {rest : List Value} {G : sj_G} {nL : Nat} {w : sj_W}
theorem cl_X7_166 {rmM : Room} {QcM : Array Value → State → Outcome → State → Prop} {QX : String → sj_W → Prop} {b : Nat} {b0 : Int32} {b1 : Int32} {b2 : Int32} {b3 : Int32} {Qi : Int32 → sj_W → Prop} (hC : sj_C G p l s m args c cc RX7 nL) (hD : sj_D meth c) (hH : sj_H G s w H locs) (hv : vc_X7_lastOf b b0 b1 b2 b3 w Qi) (hT : sj_T w b = 6) (hR : rm_X7_lastOf.frames + 1 ≤ R.frames ∧ 8 + (7 + 11) + rm_X7_lastOf.locals ≤ R.locals) (hf : cells + 0 ≤ R.cells ∧ slots + 0 ≤ R.slots) (hfM : cells + 0 ≤ rmM.cells ∧ slots + 0 ≤ rmM.slots) (hls : ls.size = nL) (hW : (rest.map fun v => v.category).sum ≤ 8) (hdg : decode cc pc = .ok (.invokevirtual 166, 3)) (kk : ∀ (r : Int32) (w1 : sj_W) (H : Heap) (locs : List Loc), sj_H G s w1 H locs → Qi r w1 → W p l e R s m args below meth c H locs (cells + 0) (slots + 0) (sj_MQ G below QcM QX args s rmM) (F0 m (pc + 3) ls (.int r :: rest))) : W p l e R s m args below meth c H locs cells slots (sj_MQ G below QcM QX args s rmM) (F0 m pc ls (.int b3 :: .int b2 :: .int b1 :: .int b0 :: .ref b :: rest)) :=
  sj_cI hD hH (sj_runV (n := 4) hC hH (As := [.int b0, .int b1, .int b2, .int b3]) (wk_X7_lastOf G l hC.2.2.2.2.2.2 b b0 b1 b2 b3 w Qi QX hv) (ci := 5) rfl (by decide) hT mb_964 mb_966 mb_s43 mb_5 mb_967 (by decide +kernel) hR hf rfl hls hW hdg) hfM kk
end SJL_X7_lastOf
abbrev rm_X7_words : Room := { frames := 6, cells := 0, slots := 0, locals := 152 }
def vb_X7_words_11 (f0 : Nat) (f1 : Int32) (f2 : Int32) (f3 : Int32) (Q : Int32 → sj_W → Prop) (E : Int32 → sj_W → Prop) (K : Int32 → Int32 → sj_W → Prop) (v4 : Int32) (v5 : Int32) (w : sj_W) : Prop := ((v5 ≤ 0 → E v4 w) ∧ (¬ v5 ≤ 0 → sj_T w f0 = 6 ∧ vc_X7_lastOf f0 f1 f2 f3 v5 w (fun r6 w7 => K (v4 + 1) r6 w7)))
def vc_X7_words (self : Nat) (a1 : Int32) (a2 : Int32) (a3 : Int32) (w : sj_W) (Q : Int32 → sj_W → Prop) : Prop := sj_T w self = 6 ∧ vc_X7_size self a1 a3 w (fun r1 w2 => sj_lp2 (vb_X7_words_11 self a1 a2 a3 Q (fun z4_11 w_11 => Q z4_11 w_11)) 64 0 r1 w2)
set_option maxHeartbeats 4000000 in
set_option maxRecDepth 100000 in
theorem wl_X7_words_11 {p : Program} {l : Launch} {e : Env} {s : State} {m : MethodId} {args : Array Value} {below : List Frame} {meth : Method} {c : Code} {G : sj_G} {f0 : Nat} {f1 : Int32} {f2 : Int32} {f3 : Int32} {Q : Int32 → sj_W → Prop} {QX : String → sj_W → Prop} {E : Int32 → sj_W → Prop} (hC : sj_C G p l s m args c cX7_words RX7 6) (hD : sj_D meth c) (hr : meth.sig.returnType = (some .int)) (hin : meth.name = "words") (hE : ∀ (v4 : Int32) (w : sj_W) (H : Heap) (locs : List Loc) (ls : Array Slot), lv_has ls 6 [(4, .int v4)] → sj_H G s w H locs → E v4 w → W p l e rm_X7_words s m args below meth c H locs 0 0 (sj_MQ G below (va_Qi Q (sj_B G) (sj_F G)) QX args s rm_X7_words) (F0 m 33 ls [])) : ∀ (n : Nat) (v4 : Int32) (v5 : Int32) (w : sj_W) (H : Heap) (locs : List Loc) (ls : Array Slot), lv_has ls 6 [(0, .ref f0), (1, .int f1), (2, .int f2), (3, .int f3), (4, .int v4), (5, .int v5)] → sj_H G s w H locs → sj_lp2 (vb_X7_words_11 f0 f1 f2 f3 Q E) n v4 v5 w → W p l e rm_X7_words s m args below meth c H locs 0 0 (sj_MQ G below (va_Qi Q (sj_B G) (sj_F G)) QX args s rm_X7_words) (F0 m 11 ls []) := by
  have hx := hC.1
  have hb := hC.2.1
  intro n
  induction n with
  | zero =>
    intro v4 v5 w H locs ls _ _ hv
    exact hv.elim
  | succ n ih =>
    intro v4 v5 w H locs ls hl hH hv
    have hv : vb_X7_words_11 f0 f1 f2 f3 Q E (sj_lp2 (vb_X7_words_11 f0 f1 f2 f3 Q E) n) v4 v5 w := hv
    have hc1 : rm_X7_words.cells = 0 := rfl
    have hc2 : rm_X7_words.slots = 0 := rfl
    refine lv_iload hx hb dX7_words_11 (lv_at hl 5 rfl) ?_
    refine lv_if_le (tgt := 33) hx hb dX7_words_13 (by decide) (fun hc => ?_) (fun hc => ?_)
    · have hv4 := hv.1 hc
      exact hE v4 w _ _ _ (lv_sub hl [4] rfl) hH hv4
    · have hv5 := hv.2 hc
      refine lv_iinc (v := (v4 + 1)) (lv' := [(4, .int (v4 + 1)), (0, .ref f0), (1, .int f1), (2, .int f2), (3, .int f3), (5, .int v5)]) hx hb dX7_words_16 hl (k := 4) rfl rfl (by decide) rfl (fun ls hl => ?_)
      refine lv_aload_n hx hb dX7_words_19 rfl (lv_at hl 1 rfl) ?_
      refine lv_iload_n hx hb dX7_words_20 rfl (lv_at hl 2 rfl) ?_
      refine lv_iload_n hx hb dX7_words_21 rfl (lv_at hl 3 rfl) ?_
      refine lv_iload_n hx hb dX7_words_22 rfl (lv_at hl 4 rfl) ?_
      refine lv_iload hx hb dX7_words_23 (lv_at hl 5 rfl) ?_
      refine cl_X7_166 hC hD hH hv5.2 hv5.1 ⟨Nat.le_of_ble_eq_true rfl, Nat.le_of_ble_eq_true rfl⟩ ⟨(Nat.le_of_ble_eq_true rfl), (Nat.le_of_ble_eq_true rfl)⟩ ⟨(Nat.le_of_ble_eq_true rfl), (Nat.le_of_ble_eq_true rfl)⟩ hl.1 (Nat.le_of_ble_eq_true rfl) dX7_words_25 (fun r6 w7 H locs hH hv8 => ?_)
      refine lv_istore (lv' := [(5, .int r6), (4, .int (v4 + 1)), (0, .ref f0), (1, .int f1), (2, .int f2), (3, .int f3)]) hx hb dX7_words_28 hl (by decide) rfl (fun ls hl => ?_)
      refine lv_goto (tgt := 11) hx hb dX7_words_30 (by decide) ?_
      exact ih (v4 + 1) r6 w7 _ _ _ (lv_sub hl [2, 3, 4, 5, 1, 0] rfl) hH hv8
set_option maxHeartbeats 4000000 in
set_option maxRecDepth 100000 in
theorem wk_X7_words (G : sj_G) (l : Launch) (hlt : l.stackTraces = false) (self : Nat) (a1 : Int32) (a2 : Int32) (a3 : Int32) (w : sj_W) (Q : Int32 → sj_W → Prop) (QX : String → sj_W → Prop) (hv : vc_X7_words self a1 a2 a3 w Q) : sj_MI G l yX7_words (sj_ws yX7_words cX7_words 6 (some .int)) rm_X7_words [.ref self, .int a1, .int a2, .int a3] w Q QX := by
  refine sj_of (by decide +kernel) (Nat.le_of_ble_eq_true rfl) hlt ?_
  intro p e s m args below meth c ls hC hD hr hin hH hl
  have hx := hC.1
  have hb := hC.2.1
  have hl : lv_has ls 6 [(0, .ref self), (1, .int a1), (2, .int a2), (3, .int a3)] := hl
  refine lv_iconst (v := 0) hx hb dX7_words_0 (by decide) ?_
  refine lv_istore (lv' := [(4, .int 0), (0, .ref self), (1, .int a1), (2, .int a2), (3, .int a3)]) hx hb dX7_words_1 hl (by decide) rfl (fun ls hl => ?_)
  refine lv_aload_n hx hb dX7_words_3 rfl (lv_at hl 1 rfl) ?_
  refine lv_iload_n hx hb dX7_words_4 rfl (lv_at hl 2 rfl) ?_
  refine lv_iload_n hx hb dX7_words_5 rfl (lv_at hl 4 rfl) ?_
  refine cl_X7_69 hC hD hH hv.2 hv.1 ⟨Nat.le_of_ble_eq_true rfl, Nat.le_of_ble_eq_true rfl⟩ ⟨(Nat.le_of_ble_eq_true rfl), (Nat.le_of_ble_eq_true rfl)⟩ ⟨(Nat.le_of_ble_eq_true rfl), (Nat.le_of_ble_eq_true rfl)⟩ hl.1 (Nat.le_of_ble_eq_true rfl) dX7_words_6 (fun r1 w2 H locs hH hv3 => ?_)
  refine lv_istore (lv' := [(5, .int r1), (4, .int 0), (0, .ref self), (1, .int a1), (2, .int a2), (3, .int a3)]) hx hb dX7_words_9 hl (by decide) rfl (fun ls hl => ?_)
  refine wl_X7_words_11 hC hD hr hin (fun z4_11 w_11 H locs ls hl hH hv9 => ?_) 64 0 r1 w2 _ _ _ (lv_sub hl [2, 3, 4, 5, 1, 0] rfl) hH hv3
  refine lv_iload hx hb dX7_words_33 (lv_at hl 0 rfl) ?_
  exact sj_retI hC hD.2 hH hr rfl hv9 ⟨(Nat.le_of_ble_eq_true rfl), (Nat.le_of_ble_eq_true rfl)⟩ dX7_words_35
section SJL_X7_words
variable {p : Program} {l : Launch} {e : Env} {R : Room} {s : State} {m : MethodId} {args : Array Value} {below : List Frame} {meth : Method} {c : Code} {H : Heap} {locs : List Loc} {cells slots : Nat} {Q : State → Prop} {cc : ByteArray} {pc : Nat} {ls : Array Slot} {rest : List Value} {G : sj_G} {nL : Nat} {w : sj_W}
theorem cl_X7_169 {rmM : Room} {QcM : Array Value → State → Outcome → State → Prop} {QX : String → sj_W → Prop} {b : Nat} {b0 : Int32} {b1 : Int32} {b2 : Int32} {Qi : Int32 → sj_W → Prop} (hC : sj_C G p l s m args c cc RX7 nL) (hD : sj_D meth c) (hH : sj_H G s w H locs) (hv : vc_X7_words b b0 b1 b2 w Qi) (hT : sj_T w b = 6) (hR : rm_X7_words.frames + 1 ≤ R.frames ∧ 8 + (6 + 11) + rm_X7_words.locals ≤ R.locals) (hf : cells + 0 ≤ R.cells ∧ slots + 0 ≤ R.slots) (hfM : cells + 0 ≤ rmM.cells ∧ slots + 0 ≤ rmM.slots) (hls : ls.size = nL) (hW : (rest.map fun v => v.category).sum ≤ 8) (hdg : decode cc pc = .ok (.invokevirtual 169, 3)) (kk : ∀ (r : Int32) (w1 : sj_W) (H : Heap) (locs : List Loc), sj_H G s w1 H locs → Qi r w1 → W p l e R s m args below meth c H locs (cells + 0) (slots + 0) (sj_MQ G below QcM QX args s rmM) (F0 m (pc + 3) ls (.int r :: rest))) : W p l e R s m args below meth c H locs cells slots (sj_MQ G below QcM QX args s rmM) (F0 m pc ls (.int b2 :: .int b1 :: .int b0 :: .ref b :: rest)) :=
  sj_cI hD hH (sj_runV (n := 3) hC hH (As := [.int b0, .int b1, .int b2]) (wk_X7_words G l hC.2.2.2.2.2.2 b b0 b1 b2 w Qi QX hv) (ci := 5) rfl (by decide) hT mb_960 mb_962 mb_s42 mb_5 mb_963 (by decide +kernel) hR hf rfl hls hW hdg) hfM kk
end SJL_X7_words
abbrev rm_X7_factor : Room := { frames := 7, cells := 0, slots := 0, locals := 177 }
def vb_X7_factor_70 (f0 : Nat) (f1 : Int32) (f2 : Int32) (f3 : Int32) (f4 : Int32) (Q : Int32 → sj_W → Prop) (E : Int32 → sj_W → Prop) (K : Int32 → Int32 → sj_W → Prop) (v6 : Int32) (v7 : Int32) (w : sj_W) : Prop := ((v7 ≤ f4 → E v6 w) ∧ (¬ v7 ≤ f4 → sj_T w f0 = 6 ∧ vc_X7_lastOf f0 f1 f2 f3 v6 w (fun r32 w33 => K r32 (v7 + (-1)) w33)))
def vc_X7_factor (self : Nat) (a1 : Int32) (a2 : Int32) (a3 : Int32) (a4 : Int32) (w : sj_W) (Q : Int32 → sj_W → Prop) : Prop := sj_T w self = 6 ∧ vc_X7_noOrder self a1 a2 a3 w (fun r1 w2 => sj_jn2 (fun (E4 : Int32 → Nat → sj_W → Prop) => ((r1 ≤ 0 → sj_T w2 self = 6 ∧ vc_X7_words self a1 a2 a3 w2 (fun r11 w12 => vc_X7_in (a4.toInt64) 0 ((r11 - 1).toInt64) w12 (fun r14 w15 => ((r14 = 0 → E4 2 self w15) ∧ (¬ r14 = 0 → E4 0 self w15))))) ∧ (¬ r1 ≤ 0 → E4 r1 self w2))) (fun (y0_45 : Int32) (y1_45 : Nat) (w_45 : sj_W) => sj_T w_45 y1_45 = 6 ∧ vc_X7_fails y1_45 y0_45 w_45 (fun r20 w21 => ((r20 = 0 → sj_T w21 self = 6 ∧ vc_X7_size self a1 a3 w21 (fun r24 w25 => sj_T w25 self = 6 ∧ vc_X7_words self a1 a2 a3 w25 (fun r27 w28 => sj_lp2 (vb_X7_factor_70 self a1 a2 a3 a4 Q (fun z6_70 w_70 => Q z6_70 w_70)) 64 r24 r27 w28))) ∧ (¬ r20 = 0 → Q 0 w21)))))
set_option maxHeartbeats 4000000 in
set_option maxRecDepth 100000 in
theorem wl_X7_factor_70 {p : Program} {l : Launch} {e : Env} {s : State} {m : MethodId} {args : Array Value} {below : List Frame} {meth : Method} {c : Code} {G : sj_G} {f0 : Nat} {f1 : Int32} {f2 : Int32} {f3 : Int32} {f4 : Int32} {Q : Int32 → sj_W → Prop} {QX : String → sj_W → Prop} {E : Int32 → sj_W → Prop} (hC : sj_C G p l s m args c cX7_factor RX7 8) (hD : sj_D meth c) (hr : meth.sig.returnType = (some .int)) (hin : meth.name = "factor") (hE : ∀ (v6 : Int32) (w : sj_W) (H : Heap) (locs : List Loc) (ls : Array Slot), lv_has ls 8 [(6, .int v6)] → sj_H G s w H locs → E v6 w → W p l e rm_X7_factor s m args below meth c H locs 0 0 (sj_MQ G below (va_Qi Q (sj_B G) (sj_F G)) QX args s rm_X7_factor) (F0 m 94 ls [])) : ∀ (n : Nat) (v6 : Int32) (v7 : Int32) (w : sj_W) (H : Heap) (locs : List Loc) (ls : Array Slot), lv_has ls 8 [(0, .ref f0), (1, .int f1), (2, .int f2), (3, .int f3), (4, .int f4), (6, .int v6), (7, .int v7)] → sj_H G s w H locs → sj_lp2 (vb_X7_factor_70 f0 f1 f2 f3 f4 Q E) n v6 v7 w → W p l e rm_X7_factor s m args below meth c H locs 0 0 (sj_MQ G below (va_Qi Q (sj_B G) (sj_F G)) QX args s rm_X7_factor) (F0 m 70 ls []) := by
  have hx := hC.1
  have hb := hC.2.1
  intro n
  induction n with
  | zero =>
    intro v6 v7 w H locs ls _ _ hv
    exact hv.elim
  | succ n ih =>
    intro v6 v7 w H locs ls hl hH hv
    have hv : vb_X7_factor_70 f0 f1 f2 f3 f4 Q E (sj_lp2 (vb_X7_factor_70 f0 f1 f2 f3 f4 Q E) n) v6 v7 w := hv
    have hc1 : rm_X7_factor.cells = 0 := rfl
    have hc2 : rm_X7_factor.slots = 0 := rfl
    refine lv_iload hx hb dX7_factor_70 (lv_at hl 6 rfl) ?_
    refine lv_iload hx hb dX7_factor_72 (lv_at hl 4 rfl) ?_
    refine lv_icmp_le (tgt := 94) hx hb dX7_factor_74 (by decide) (fun hc => ?_) (fun hc => ?_)
    · have hv30 := hv.1 hc
      exact hE v6 w _ _ _ (lv_sub hl [5] rfl) hH hv30
    · have hv31 := hv.2 hc
      refine lv_aload_n hx hb dX7_factor_77 rfl (lv_at hl 0 rfl) ?_
      refine lv_iload_n hx hb dX7_factor_78 rfl (lv_at hl 1 rfl) ?_
      refine lv_iload_n hx hb dX7_factor_79 rfl (lv_at hl 2 rfl) ?_
      refine lv_iload_n hx hb dX7_factor_80 rfl (lv_at hl 3 rfl) ?_
      refine lv_iload hx hb dX7_factor_81 (lv_at hl 5 rfl) ?_
      refine cl_X7_166 hC hD hH hv31.2 hv31.1 ⟨Nat.le_of_ble_eq_true rfl, Nat.le_of_ble_eq_true rfl⟩ ⟨(Nat.le_of_ble_eq_true rfl), (Nat.le_of_ble_eq_true rfl)⟩ ⟨(Nat.le_of_ble_eq_true rfl), (Nat.le_of_ble_eq_true rfl)⟩ hl.1 (Nat.le_of_ble_eq_true rfl) dX7_factor_83 (fun r32 w33 H locs hH hv34 => ?_)
      refine lv_istore (lv' := [(6, .int r32), (0, .ref f0), (1, .int f1), (2, .int f2), (3, .int f3), (4, .int f4), (7, .int v7)]) hx hb dX7_factor_86 hl (by decide) rfl (fun ls hl => ?_)
      refine lv_iinc (v := (v7 + (-1))) (lv' := [(7, .int (v7 + (-1))), (6, .int r32), (0, .ref f0), (1, .int f1), (2, .int f2), (3, .int f3), (4, .int f4)]) hx hb dX7_factor_88 hl (k := 6) rfl rfl (by decide) rfl (fun ls hl => ?_)
      refine lv_goto (tgt := 70) hx hb dX7_factor_91 (by decide) ?_
      exact ih r32 (v7 + (-1)) w33 _ _ _ (lv_sub hl [2, 3, 4, 5, 6, 1, 0] rfl) hH hv34
set_option maxHeartbeats 4000000 in
set_option maxRecDepth 100000 in
theorem wk_X7_factor (G : sj_G) (l : Launch) (hlt : l.stackTraces = false) (self : Nat) (a1 : Int32) (a2 : Int32) (a3 : Int32) (a4 : Int32) (w : sj_W) (Q : Int32 → sj_W → Prop) (QX : String → sj_W → Prop) (hv : vc_X7_factor self a1 a2 a3 a4 w Q) : sj_MI G l yX7_factor (sj_ws yX7_factor cX7_factor 8 (some .int)) rm_X7_factor [.ref self, .int a1, .int a2, .int a3, .int a4] w Q QX := by
  refine sj_of (by decide +kernel) (Nat.le_of_ble_eq_true rfl) hlt ?_
  intro p e s m args below meth c ls hC hD hr hin hH hl
  have hx := hC.1
  have hb := hC.2.1
  have hl : lv_has ls 8 [(0, .ref self), (1, .int a1), (2, .int a2), (3, .int a3), (4, .int a4)] := hl
  refine lv_aload_n hx hb dX7_factor_0 rfl (lv_at hl 0 rfl) ?_
  refine lv_iload_n hx hb dX7_factor_1 rfl (lv_at hl 1 rfl) ?_
  refine lv_iload_n hx hb dX7_factor_2 rfl (lv_at hl 2 rfl) ?_
  refine lv_iload_n hx hb dX7_factor_3 rfl (lv_at hl 3 rfl) ?_
  refine cl_X7_150 hC hD hH hv.2 hv.1 ⟨Nat.le_of_ble_eq_true rfl, Nat.le_of_ble_eq_true rfl⟩ ⟨(Nat.le_of_ble_eq_true rfl), (Nat.le_of_ble_eq_true rfl)⟩ ⟨(Nat.le_of_ble_eq_true rfl), (Nat.le_of_ble_eq_true rfl)⟩ hl.1 (Nat.le_of_ble_eq_true rfl) dX7_factor_4 (fun r1 w2 H locs hH hv3 => ?_)
  refine lv_istore (lv' := [(5, .int r1), (0, .ref self), (1, .int a1), (2, .int a2), (3, .int a3), (4, .int a4)]) hx hb dX7_factor_7 hl (by decide) rfl (fun ls hl => ?_)
  refine lv_aload_n hx hb dX7_factor_9 rfl (lv_at hl 1 rfl) ?_
  refine lv_iload hx hb dX7_factor_10 (lv_at hl 0 rfl) ?_
  obtain ⟨E4, hE5, hv8⟩ := sj_jn2_e hv3
  have hJ6 : ∀ (y0_45 : Int32) (y1_45 : Nat) (w_45 : sj_W) (H : Heap) (locs : List Loc) (ls : Array Slot), lv_has ls 8 [(0, .ref self), (1, .int a1), (2, .int a2), (3, .int a3), (4, .int a4)] → sj_H G s w_45 H locs → E4 y0_45 y1_45 w_45 → W p l e rm_X7_factor s m args below meth c H locs 0 0 (sj_MQ G below (va_Qi Q (sj_B G) (sj_F G)) QX args s rm_X7_factor) (F0 m 45 ls [.int y0_45, .ref y1_45]) := by
    intro y0_45 y1_45 w_45 H locs ls hl hH hv9
    rw [hE5] at hv9
    refine cl_X7_73 hC hD hH hv9.2 hv9.1 ⟨Nat.le_of_ble_eq_true rfl, Nat.le_of_ble_eq_true rfl⟩ ⟨(Nat.le_of_ble_eq_true rfl), (Nat.le_of_ble_eq_true rfl)⟩ ⟨(Nat.le_of_ble_eq_true rfl), (Nat.le_of_ble_eq_true rfl)⟩ hl.1 (Nat.le_of_ble_eq_true rfl) dX7_factor_45 (fun r20 w21 H locs hH hv22 => ?_)
    refine lv_if_eq (tgt := 53) hx hb dX7_factor_48 (by decide) (fun hc => ?_) (fun hc => ?_)
    · have hv23 := hv22.1 hc
      refine lv_aload_n hx hb dX7_factor_53 rfl (lv_at hl 0 rfl) ?_
      refine lv_iload_n hx hb dX7_factor_54 rfl (lv_at hl 1 rfl) ?_
      refine lv_iload_n hx hb dX7_factor_55 rfl (lv_at hl 3 rfl) ?_
      refine cl_X7_69 hC hD hH hv23.2 hv23.1 ⟨Nat.le_of_ble_eq_true rfl, Nat.le_of_ble_eq_true rfl⟩ ⟨(Nat.le_of_ble_eq_true rfl), (Nat.le_of_ble_eq_true rfl)⟩ ⟨(Nat.le_of_ble_eq_true rfl), (Nat.le_of_ble_eq_true rfl)⟩ hl.1 (Nat.le_of_ble_eq_true rfl) dX7_factor_56 (fun r24 w25 H locs hH hv26 => ?_)
      refine lv_istore (lv' := [(6, .int r24), (0, .ref self), (1, .int a1), (2, .int a2), (3, .int a3), (4, .int a4)]) hx hb dX7_factor_59 hl (by decide) rfl (fun ls hl => ?_)
      refine lv_aload_n hx hb dX7_factor_61 rfl (lv_at hl 1 rfl) ?_
      refine lv_iload_n hx hb dX7_factor_62 rfl (lv_at hl 2 rfl) ?_
      refine lv_iload_n hx hb dX7_factor_63 rfl (lv_at hl 3 rfl) ?_
      refine lv_iload_n hx hb dX7_factor_64 rfl (lv_at hl 4 rfl) ?_
      refine cl_X7_169 hC hD hH hv26.2 hv26.1 ⟨Nat.le_of_ble_eq_true rfl, Nat.le_of_ble_eq_true rfl⟩ ⟨(Nat.le_of_ble_eq_true rfl), (Nat.le_of_ble_eq_true rfl)⟩ ⟨(Nat.le_of_ble_eq_true rfl), (Nat.le_of_ble_eq_true rfl)⟩ hl.1 (Nat.le_of_ble_eq_true rfl) dX7_factor_65 (fun r27 w28 H locs hH hv29 => ?_)
      refine lv_istore (lv' := [(7, .int r27), (6, .int r24), (0, .ref self), (1, .int a1), (2, .int a2), (3, .int a3), (4, .int a4)]) hx hb dX7_factor_68 hl (by decide) rfl (fun ls hl => ?_)
      refine wl_X7_factor_70 hC hD hr hin (fun z6_70 w_70 H locs ls hl hH hv35 => ?_) 64 r24 r27 w28 _ _ _ (lv_sub hl [2, 3, 4, 5, 6, 1, 0] rfl) hH hv29
      refine lv_iload hx hb dX7_factor_94 (lv_at hl 0 rfl) ?_
      exact sj_retI hC hD.2 hH hr rfl hv35 ⟨(Nat.le_of_ble_eq_true rfl), (Nat.le_of_ble_eq_true rfl)⟩ dX7_factor_96
    · have hv36 := hv22.2 hc
      refine lv_iconst (v := 0) hx hb dX7_factor_51 (by decide) ?_
      exact sj_retI hC hD.2 hH hr rfl hv36 ⟨(Nat.le_of_ble_eq_true rfl), (Nat.le_of_ble_eq_true rfl)⟩ dX7_factor_52
  clear hE5
  refine lv_if_le (tgt := 20) hx hb dX7_factor_12 (by decide) (fun hc => ?_) (fun hc => ?_)
  · have hv10 := hv8.1 hc
    refine lv_iload hx hb dX7_factor_20 (lv_at hl 5 rfl) ?_
    refine lv_i2l hx hb dX7_factor_22 rfl ?_
    refine lv_lconst (v := 0) hx hb dX7_factor_23 (by decide) ?_
    refine lv_aload_n hx hb dX7_factor_24 rfl (lv_at hl 1 rfl) ?_
    refine lv_iload_n hx hb dX7_factor_25 rfl (lv_at hl 2 rfl) ?_
    refine lv_iload_n hx hb dX7_factor_26 rfl (lv_at hl 3 rfl) ?_
    refine lv_iload_n hx hb dX7_factor_27 rfl (lv_at hl 4 rfl) ?_
    refine cl_X7_169 hC hD hH hv10.2 hv10.1 ⟨Nat.le_of_ble_eq_true rfl, Nat.le_of_ble_eq_true rfl⟩ ⟨(Nat.le_of_ble_eq_true rfl), (Nat.le_of_ble_eq_true rfl)⟩ ⟨(Nat.le_of_ble_eq_true rfl), (Nat.le_of_ble_eq_true rfl)⟩ hl.1 (Nat.le_of_ble_eq_true rfl) dX7_factor_28 (fun r11 w12 H locs hH hv13 => ?_)
    refine lv_iconst (v := 1) hx hb dX7_factor_31 (by decide) ?_
    refine lv_isub hx hb dX7_factor_32 ?_
    refine lv_i2l hx hb dX7_factor_33 rfl ?_
    refine cl_X7_39 hC hD hH hv13 ⟨Nat.le_of_ble_eq_true rfl, Nat.le_of_ble_eq_true rfl⟩ ⟨(Nat.le_of_ble_eq_true rfl), (Nat.le_of_ble_eq_true rfl)⟩ ⟨(Nat.le_of_ble_eq_true rfl), (Nat.le_of_ble_eq_true rfl)⟩ hl.1 (Nat.le_of_ble_eq_true rfl) dX7_factor_34 (fun r14 w15 H locs hH hv16 => ?_)
    refine lv_if_eq (tgt := 44) hx hb dX7_factor_37 (by decide) (fun hc => ?_) (fun hc => ?_)
    · have hv17 := hv16.1 hc
      refine lv_iconst (v := 2) hx hb dX7_factor_44 (by decide) ?_
      exact hJ6 2 self w15 _ _ _ (lv_sub hl [1, 2, 3, 4, 5] rfl) hH hv17
    · have hv18 := hv16.2 hc
      refine lv_iconst (v := 0) hx hb dX7_factor_40 (by decide) ?_
      refine lv_goto (tgt := 45) hx hb dX7_factor_41 (by decide) ?_
      exact hJ6 0 self w15 _ _ _ (lv_sub hl [1, 2, 3, 4, 5] rfl) hH hv18
  · have hv19 := hv8.2 hc
    refine lv_iload hx hb dX7_factor_15 (lv_at hl 0 rfl) ?_
    refine lv_goto (tgt := 45) hx hb dX7_factor_17 (by decide) ?_
    exact hJ6 r1 self w2 _ _ _ (lv_sub hl [1, 2, 3, 4, 5] rfl) hH hv19
section SJL_X7_factor
variable {p : Program} {l : Launch} {e : Env} {R : Room} {s : State} {m : MethodId} {args : Array Value} {below : List Frame} {meth : Method} {c : Code} {H : Heap} {locs : List Loc} {cells slots : Nat} {Q : State → Prop} {cc : ByteArray} {pc : Nat} {ls : Array Slot} {rest : List Value} {G : sj_G} {nL : Nat} {w : sj_W}
theorem cg_L_245 {b : Nat} {b0 : Int32} {b1 : Int32} {b2 : Int32} {b3 : Int32} {Qi : Int32 → sj_W → Prop} (hC : sj_C G p l s m args c cc RL nL) (hH : sj_H G s w H locs) (hv : vc_X7_factor b b0 b1 b2 b3 w Qi) (hT : sj_T w b = 6) (hR : rm_X7_factor.frames + 1 ≤ R.frames ∧ 8 + (8 + 11) + rm_X7_factor.locals ≤ R.locals) (hf : cells + 0 ≤ R.cells ∧ slots + 0 ≤ R.slots) (hls : ls.size = nL) (hW : (rest.map fun v => v.category).sum ≤ 8) (hdg : decode cc pc = .ok (.invokevirtual 245, 3)) (kk : ∀ (r : Int32) (w1 : sj_W) (H : Heap) (locs : List Loc), sj_H G s w1 H locs → Qi r w1 → W p l e R s m args below meth c H locs (cells + 0) (slots + 0) Q (F0 m (pc + 3) ls (.int r :: rest))) : W p l e R s m args below meth c H locs cells slots Q (F0 m pc ls (.int b3 :: .int b2 :: .int b1 :: .int b0 :: .ref b :: rest)) :=
  sj_xI hH (sj_runV (n := 4) hC hH (As := [.int b0, .int b1, .int b2, .int b3]) (wk_X7_factor G l hC.2.2.2.2.2.2 b b0 b1 b2 b3 w Qi (fun _ _ => False) hv) (ci := 5) rfl (by decide) hT mb_968 mb_969 mb_970 mb_5 mb_971 (by decide +kernel) hR hf rfl hls hW hdg) (fun _ _ _ _ _ _ _ h _ _ _ => h.elim) kk
end SJL_X7_factor
abbrev rm_X7_factors : Room := { frames := 7, cells := 0, slots := 0, locals := 177 }
def vc_X7_factors (self : Nat) (a1 : Int32) (a2 : Int32) (a3 : Int32) (w : sj_W) (Q : Int32 → sj_W → Prop) : Prop := sj_T w self = 6 ∧ vc_X7_noOrder self a1 a2 a3 w (fun r1 w2 => sj_T w2 self = 6 ∧ vc_X7_fails self r1 w2 (fun r4 w5 => ((r4 = 0 → sj_T w5 self = 6 ∧ vc_X7_words self a1 a2 a3 w5 (fun r8 w9 => Q r8 w9)) ∧ (¬ r4 = 0 → Q 0 w5))))
set_option maxHeartbeats 4000000 in
set_option maxRecDepth 100000 in
theorem wk_X7_factors (G : sj_G) (l : Launch) (hlt : l.stackTraces = false) (self : Nat) (a1 : Int32) (a2 : Int32) (a3 : Int32) (w : sj_W) (Q : Int32 → sj_W → Prop) (QX : String → sj_W → Prop) (hv : vc_X7_factors self a1 a2 a3 w Q) : sj_MI G l yX7_factors (sj_ws yX7_factors cX7_factors 4 (some .int)) rm_X7_factors [.ref self, .int a1, .int a2, .int a3] w Q QX := by
  refine sj_of (by decide +kernel) (Nat.le_of_ble_eq_true rfl) hlt ?_
  intro p e s m args below meth c ls hC hD hr hin hH hl
  have hx := hC.1
  have hb := hC.2.1
  have hl : lv_has ls 4 [(0, .ref self), (1, .int a1), (2, .int a2), (3, .int a3)] := hl
  refine lv_aload_n hx hb dX7_factors_0 rfl (lv_at hl 0 rfl) ?_
  refine lv_aload_n hx hb dX7_factors_1 rfl (lv_at hl 0 rfl) ?_
  refine lv_iload_n hx hb dX7_factors_2 rfl (lv_at hl 1 rfl) ?_
  refine lv_iload_n hx hb dX7_factors_3 rfl (lv_at hl 2 rfl) ?_
  refine lv_iload_n hx hb dX7_factors_4 rfl (lv_at hl 3 rfl) ?_
  refine cl_X7_150 hC hD hH hv.2 hv.1 ⟨Nat.le_of_ble_eq_true rfl, Nat.le_of_ble_eq_true rfl⟩ ⟨(Nat.le_of_ble_eq_true rfl), (Nat.le_of_ble_eq_true rfl)⟩ ⟨(Nat.le_of_ble_eq_true rfl), (Nat.le_of_ble_eq_true rfl)⟩ hl.1 (Nat.le_of_ble_eq_true rfl) dX7_factors_5 (fun r1 w2 H locs hH hv3 => ?_)
  refine cl_X7_73 hC hD hH hv3.2 hv3.1 ⟨Nat.le_of_ble_eq_true rfl, Nat.le_of_ble_eq_true rfl⟩ ⟨(Nat.le_of_ble_eq_true rfl), (Nat.le_of_ble_eq_true rfl)⟩ ⟨(Nat.le_of_ble_eq_true rfl), (Nat.le_of_ble_eq_true rfl)⟩ hl.1 (Nat.le_of_ble_eq_true rfl) dX7_factors_8 (fun r4 w5 H locs hH hv6 => ?_)
  refine lv_if_eq (tgt := 18) hx hb dX7_factors_11 (by decide) (fun hc => ?_) (fun hc => ?_)
  · have hv7 := hv6.1 hc
    refine lv_aload_n hx hb dX7_factors_18 rfl (lv_at hl 0 rfl) ?_
    refine lv_iload_n hx hb dX7_factors_19 rfl (lv_at hl 1 rfl) ?_
    refine lv_iload_n hx hb dX7_factors_20 rfl (lv_at hl 2 rfl) ?_
    refine lv_iload_n hx hb dX7_factors_21 rfl (lv_at hl 3 rfl) ?_
    refine cl_X7_169 hC hD hH hv7.2 hv7.1 ⟨Nat.le_of_ble_eq_true rfl, Nat.le_of_ble_eq_true rfl⟩ ⟨(Nat.le_of_ble_eq_true rfl), (Nat.le_of_ble_eq_true rfl)⟩ ⟨(Nat.le_of_ble_eq_true rfl), (Nat.le_of_ble_eq_true rfl)⟩ hl.1 (Nat.le_of_ble_eq_true rfl) dX7_factors_22 (fun r8 w9 H locs hH hv10 => ?_)
    exact sj_retI hC hD.2 hH hr rfl hv10 ⟨(Nat.le_of_ble_eq_true rfl), (Nat.le_of_ble_eq_true rfl)⟩ dX7_factors_25
  · have hv11 := hv6.2 hc
    refine lv_iconst (v := 0) hx hb dX7_factors_14 (by decide) ?_
    refine lv_goto (tgt := 25) hx hb dX7_factors_15 (by decide) ?_
    exact sj_retI hC hD.2 hH hr rfl hv11 ⟨(Nat.le_of_ble_eq_true rfl), (Nat.le_of_ble_eq_true rfl)⟩ dX7_factors_25
section SJL_X7_factors
variable {p : Program} {l : Launch} {e : Env} {R : Room} {s : State} {m : MethodId} {args : Array Value} {below : List Frame} {meth : Method} {c : Code} {H : Heap} {locs : List Loc} {cells slots : Nat} {Q : State → Prop} {cc : ByteArray} {pc : Nat} {ls : Array Slot} {rest : List Value} {G : sj_G} {nL : Nat} {w : sj_W}
theorem cg_L_242 {b : Nat} {b0 : Int32} {b1 : Int32} {b2 : Int32} {Qi : Int32 → sj_W → Prop} (hC : sj_C G p l s m args c cc RL nL) (hH : sj_H G s w H locs) (hv : vc_X7_factors b b0 b1 b2 w Qi) (hT : sj_T w b = 6) (hR : rm_X7_factors.frames + 1 ≤ R.frames ∧ 8 + (4 + 11) + rm_X7_factors.locals ≤ R.locals) (hf : cells + 0 ≤ R.cells ∧ slots + 0 ≤ R.slots) (hls : ls.size = nL) (hW : (rest.map fun v => v.category).sum ≤ 8) (hdg : decode cc pc = .ok (.invokevirtual 242, 3)) (kk : ∀ (r : Int32) (w1 : sj_W) (H : Heap) (locs : List Loc), sj_H G s w1 H locs → Qi r w1 → W p l e R s m args below meth c H locs (cells + 0) (slots + 0) Q (F0 m (pc + 3) ls (.int r :: rest))) : W p l e R s m args below meth c H locs cells slots Q (F0 m pc ls (.int b2 :: .int b1 :: .int b0 :: .ref b :: rest)) :=
  sj_xI hH (sj_runV (n := 3) hC hH (As := [.int b0, .int b1, .int b2]) (wk_X7_factors G l hC.2.2.2.2.2.2 b b0 b1 b2 w Qi (fun _ _ => False) hv) (ci := 5) rfl (by decide) hT mb_956 mb_957 mb_958 mb_5 mb_959 (by decide +kernel) hR hf rfl hls hW hdg) (fun _ _ _ _ _ _ _ h _ _ _ => h.elim) kk
end SJL_X7_factors

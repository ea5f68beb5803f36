abbrev rm_X7_fits : Room := { frames := 3, cells := 0, slots := 0, locals := 64 }
def vc_X7_fits (self : Nat) (a1 : Int32) (a2 : Int32) (w : sj_W) (Q : Int32 → sj_W → Prop) : Prop := vc_X7_isKind a1 w (fun r1 w2 => sj_jn2 (fun (E4 : Int32 → Nat → sj_W → Prop) => ((¬ r1 = 0 → vc_X7_isSpan a2 w2 (fun r11 w12 => ((r11 = 0 → E4 2 self w12) ∧ (¬ r11 = 0 → E4 0 self w12)))) ∧ (r1 = 0 → E4 1 self w2))) (fun (y0_24 : Int32) (y1_24 : Nat) (w_24 : sj_W) => sj_T w_24 y1_24 = 6 ∧ vc_X7_fails y1_24 y0_24 w_24 (fun r17 w18 => ((¬ r17 = 0 → Q 0 w18) ∧ (r17 = 0 → sj_T w18 self = 6 ∧ vc_X7_isFit self a1 a2 w18 (fun r22 w23 => ((r22 = 0 → Q 0 w23) ∧ (¬ r22 = 0 → Q 1 w23))))))))
set_option maxHeartbeats 4000000 in
set_option maxRecDepth 100000 in
theorem wk_X7_fits (G : sj_G) (l : Launch) (hlt : l.stackTraces = false) (self : Nat) (a1 : Int32) (a2 : Int32) (w : sj_W) (Q : Int32 → sj_W → Prop) (QX : String → sj_W → Prop) (hv : vc_X7_fits self a1 a2 w Q) : sj_MI G l yX7_fits (sj_ws yX7_fits cX7_fits 3 (some .boolean)) rm_X7_fits [.ref self, .int a1, .int a2] w Q QX := by
  refine sj_of (by decide +kernel) (Nat.le_of_ble_eq_true rfl) hlt ?_
  intro p e s m args below meth c ls hC hD hr hin hH hl
  have hx := hC.1
  have hb := hC.2.1
  have hl : lv_has ls 3 [(0, .ref self), (1, .int a1), (2, .int a2)] := hl
  refine lv_aload_n hx hb dX7_fits_0 rfl (lv_at hl 0 rfl) ?_
  refine lv_iload_n hx hb dX7_fits_1 rfl (lv_at hl 1 rfl) ?_
  refine cl_X7_57 hC hD hH hv ⟨Nat.le_of_ble_eq_true rfl, Nat.le_of_ble_eq_true rfl⟩ ⟨(Nat.le_of_ble_eq_true rfl), (Nat.le_of_ble_eq_true rfl)⟩ ⟨(Nat.le_of_ble_eq_true rfl), (Nat.le_of_ble_eq_true rfl)⟩ hl.1 (Nat.le_of_ble_eq_true rfl) dX7_fits_2 (fun r1 w2 H locs hH hv3 => ?_)
  obtain ⟨E4, hE5, hv8⟩ := sj_jn2_e hv3
  have hJ6 : ∀ (y0_24 : Int32) (y1_24 : Nat) (w_24 : sj_W) (H : Heap) (locs : List Loc) (ls : Array Slot), lv_has ls 3 [(0, .ref self), (1, .int a1), (2, .int a2)] → sj_H G s w_24 H locs → E4 y0_24 y1_24 w_24 → W p l e rm_X7_fits s m args below meth c H locs 0 0 (sj_MQ G below (va_Qi Q (sj_B G) (sj_F G)) QX args s rm_X7_fits) (F0 m 24 ls [.int y0_24, .ref y1_24]) := by
    intro y0_24 y1_24 w_24 H locs ls hl hH hv9
    rw [hE5] at hv9
    refine cl_X7_73 hC hD hH hv9.2 hv9.1 ⟨Nat.le_of_ble_eq_true rfl, Nat.le_of_ble_eq_true rfl⟩ ⟨(Nat.le_of_ble_eq_true rfl), (Nat.le_of_ble_eq_true rfl)⟩ ⟨(Nat.le_of_ble_eq_true rfl), (Nat.le_of_ble_eq_true rfl)⟩ hl.1 (Nat.le_of_ble_eq_true rfl) dX7_fits_24 (fun r17 w18 H locs hH hv19 => ?_)
    refine lv_if_ne (tgt := 43) hx hb dX7_fits_27 (by decide) (fun hc => ?_) (fun hc => ?_)
    · have hv20 := hv19.1 hc
      refine lv_iconst (v := 0) hx hb dX7_fits_43 (by decide) ?_
      exact sj_retI hC hD.2 hH hr rfl hv20 ⟨(Nat.le_of_ble_eq_true rfl), (Nat.le_of_ble_eq_true rfl)⟩ dX7_fits_44
    · have hv21 := hv19.2 hc
      refine lv_aload_n hx hb dX7_fits_30 rfl (lv_at hl 0 rfl) ?_
      refine lv_iload_n hx hb dX7_fits_31 rfl (lv_at hl 1 rfl) ?_
      refine lv_iload_n hx hb dX7_fits_32 rfl (lv_at hl 2 rfl) ?_
      refine cl_X7_110 hC hD hH hv21.2 hv21.1 ⟨Nat.le_of_ble_eq_true rfl, Nat.le_of_ble_eq_true rfl⟩ ⟨(Nat.le_of_ble_eq_true rfl), (Nat.le_of_ble_eq_true rfl)⟩ ⟨(Nat.le_of_ble_eq_true rfl), (Nat.le_of_ble_eq_true rfl)⟩ hl.1 (Nat.le_of_ble_eq_true rfl) dX7_fits_33 (fun r22 w23 H locs hH hv24 => ?_)
      refine lv_if_eq (tgt := 43) hx hb dX7_fits_36 (by decide) (fun hc => ?_) (fun hc => ?_)
      · have hv25 := hv24.1 hc
        refine lv_iconst (v := 0) hx hb dX7_fits_43 (by decide) ?_
        exact sj_retI hC hD.2 hH hr rfl hv25 ⟨(Nat.le_of_ble_eq_true rfl), (Nat.le_of_ble_eq_true rfl)⟩ dX7_fits_44
      · have hv26 := hv24.2 hc
        refine lv_iconst (v := 1) hx hb dX7_fits_39 (by decide) ?_
        refine lv_goto (tgt := 44) hx hb dX7_fits_40 (by decide) ?_
        exact sj_retI hC hD.2 hH hr rfl hv26 ⟨(Nat.le_of_ble_eq_true rfl), (Nat.le_of_ble_eq_true rfl)⟩ dX7_fits_44
  clear hE5
  refine lv_if_ne (tgt := 12) hx hb dX7_fits_5 (by decide) (fun hc => ?_) (fun hc => ?_)
  · have hv10 := hv8.1 hc
    refine lv_iload_n hx hb dX7_fits_12 rfl (lv_at hl 2 rfl) ?_
    refine cl_X7_105 hC hD hH hv10 ⟨Nat.le_of_ble_eq_true rfl, Nat.le_of_ble_eq_true rfl⟩ ⟨(Nat.le_of_ble_eq_true rfl), (Nat.le_of_ble_eq_true rfl)⟩ ⟨(Nat.le_of_ble_eq_true rfl), (Nat.le_of_ble_eq_true rfl)⟩ hl.1 (Nat.le_of_ble_eq_true rfl) dX7_fits_13 (fun r11 w12 H locs hH hv13 => ?_)
    refine lv_if_eq (tgt := 23) hx hb dX7_fits_16 (by decide) (fun hc => ?_) (fun hc => ?_)
    · have hv14 := hv13.1 hc
      refine lv_iconst (v := 2) hx hb dX7_fits_23 (by decide) ?_
      exact hJ6 2 self w12 _ _ _ (lv_sub hl [0, 1, 2] rfl) hH hv14
    · have hv15 := hv13.2 hc
      refine lv_iconst (v := 0) hx hb dX7_fits_19 (by decide) ?_
      refine lv_goto (tgt := 24) hx hb dX7_fits_20 (by decide) ?_
      exact hJ6 0 self w12 _ _ _ (lv_sub hl [0, 1, 2] rfl) hH hv15
  · have hv16 := hv8.2 hc
    refine lv_iconst (v := 1) hx hb dX7_fits_8 (by decide) ?_
    refine lv_goto (tgt := 24) hx hb dX7_fits_9 (by decide) ?_
    exact hJ6 1 self w2 _ _ _ (lv_sub hl [0, 1, 2] rfl) hH hv16
section SJL_X7_fits
variable {p : Program} {l : Launch} {e : Env} {R : Room} {s : State} {m : MethodId} {args : Array Value} {below : List Frame} {meth : Method} {c : Code} {H : Heap} {locs : List Loc} {cells slots : Nat} {Q : State → Prop} {cc : ByteArray} {pc : Nat} {ls : Array Slot} {rest : List Value} {G : sj_G} {nL : Nat} {w : sj_W}
theorem cg_L_189 {b : Nat} {b0 : Int32} {b1 : Int32} {Qi : Int32 → sj_W → Prop} (hC : sj_C G p l s m args c cc RL nL) (hH : sj_H G s w H locs) (hv : vc_X7_fits b b0 b1 w Qi) (hT : sj_T w b = 6) (hR : rm_X7_fits.frames + 1 ≤ R.frames ∧ 8 + (3 + 11) + rm_X7_fits.locals ≤ R.locals) (hf : cells + 0 ≤ R.cells ∧ slots + 0 ≤ R.slots) (hls : ls.size = nL) (hW : (rest.map fun v => v.category).sum ≤ 8) (hdg : decode cc pc = .ok (.invokevirtual 189, 3)) (kk : ∀ (r : Int32) (w1 : sj_W) (H : Heap) (locs : List Loc), sj_H G s w1 H locs → Qi r w1 → W p l e R s m args below meth c H locs (cells + 0) (slots + 0) Q (F0 m (pc + 3) ls (.int r :: rest))) : W p l e R s m args below meth c H locs cells slots Q (F0 m pc ls (.int b1 :: .int b0 :: .ref b :: rest)) :=
  sj_xI hH (sj_runV (n := 2) hC hH (As := [.int b0, .int b1]) (wk_X7_fits G l hC.2.2.2.2.2.2 b b0 b1 w Qi (fun _ _ => False) hv) (ci := 5) rfl (by decide) hT mb_839 mb_840 mb_841 mb_5 mb_842 (by decide +kernel) hR hf rfl hls hW hdg) (fun _ _ _ _ _ _ _ h _ _ _ => h.elim) kk
end SJL_X7_fits
abbrev rm_X7_init : Room := { frames := 1, cells := 6, slots := 576, locals := 12 }
def vc_X7_init (self : Nat) (w : sj_W) (Q : sj_W → Prop) : Prop := ∀ q1 : Nat, q1 ≠ 0 → sj_T w q1 = 0 → ∀ w2 : sj_W, w2 = sj_nw w q1 8 512 → sj_T w2 self = 6 ∧ q1 ≠ 0 ∧ ∀ w6 : sj_W, w6 = sj_sA w2 40 self q1 → ∀ q8 : Nat, q8 ≠ 0 → sj_T w6 q8 = 0 → ∀ w9 : sj_W, w9 = sj_nw w6 q8 7 16 → sj_T w9 self = 6 ∧ q8 ≠ 0 ∧ ∀ w13 : sj_W, w13 = sj_sA w9 41 self q8 → ∀ q15 : Nat, q15 ≠ 0 → sj_T w13 q15 = 0 → ∀ w16 : sj_W, w16 = sj_nw w13 q15 7 12 → sj_T w16 self = 6 ∧ q15 ≠ 0 ∧ ∀ w20 : sj_W, w20 = sj_sA w16 42 self q15 → ∀ q22 : Nat, q22 ≠ 0 → sj_T w20 q22 = 0 → ∀ w23 : sj_W, w23 = sj_nw w20 q22 7 12 → sj_T w23 self = 6 ∧ q22 ≠ 0 ∧ ∀ w27 : sj_W, w27 = sj_sA w23 43 self q22 → ∀ q29 : Nat, q29 ≠ 0 → sj_T w27 q29 = 0 → ∀ w30 : sj_W, w30 = sj_nw w27 q29 7 12 → sj_T w30 self = 6 ∧ q29 ≠ 0 ∧ ∀ w34 : sj_W, w34 = sj_sA w30 44 self q29 → ∀ q36 : Nat, q36 ≠ 0 → sj_T w34 q36 = 0 → ∀ w37 : sj_W, w37 = sj_nw w34 q36 7 12 → sj_T w37 self = 6 ∧ q36 ≠ 0 ∧ ∀ w41 : sj_W, w41 = sj_sA w37 45 self q36 → Q w41
set_option maxHeartbeats 4000000 in
set_option maxRecDepth 100000 in
theorem wk_X7_init (G : sj_G) (l : Launch) (hlt : l.stackTraces = false) (self : Nat) (w : sj_W) (Q : sj_W → Prop) (QX : String → sj_W → Prop) (hv : vc_X7_init self w Q) : sj_MV G l yX7_init (sj_ws yX7_init cX7_init 1 none) rm_X7_init [.ref self] w Q QX := by
  refine sj_of (by decide +kernel) (Nat.le_of_ble_eq_true rfl) hlt ?_
  intro p e s m args below meth c ls hC hD hr hin hH hl
  have hx := hC.1
  have hb := hC.2.1
  have hl : lv_has ls 1 [(0, .ref self)] := hl
  refine lv_aload_n hx hb dX7_init_0 rfl (lv_at hl 0 rfl) ?_
  refine W.objInit hx hb hC.2.2.2.1 (hC.2.2.2.2.1 _ mb_709) (hC.2.2.2.2.1 _ mb_22) (hC.2.2.2.2.1 _ mb_23) rfl (by rw [hC.2.2.1]; exact hl.1) rfl dX7_init_1 (Nat.le_of_ble_eq_true rfl) (Nat.le_of_ble_eq_true rfl) ?_
  refine W.eq (g2 := F0 m 4 ls []) rfl ?_
  refine lv_aload_n hx hb dX7_init_4 rfl (lv_at hl 0 rfl) ?_
  refine lv_sipush (v := 512) hx hb dX7_init_5 (by decide) ?_
  refine sj_newJ hC hH mb_70 (by decide) rfl (by decide) (Nat.le_of_ble_eq_true rfl) (Nat.le_of_ble_eq_true rfl) dX7_init_8 (fun q1 w2 H h4 h5 e3 hH => ?_)
  refine pf_X7_7 hC hH (hv q1 h4 h5 w2 e3).1 hin (hv q1 h4 h5 w2 e3).2.1 dX7_init_10 (fun w6 H locs e7 hH => ?_)
  refine lv_aload_n hx hb dX7_init_13 rfl (lv_at hl 0 rfl) ?_
  refine lv_bipush (v := 16) hx hb dX7_init_14 (by decide) ?_
  refine sj_newI hC hH mb_69 (by decide) rfl (by decide) (Nat.le_of_ble_eq_true rfl) (Nat.le_of_ble_eq_true rfl) dX7_init_16 (fun q8 w9 H h11 h12 e10 hH => ?_)
  refine pf_X7_13 hC hH (((hv q1 h4 h5 w2 e3).2.2 w6 e7) q8 h11 h12 w9 e10).1 hin (((hv q1 h4 h5 w2 e3).2.2 w6 e7) q8 h11 h12 w9 e10).2.1 dX7_init_18 (fun w13 H locs e14 hH => ?_)
  refine lv_aload_n hx hb dX7_init_21 rfl (lv_at hl 0 rfl) ?_
  refine lv_bipush (v := 12) hx hb dX7_init_22 (by decide) ?_
  refine sj_newI hC hH mb_69 (by decide) rfl (by decide) (Nat.le_of_ble_eq_true rfl) (Nat.le_of_ble_eq_true rfl) dX7_init_24 (fun q15 w16 H h18 h19 e17 hH => ?_)
  refine pf_X7_17 hC hH (((((hv q1 h4 h5 w2 e3).2.2 w6 e7) q8 h11 h12 w9 e10).2.2 w13 e14) q15 h18 h19 w16 e17).1 hin (((((hv q1 h4 h5 w2 e3).2.2 w6 e7) q8 h11 h12 w9 e10).2.2 w13 e14) q15 h18 h19 w16 e17).2.1 dX7_init_26 (fun w20 H locs e21 hH => ?_)
  refine lv_aload_n hx hb dX7_init_29 rfl (lv_at hl 0 rfl) ?_
  refine lv_bipush (v := 12) hx hb dX7_init_30 (by decide) ?_
  refine sj_newI hC hH mb_69 (by decide) rfl (by decide) (Nat.le_of_ble_eq_true rfl) (Nat.le_of_ble_eq_true rfl) dX7_init_32 (fun q22 w23 H h25 h26 e24 hH => ?_)
  refine pf_X7_20 hC hH (((((((hv q1 h4 h5 w2 e3).2.2 w6 e7) q8 h11 h12 w9 e10).2.2 w13 e14) q15 h18 h19 w16 e17).2.2 w20 e21) q22 h25 h26 w23 e24).1 hin (((((((hv q1 h4 h5 w2 e3).2.2 w6 e7) q8 h11 h12 w9 e10).2.2 w13 e14) q15 h18 h19 w16 e17).2.2 w20 e21) q22 h25 h26 w23 e24).2.1 dX7_init_34 (fun w27 H locs e28 hH => ?_)
  refine lv_aload_n hx hb dX7_init_37 rfl (lv_at hl 0 rfl) ?_
  refine lv_bipush (v := 12) hx hb dX7_init_38 (by decide) ?_
  refine sj_newI hC hH mb_69 (by decide) rfl (by decide) (Nat.le_of_ble_eq_true rfl) (Nat.le_of_ble_eq_true rfl) dX7_init_40 (fun q29 w30 H h32 h33 e31 hH => ?_)
  refine pf_X7_23 hC hH (((((((((hv q1 h4 h5 w2 e3).2.2 w6 e7) q8 h11 h12 w9 e10).2.2 w13 e14) q15 h18 h19 w16 e17).2.2 w20 e21) q22 h25 h26 w23 e24).2.2 w27 e28) q29 h32 h33 w30 e31).1 hin (((((((((hv q1 h4 h5 w2 e3).2.2 w6 e7) q8 h11 h12 w9 e10).2.2 w13 e14) q15 h18 h19 w16 e17).2.2 w20 e21) q22 h25 h26 w23 e24).2.2 w27 e28) q29 h32 h33 w30 e31).2.1 dX7_init_42 (fun w34 H locs e35 hH => ?_)
  refine lv_aload_n hx hb dX7_init_45 rfl (lv_at hl 0 rfl) ?_
  refine lv_bipush (v := 12) hx hb dX7_init_46 (by decide) ?_
  refine sj_newI hC hH mb_69 (by decide) rfl (by decide) (Nat.le_of_ble_eq_true rfl) (Nat.le_of_ble_eq_true rfl) dX7_init_48 (fun q36 w37 H h39 h40 e38 hH => ?_)
  refine pf_X7_26 hC hH (((((((((((hv q1 h4 h5 w2 e3).2.2 w6 e7) q8 h11 h12 w9 e10).2.2 w13 e14) q15 h18 h19 w16 e17).2.2 w20 e21) q22 h25 h26 w23 e24).2.2 w27 e28) q29 h32 h33 w30 e31).2.2 w34 e35) q36 h39 h40 w37 e38).1 hin (((((((((((hv q1 h4 h5 w2 e3).2.2 w6 e7) q8 h11 h12 w9 e10).2.2 w13 e14) q15 h18 h19 w16 e17).2.2 w20 e21) q22 h25 h26 w23 e24).2.2 w27 e28) q29 h32 h33 w30 e31).2.2 w34 e35) q36 h39 h40 w37 e38).2.1 dX7_init_50 (fun w41 H locs e42 hH => ?_)
  exact sj_retV hC hD.2 hH hr ((((((((((((hv q1 h4 h5 w2 e3).2.2 w6 e7) q8 h11 h12 w9 e10).2.2 w13 e14) q15 h18 h19 w16 e17).2.2 w20 e21) q22 h25 h26 w23 e24).2.2 w27 e28) q29 h32 h33 w30 e31).2.2 w34 e35) q36 h39 h40 w37 e38).2.2 w41 e42) ⟨(Nat.le_of_ble_eq_true rfl), (Nat.le_of_ble_eq_true rfl)⟩ dX7_init_53
section SJL_X7_init
variable {p : Program} {l : Launch} {e : Env} {R : Room} {s : State} {m : MethodId} {args : Array Value} {below : List Frame} {meth : Method} {c : Code} {H : Heap} {locs : List Loc} {cells slots : Nat} {Q : State → Prop} {cc : ByteArray} {pc : Nat} {ls : Array Slot} {rest : List Value} {G : sj_G} {nL : Nat} {w : sj_W}
theorem cg_L_137 {b : Nat} {Qi : sj_W → Prop} (hC : sj_C G p l s m args c cc RL nL) (hH : sj_H G s w H locs) (hv : vc_X7_init b w Qi) (hR : rm_X7_init.frames + 1 ≤ R.frames ∧ 8 + (1 + 11) + rm_X7_init.locals ≤ R.locals) (hf : cells + 6 ≤ R.cells ∧ slots + 576 ≤ R.slots) (hls : ls.size = nL) (hW : (rest.map fun v => v.category).sum ≤ 8) (hdg : decode cc pc = .ok (.invokespecial 137, 3)) (kk : ∀ (w1 : sj_W) (H : Heap) (locs : List Loc), sj_H G s w1 H locs → Qi w1 → W p l e R s m args below meth c H locs (cells + 6) (slots + 576) Q (F0 m (pc + 3) ls rest)) : W p l e R s m args below meth c H locs cells slots Q (F0 m pc ls (.ref b :: rest)) :=
  sj_xV hH (sj_runI (n := 0) hC hH (As := []) (wk_X7_init G l hC.2.2.2.2.2.2 b w Qi (fun _ _ => False) hv) mb_706 mb_707 mb_5 mb_708 rfl (by decide +kernel) hR hf rfl hls hW hdg) (fun _ _ _ _ _ _ _ h _ _ _ => h.elim) kk
end SJL_X7_init
abbrev rm_X7_is : Room := { frames := 2, cells := 0, slots := 0, locals := 43 }
def vb_X7_is_11 (f0 : Nat) (f1 : Int32) (f2 : Int32) (f3 : Int32) (f4 : Int32) (Q : Int32 → sj_W → Prop) (E : sj_W → Prop) (K : Int32 → sj_W → Prop) (v5 : Int32) (w : sj_W) : Prop := ((f4 ≤ v5 → E w) ∧ (¬ f4 ≤ v5 → sj_T w f0 = 6 ∧ sj_A w 40 f0 ≠ 0 ∧ sj_T w f0 = 6 ∧ vc_X7_at f0 f1 f2 v5 w (fun r6 w7 => sj_T w7 (sj_A w 40 f0) = 8 ∧ vp_in r6 (sj_N w7 (sj_A w 40 f0)) ∧ sj_T w7 f0 = 6 ∧ sj_A w7 40 f0 ≠ 0 ∧ sj_T w7 f0 = 6 ∧ vc_X7_at f0 f1 f2 (v5 - f3) w7 (fun r9 w10 => sj_T w10 (sj_A w7 40 f0) = 8 ∧ vp_in r9 (sj_N w10 (sj_A w7 40 f0)) ∧ (((lg_cmp (sj_l w7 (sj_A w 40 f0) r6.toNatClampNeg) (sj_l w10 (sj_A w7 40 f0) r9.toNatClampNeg)) = 0 → K (v5 + 1) w10) ∧ (¬ (lg_cmp (sj_l w7 (sj_A w 40 f0) r6.toNatClampNeg) (sj_l w10 (sj_A w7 40 f0) r9.toNatClampNeg)) = 0 → Q 0 w10))))))
def vc_X7_is (self : Nat) (a1 : Int32) (a2 : Int32) (a3 : Int32) (w : sj_W) (Q : Int32 → sj_W → Prop) : Prop := sj_T w self = 6 ∧ vc_X7_size self a1 a2 w (fun r1 w2 => sj_lp1 (vb_X7_is_11 self a1 a2 a3 r1 Q (fun w_11 => Q 1 w_11)) 64 a3 w2)
set_option maxHeartbeats 4000000 in
set_option maxRecDepth 100000 in
theorem wl_X7_is_11 {p : Program} {l : Launch} {e : Env} {s : State} {m : MethodId} {args : Array Value} {below : List Frame} {meth : Method} {c : Code} {G : sj_G} {f0 : Nat} {f1 : Int32} {f2 : Int32} {f3 : Int32} {f4 : Int32} {Q : Int32 → sj_W → Prop} {QX : String → sj_W → Prop} {E : sj_W → Prop} (hC : sj_C G p l s m args c cX7_is RX7 6) (hD : sj_D meth c) (hr : meth.sig.returnType = (some .boolean)) (hin : meth.name = "is") (hE : ∀ (w : sj_W) (H : Heap) (locs : List Loc) (ls : Array Slot), lv_has ls 6 [] → sj_H G s w H locs → E w → W p l e rm_X7_is s m args below meth c H locs 0 0 (sj_MQ G below (va_Qi Q (sj_B G) (sj_F G)) QX args s rm_X7_is) (F0 m 58 ls [])) : ∀ (n : Nat) (v5 : Int32) (w : sj_W) (H : Heap) (locs : List Loc) (ls : Array Slot), lv_has ls 6 [(0, .ref f0), (1, .int f1), (2, .int f2), (3, .int f3), (4, .int f4), (5, .int v5)] → sj_H G s w H locs → sj_lp1 (vb_X7_is_11 f0 f1 f2 f3 f4 Q E) n v5 w → W p l e rm_X7_is s m args below meth c H locs 0 0 (sj_MQ G below (va_Qi Q (sj_B G) (sj_F G)) QX args s rm_X7_is) (F0 m 11 ls []) := by
  have hx := hC.1
  have hb := hC.2.1
  intro n
  induction n with
  | zero =>
    intro v5 w H locs ls _ _ hv
    exact hv.elim
  | succ n ih =>
    intro v5 w H locs ls hl hH hv
    have hv : vb_X7_is_11 f0 f1 f2 f3 f4 Q E (sj_lp1 (vb_X7_is_11 f0 f1 f2 f3 f4 Q E) n) v5 w := hv
    have hc1 : rm_X7_is.cells = 0 := rfl
    have hc2 : rm_X7_is.slots = 0 := rfl
    refine lv_iload hx hb dX7_is_11 (lv_at hl 5 rfl) ?_
    refine lv_iload hx hb dX7_is_13 (lv_at hl 4 rfl) ?_
    refine lv_icmp_ge (tgt := 58) hx hb dX7_is_15 (by decide) (fun hc => ?_) (fun hc => ?_)
    · have hv4 := hv.1 hc
      exact hE  w _ _ _ (lv_sub hl [] rfl) hH hv4
    · have hv5 := hv.2 hc
      refine lv_aload_n hx hb dX7_is_18 rfl (lv_at hl 0 rfl) ?_
      refine gf_X7_7 hC hH hv5.1 hv5.2.1 dX7_is_19 ?_
      refine lv_aload_n hx hb dX7_is_22 rfl (lv_at hl 0 rfl) ?_
      refine lv_iload_n hx hb dX7_is_23 rfl (lv_at hl 1 rfl) ?_
      refine lv_iload_n hx hb dX7_is_24 rfl (lv_at hl 2 rfl) ?_
      refine lv_iload hx hb dX7_is_25 (lv_at hl 5 rfl) ?_
      refine cl_X7_76 hC hD hH hv5.2.2.2 hv5.2.2.1 ⟨Nat.le_of_ble_eq_true rfl, Nat.le_of_ble_eq_true rfl⟩ ⟨(Nat.le_of_ble_eq_true rfl), (Nat.le_of_ble_eq_true rfl)⟩ ⟨(Nat.le_of_ble_eq_true rfl), (Nat.le_of_ble_eq_true rfl)⟩ hl.1 (Nat.le_of_ble_eq_true rfl) dX7_is_27 (fun r6 w7 H locs hH hv8 => ?_)
      refine sj_lald hC hH hv8.1 hv8.2.1 dX7_is_30 ?_
      refine lv_aload_n hx hb dX7_is_31 rfl (lv_at hl 0 rfl) ?_
      refine gf_X7_7 hC hH hv8.2.2.1 hv8.2.2.2.1 dX7_is_32 ?_
      refine lv_aload_n hx hb dX7_is_35 rfl (lv_at hl 0 rfl) ?_
      refine lv_iload_n hx hb dX7_is_36 rfl (lv_at hl 1 rfl) ?_
      refine lv_iload_n hx hb dX7_is_37 rfl (lv_at hl 2 rfl) ?_
      refine lv_iload hx hb dX7_is_38 (lv_at hl 5 rfl) ?_
      refine lv_iload_n hx hb dX7_is_40 rfl (lv_at hl 3 rfl) ?_
      refine lv_isub hx hb dX7_is_41 ?_
      refine cl_X7_76 hC hD hH hv8.2.2.2.2.2 hv8.2.2.2.2.1 ⟨Nat.le_of_ble_eq_true rfl, Nat.le_of_ble_eq_true rfl⟩ ⟨(Nat.le_of_ble_eq_true rfl), (Nat.le_of_ble_eq_true rfl)⟩ ⟨(Nat.le_of_ble_eq_true rfl), (Nat.le_of_ble_eq_true rfl)⟩ hl.1 (Nat.le_of_ble_eq_true rfl) dX7_is_42 (fun r9 w10 H locs hH hv11 => ?_)
      refine sj_lald hC hH hv11.1 hv11.2.1 dX7_is_45 ?_
      refine W.lcmp hx hb dX7_is_46 ?_
      refine lv_if_eq (tgt := 52) hx hb dX7_is_47 (by decide) (fun hc => ?_) (fun hc => ?_)
      · have hv12 := hv11.2.2.1 hc
        refine lv_iinc (v := (v5 + 1)) (lv' := [(5, .int (v5 + 1)), (0, .ref f0), (1, .int f1), (2, .int f2), (3, .int f3), (4, .int f4)]) hx hb dX7_is_52 hl (k := 5) rfl rfl (by decide) rfl (fun ls hl => ?_)
        refine lv_goto (tgt := 11) hx hb dX7_is_55 (by decide) ?_
        exact ih (v5 + 1) w10 _ _ _ (lv_sub hl [1, 2, 3, 4, 5, 0] rfl) hH hv12
      · have hv13 := hv11.2.2.2 hc
        refine lv_iconst (v := 0) hx hb dX7_is_50 (by decide) ?_
        exact sj_retI hC hD.2 hH hr rfl hv13 ⟨(Nat.le_of_ble_eq_true rfl), (Nat.le_of_ble_eq_true rfl)⟩ dX7_is_51
set_option maxHeartbeats 4000000 in
set_option maxRecDepth 100000 in
theorem wk_X7_is (G : sj_G) (l : Launch) (hlt : l.stackTraces = false) (self : Nat) (a1 : Int32) (a2 : Int32) (a3 : Int32) (w : sj_W) (Q : Int32 → sj_W → Prop) (QX : String → sj_W → Prop) (hv : vc_X7_is self a1 a2 a3 w Q) : sj_MI G l yX7_is (sj_ws yX7_is cX7_is 6 (some .boolean)) rm_X7_is [.ref self, .int a1, .int a2, .int a3] w Q QX := by
  refine sj_of (by decide +kernel) (Nat.le_of_ble_eq_true rfl) hlt ?_
  intro p e s m args below meth c ls hC hD hr hin hH hl
  have hx := hC.1
  have hb := hC.2.1
  have hl : lv_has ls 6 [(0, .ref self), (1, .int a1), (2, .int a2), (3, .int a3)] := hl
  refine lv_aload_n hx hb dX7_is_0 rfl (lv_at hl 0 rfl) ?_
  refine lv_iload_n hx hb dX7_is_1 rfl (lv_at hl 1 rfl) ?_
  refine lv_iload_n hx hb dX7_is_2 rfl (lv_at hl 2 rfl) ?_
  refine cl_X7_69 hC hD hH hv.2 hv.1 ⟨Nat.le_of_ble_eq_true rfl, Nat.le_of_ble_eq_true rfl⟩ ⟨(Nat.le_of_ble_eq_true rfl), (Nat.le_of_ble_eq_true rfl)⟩ ⟨(Nat.le_of_ble_eq_true rfl), (Nat.le_of_ble_eq_true rfl)⟩ hl.1 (Nat.le_of_ble_eq_true rfl) dX7_is_3 (fun r1 w2 H locs hH hv3 => ?_)
  refine lv_istore (lv' := [(4, .int r1), (0, .ref self), (1, .int a1), (2, .int a2), (3, .int a3)]) hx hb dX7_is_6 hl (by decide) rfl (fun ls hl => ?_)
  refine lv_iload_n hx hb dX7_is_8 rfl (lv_at hl 4 rfl) ?_
  refine lv_istore (lv' := [(5, .int a3), (4, .int r1), (0, .ref self), (1, .int a1), (2, .int a2), (3, .int a3)]) hx hb dX7_is_9 hl (by decide) rfl (fun ls hl => ?_)
  refine wl_X7_is_11 hC hD hr hin (fun w_11 H locs ls hl hH hv14 => ?_) 64 a3 w2 _ _ _ (lv_sub hl [2, 3, 4, 5, 1, 0] rfl) hH hv3
  refine lv_iconst (v := 1) hx hb dX7_is_58 (by decide) ?_
  exact sj_retI hC hD.2 hH hr rfl hv14 ⟨(Nat.le_of_ble_eq_true rfl), (Nat.le_of_ble_eq_true rfl)⟩ dX7_is_59
section SJL_X7_is
variable {p : Program} {l : Launch} {e : Env} {R : Room} {s : State} {m : MethodId} {args : Array Value} {below : List Frame} {meth : Method} {c : Code} {H : Heap} {locs : List Loc} {cells slots : Nat} {Q : State → Prop} {cc : ByteArray} {pc : Nat} {ls : Array Slot} {rest : List Value} {G : sj_G} {nL : Nat} {w : sj_W}
theorem cl_X7_158 {rmM : Room} {QcM : Array Value → State → Outcome → State → Prop} {QX : String → sj_W → Prop} {b : Nat} {b0 : Int32} {b1 : Int32} {b2 : Int32} {Qi : Int32 → sj_W → Prop} (hC : sj_C G p l s m args c cc RX7 nL) (hD : sj_D meth c) (hH : sj_H G s w H locs) (hv : vc_X7_is b b0 b1 b2 w Qi) (hT : sj_T w b = 6) (hR : rm_X7_is.frames + 1 ≤ R.frames ∧ 8 + (6 + 11) + rm_X7_is.locals ≤ R.locals) (hf : cells + 0 ≤ R.cells ∧ slots + 0 ≤ R.slots) (hfM : cells + 0 ≤ rmM.cells ∧ slots + 0 ≤ rmM.slots) (hls : ls.size = nL) (hW : (rest.map fun v => v.category).sum ≤ 8) (hdg : decode cc pc = .ok (.invokevirtual 158, 3)) (kk : ∀ (r : Int32) (w1 : sj_W) (H : Heap) (locs : List Loc), sj_H G s w1 H locs → Qi r w1 → W p l e R s m args below meth c H locs (cells + 0) (slots + 0) (sj_MQ G below QcM QX args s rmM) (F0 m (pc + 3) ls (.int r :: rest))) : W p l e R s m args below meth c H locs cells slots (sj_MQ G below QcM QX args s rmM) (F0 m pc ls (.int b2 :: .int b1 :: .int b0 :: .ref b :: rest)) :=
  sj_cI hD hH (sj_runV (n := 3) hC hH (As := [.int b0, .int b1, .int b2]) (wk_X7_is G l hC.2.2.2.2.2.2 b b0 b1 b2 w Qi QX hv) (ci := 5) rfl (by decide) hT mb_936 mb_938 mb_s40 mb_5 mb_939 (by decide +kernel) hR hf rfl hls hW hdg) hfM kk
end SJL_X7_is
abbrev rm_X7_isPeriod : Room := { frames := 3, cells := 0, slots := 0, locals := 68 }
def vc_X7_isPeriod (self : Nat) (a1 : Int32) (a2 : Int32) (a3 : Int32) (w : sj_W) (Q : Int32 → sj_W → Prop) : Prop := vc_X7_isKind a1 w (fun r1 w2 => sj_jn2 (fun (E4 : Int32 → Nat → sj_W → Prop) => ((¬ r1 = 0 → vc_X7_isRow a2 w2 (fun r11 w12 => ((r11 = 0 → E4 2 self w12) ∧ (¬ r11 = 0 → sj_T w12 self = 6 ∧ vc_X7_size self a1 a2 w12 (fun r16 w17 => vc_X7_in (a3.toInt64) 1 (r16.toInt64) w17 (fun r19 w20 => ((r19 = 0 → E4 2 self w20) ∧ (¬ r19 = 0 → E4 0 self w20)))))))) ∧ (r1 = 0 → E4 1 self w2))) (fun (y0_40 : Int32) (y1_40 : Nat) (w_40 : sj_W) => sj_T w_40 y1_40 = 6 ∧ vc_X7_fails y1_40 y0_40 w_40 (fun r25 w26 => ((¬ r25 = 0 → Q 0 w26) ∧ (r25 = 0 → sj_T w26 self = 6 ∧ vc_X7_is self a1 a2 a3 w26 (fun r30 w31 => ((r30 = 0 → Q 0 w31) ∧ (¬ r30 = 0 → Q 1 w31))))))))
set_option maxHeartbeats 4000000 in
set_option maxRecDepth 100000 in
theorem wk_X7_isPeriod (G : sj_G) (l : Launch) (hlt : l.stackTraces = false) (self : Nat) (a1 : Int32) (a2 : Int32) (a3 : Int32) (w : sj_W) (Q : Int32 → sj_W → Prop) (QX : String → sj_W → Prop) (hv : vc_X7_isPeriod self a1 a2 a3 w Q) : sj_MI G l yX7_isPeriod (sj_ws yX7_isPeriod cX7_isPeriod 4 (some .boolean)) rm_X7_isPeriod [.ref self, .int a1, .int a2, .int a3] w Q QX := by
  refine sj_of (by decide +kernel) (Nat.le_of_ble_eq_true rfl) hlt ?_
  intro p e s m args below meth c ls hC hD hr hin hH hl
  have hx := hC.1
  have hb := hC.2.1
  have hl : lv_has ls 4 [(0, .ref self), (1, .int a1), (2, .int a2), (3, .int a3)] := hl
  refine lv_aload_n hx hb dX7_isPeriod_0 rfl (lv_at hl 0 rfl) ?_
  refine lv_iload_n hx hb dX7_isPeriod_1 rfl (lv_at hl 1 rfl) ?_
  refine cl_X7_57 hC hD hH hv ⟨Nat.le_of_ble_eq_true rfl, Nat.le_of_ble_eq_true rfl⟩ ⟨(Nat.le_of_ble_eq_true rfl), (Nat.le_of_ble_eq_true rfl)⟩ ⟨(Nat.le_of_ble_eq_true rfl), (Nat.le_of_ble_eq_true rfl)⟩ hl.1 (Nat.le_of_ble_eq_true rfl) dX7_isPeriod_2 (fun r1 w2 H locs hH hv3 => ?_)
  obtain ⟨E4, hE5, hv8⟩ := sj_jn2_e hv3
  have hJ6 : ∀ (y0_40 : Int32) (y1_40 : Nat) (w_40 : sj_W) (H : Heap) (locs : List Loc) (ls : Array Slot), lv_has ls 4 [(0, .ref self), (1, .int a1), (2, .int a2), (3, .int a3)] → sj_H G s w_40 H locs → E4 y0_40 y1_40 w_40 → W p l e rm_X7_isPeriod s m args below meth c H locs 0 0 (sj_MQ G below (va_Qi Q (sj_B G) (sj_F G)) QX args s rm_X7_isPeriod) (F0 m 40 ls [.int y0_40, .ref y1_40]) := by
    intro y0_40 y1_40 w_40 H locs ls hl hH hv9
    rw [hE5] at hv9
    refine cl_X7_73 hC hD hH hv9.2 hv9.1 ⟨Nat.le_of_ble_eq_true rfl, Nat.le_of_ble_eq_true rfl⟩ ⟨(Nat.le_of_ble_eq_true rfl), (Nat.le_of_ble_eq_true rfl)⟩ ⟨(Nat.le_of_ble_eq_true rfl), (Nat.le_of_ble_eq_true rfl)⟩ hl.1 (Nat.le_of_ble_eq_true rfl) dX7_isPeriod_40 (fun r25 w26 H locs hH hv27 => ?_)
    refine lv_if_ne (tgt := 60) hx hb dX7_isPeriod_43 (by decide) (fun hc => ?_) (fun hc => ?_)
    · have hv28 := hv27.1 hc
      refine lv_iconst (v := 0) hx hb dX7_isPeriod_60 (by decide) ?_
      exact sj_retI hC hD.2 hH hr rfl hv28 ⟨(Nat.le_of_ble_eq_true rfl), (Nat.le_of_ble_eq_true rfl)⟩ dX7_isPeriod_61
    · have hv29 := hv27.2 hc
      refine lv_aload_n hx hb dX7_isPeriod_46 rfl (lv_at hl 0 rfl) ?_
      refine lv_iload_n hx hb dX7_isPeriod_47 rfl (lv_at hl 1 rfl) ?_
      refine lv_iload_n hx hb dX7_isPeriod_48 rfl (lv_at hl 2 rfl) ?_
      refine lv_iload_n hx hb dX7_isPeriod_49 rfl (lv_at hl 3 rfl) ?_
      refine cl_X7_158 hC hD hH hv29.2 hv29.1 ⟨Nat.le_of_ble_eq_true rfl, Nat.le_of_ble_eq_true rfl⟩ ⟨(Nat.le_of_ble_eq_true rfl), (Nat.le_of_ble_eq_true rfl)⟩ ⟨(Nat.le_of_ble_eq_true rfl), (Nat.le_of_ble_eq_true rfl)⟩ hl.1 (Nat.le_of_ble_eq_true rfl) dX7_isPeriod_50 (fun r30 w31 H locs hH hv32 => ?_)
      refine lv_if_eq (tgt := 60) hx hb dX7_isPeriod_53 (by decide) (fun hc => ?_) (fun hc => ?_)
      · have hv33 := hv32.1 hc
        refine lv_iconst (v := 0) hx hb dX7_isPeriod_60 (by decide) ?_
        exact sj_retI hC hD.2 hH hr rfl hv33 ⟨(Nat.le_of_ble_eq_true rfl), (Nat.le_of_ble_eq_true rfl)⟩ dX7_isPeriod_61
      · have hv34 := hv32.2 hc
        refine lv_iconst (v := 1) hx hb dX7_isPeriod_56 (by decide) ?_
        refine lv_goto (tgt := 61) hx hb dX7_isPeriod_57 (by decide) ?_
        exact sj_retI hC hD.2 hH hr rfl hv34 ⟨(Nat.le_of_ble_eq_true rfl), (Nat.le_of_ble_eq_true rfl)⟩ dX7_isPeriod_61
  clear hE5
  refine lv_if_ne (tgt := 12) hx hb dX7_isPeriod_5 (by decide) (fun hc => ?_) (fun hc => ?_)
  · have hv10 := hv8.1 hc
    refine lv_iload_n hx hb dX7_isPeriod_12 rfl (lv_at hl 2 rfl) ?_
    refine cl_X7_61 hC hD hH hv10 ⟨Nat.le_of_ble_eq_true rfl, Nat.le_of_ble_eq_true rfl⟩ ⟨(Nat.le_of_ble_eq_true rfl), (Nat.le_of_ble_eq_true rfl)⟩ ⟨(Nat.le_of_ble_eq_true rfl), (Nat.le_of_ble_eq_true rfl)⟩ hl.1 (Nat.le_of_ble_eq_true rfl) dX7_isPeriod_13 (fun r11 w12 H locs hH hv13 => ?_)
    refine lv_if_eq (tgt := 39) hx hb dX7_isPeriod_16 (by decide) (fun hc => ?_) (fun hc => ?_)
    · have hv14 := hv13.1 hc
      refine lv_iconst (v := 2) hx hb dX7_isPeriod_39 (by decide) ?_
      exact hJ6 2 self w12 _ _ _ (lv_sub hl [0, 1, 2, 3] rfl) hH hv14
    · have hv15 := hv13.2 hc
      refine lv_iload_n hx hb dX7_isPeriod_19 rfl (lv_at hl 3 rfl) ?_
      refine lv_i2l hx hb dX7_isPeriod_20 rfl ?_
      refine lv_lconst (v := 1) hx hb dX7_isPeriod_21 (by decide) ?_
      refine lv_aload_n hx hb dX7_isPeriod_22 rfl (lv_at hl 0 rfl) ?_
      refine lv_iload_n hx hb dX7_isPeriod_23 rfl (lv_at hl 1 rfl) ?_
      refine lv_iload_n hx hb dX7_isPeriod_24 rfl (lv_at hl 2 rfl) ?_
      refine cl_X7_69 hC hD hH hv15.2 hv15.1 ⟨Nat.le_of_ble_eq_true rfl, Nat.le_of_ble_eq_true rfl⟩ ⟨(Nat.le_of_ble_eq_true rfl), (Nat.le_of_ble_eq_true rfl)⟩ ⟨(Nat.le_of_ble_eq_true rfl), (Nat.le_of_ble_eq_true rfl)⟩ hl.1 (Nat.le_of_ble_eq_true rfl) dX7_isPeriod_25 (fun r16 w17 H locs hH hv18 => ?_)
      refine lv_i2l hx hb dX7_isPeriod_28 rfl ?_
      refine cl_X7_39 hC hD hH hv18 ⟨Nat.le_of_ble_eq_true rfl, Nat.le_of_ble_eq_true rfl⟩ ⟨(Nat.le_of_ble_eq_true rfl), (Nat.le_of_ble_eq_true rfl)⟩ ⟨(Nat.le_of_ble_eq_true rfl), (Nat.le_of_ble_eq_true rfl)⟩ hl.1 (Nat.le_of_ble_eq_true rfl) dX7_isPeriod_29 (fun r19 w20 H locs hH hv21 => ?_)
      refine lv_if_eq (tgt := 39) hx hb dX7_isPeriod_32 (by decide) (fun hc => ?_) (fun hc => ?_)
      · have hv22 := hv21.1 hc
        refine lv_iconst (v := 2) hx hb dX7_isPeriod_39 (by decide) ?_
        exact hJ6 2 self w20 _ _ _ (lv_sub hl [0, 1, 2, 3] rfl) hH hv22
      · have hv23 := hv21.2 hc
        refine lv_iconst (v := 0) hx hb dX7_isPeriod_35 (by decide) ?_
        refine lv_goto (tgt := 40) hx hb dX7_isPeriod_36 (by decide) ?_
        exact hJ6 0 self w20 _ _ _ (lv_sub hl [0, 1, 2, 3] rfl) hH hv23
  · have hv24 := hv8.2 hc
    refine lv_iconst (v := 1) hx hb dX7_isPeriod_8 (by decide) ?_
    refine lv_goto (tgt := 40) hx hb dX7_isPeriod_9 (by decide) ?_
    exact hJ6 1 self w2 _ _ _ (lv_sub hl [0, 1, 2, 3] rfl) hH hv24
section SJL_X7_isPeriod
variable {p : Program} {l : Launch} {e : Env} {R : Room} {s : State} {m : MethodId} {args : Array Value} {below : List Frame} {meth : Method} {c : Code} {H : Heap} {locs : List Loc} {cells slots : Nat} {Q : State → Prop} {cc : ByteArray} {pc : Nat} {ls : Array Slot} {rest : List Value} {G : sj_G} {nL : Nat} {w : sj_W}
theorem cg_L_230 {b : Nat} {b0 : Int32} {b1 : Int32} {b2 : Int32} {Qi : Int32 → sj_W → Prop} (hC : sj_C G p l s m args c cc RL nL) (hH : sj_H G s w H locs) (hv : vc_X7_isPeriod b b0 b1 b2 w Qi) (hT : sj_T w b = 6) (hR : rm_X7_isPeriod.frames + 1 ≤ R.frames ∧ 8 + (4 + 11) + rm_X7_isPeriod.locals ≤ R.locals) (hf : cells + 0 ≤ R.cells ∧ slots + 0 ≤ R.slots) (hls : ls.size = nL) (hW : (rest.map fun v => v.category).sum ≤ 8) (hdg : decode cc pc = .ok (.invokevirtual 230, 3)) (kk : ∀ (r : Int32) (w1 : sj_W) (H : Heap) (locs : List Loc), sj_H G s w1 H locs → Qi r w1 → W p l e R s m args below meth c H locs (cells + 0) (slots + 0) Q (F0 m (pc + 3) ls (.int r :: rest))) : W p l e R s m args below meth c H locs cells slots Q (F0 m pc ls (.int b2 :: .int b1 :: .int b0 :: .ref b :: rest)) :=
  sj_xI hH (sj_runV (n := 3) hC hH (As := [.int b0, .int b1, .int b2]) (wk_X7_isPeriod G l hC.2.2.2.2.2.2 b b0 b1 b2 w Qi (fun _ _ => False) hv) (ci := 5) rfl (by decide) hT mb_932 mb_933 mb_934 mb_5 mb_935 (by decide +kernel) hR hf rfl hls hW hdg) (fun _ _ _ _ _ _ _ h _ _ _ => h.elim) kk
end SJL_X7_isPeriod
abbrev rm_X7_isTrue : Room := { frames := 4, cells := 0, slots := 0, locals := 88 }
def vc_X7_isTrue (self : Nat) (a1 : Int32) (a2 : Int32) (a3 : Int32) (a4 : Int32) (w : sj_W) (Q : Int32 → sj_W → Prop) : Prop := vc_X7_isKind a1 w (fun r1 w2 => sj_T w2 self = 6 ∧ vc_X7_noWords self r1 a1 a2 a3 w2 (fun r4 w5 => vc_X7_isKind a1 w5 (fun r7 w8 => sj_T w8 self = 6 ∧ vc_X7_noWords self r7 a1 a4 a4 w8 (fun r10 w11 => sj_jn2 (fun (E13 : Int32 → Nat → sj_W → Prop) => ((¬ r4 = 0 → ((¬ r10 = 0 → ((r10 ≤ r4 → E13 r10 self w11) ∧ (¬ r10 ≤ r4 → E13 r4 self w11))) ∧ (r10 = 0 → E13 r4 self w11))) ∧ (r4 = 0 → E13 r10 self w11))) (fun (y0_63 : Int32) (y1_63 : Nat) (w_63 : sj_W) => sj_T w_63 y1_63 = 6 ∧ vc_X7_fails y1_63 y0_63 w_63 (fun r25 w26 => ((¬ r25 = 0 → Q 0 w26) ∧ (r25 = 0 → Q 1 w26))))))))
set_option maxHeartbeats 4000000 in
set_option maxRecDepth 100000 in
theorem wk_X7_isTrue (G : sj_G) (l : Launch) (hlt : l.stackTraces = false) (self : Nat) (a1 : Int32) (a2 : Int32) (a3 : Int32) (a4 : Int32) (w : sj_W) (Q : Int32 → sj_W → Prop) (QX : String → sj_W → Prop) (hv : vc_X7_isTrue self a1 a2 a3 a4 w Q) : sj_MI G l yX7_isTrue (sj_ws yX7_isTrue cX7_isTrue 7 (some .boolean)) rm_X7_isTrue [.ref self, .int a1, .int a2, .int a3, .int a4] w Q QX := by
  refine sj_of (by decide +kernel) (Nat.le_of_ble_eq_true rfl) hlt ?_
  intro p e s m args below meth c ls hC hD hr hin hH hl
  have hx := hC.1
  have hb := hC.2.1
  have hl : lv_has ls 7 [(0, .ref self), (1, .int a1), (2, .int a2), (3, .int a3), (4, .int a4)] := hl
  refine lv_aload_n hx hb dX7_isTrue_0 rfl (lv_at hl 0 rfl) ?_
  refine lv_iload_n hx hb dX7_isTrue_1 rfl (lv_at hl 1 rfl) ?_
  refine cl_X7_57 hC hD hH hv ⟨Nat.le_of_ble_eq_true rfl, Nat.le_of_ble_eq_true rfl⟩ ⟨(Nat.le_of_ble_eq_true rfl), (Nat.le_of_ble_eq_true rfl)⟩ ⟨(Nat.le_of_ble_eq_true rfl), (Nat.le_of_ble_eq_true rfl)⟩ hl.1 (Nat.le_of_ble_eq_true rfl) dX7_isTrue_2 (fun r1 w2 H locs hH hv3 => ?_)
  refine lv_iload_n hx hb dX7_isTrue_5 rfl (lv_at hl 1 rfl) ?_
  refine lv_iload_n hx hb dX7_isTrue_6 rfl (lv_at hl 2 rfl) ?_
  refine lv_iload_n hx hb dX7_isTrue_7 rfl (lv_at hl 3 rfl) ?_
  refine cl_X7_129 hC hD hH hv3.2 hv3.1 ⟨Nat.le_of_ble_eq_true rfl, Nat.le_of_ble_eq_true rfl⟩ ⟨(Nat.le_of_ble_eq_true rfl), (Nat.le_of_ble_eq_true rfl)⟩ ⟨(Nat.le_of_ble_eq_true rfl), (Nat.le_of_ble_eq_true rfl)⟩ hl.1 (Nat.le_of_ble_eq_true rfl) dX7_isTrue_8 (fun r4 w5 H locs hH hv6 => ?_)
  refine lv_istore (lv' := [(5, .int r4), (0, .ref self), (1, .int a1), (2, .int a2), (3, .int a3), (4, .int a4)]) hx hb dX7_isTrue_11 hl (by decide) rfl (fun ls hl => ?_)
  refine lv_aload_n hx hb dX7_isTrue_13 rfl (lv_at hl 1 rfl) ?_
  refine lv_iload_n hx hb dX7_isTrue_14 rfl (lv_at hl 2 rfl) ?_
  refine cl_X7_57 hC hD hH hv6 ⟨Nat.le_of_ble_eq_true rfl, Nat.le_of_ble_eq_true rfl⟩ ⟨(Nat.le_of_ble_eq_true rfl), (Nat.le_of_ble_eq_true rfl)⟩ ⟨(Nat.le_of_ble_eq_true rfl), (Nat.le_of_ble_eq_true rfl)⟩ hl.1 (Nat.le_of_ble_eq_true rfl) dX7_isTrue_15 (fun r7 w8 H locs hH hv9 => ?_)
  refine lv_iload_n hx hb dX7_isTrue_18 rfl (lv_at hl 2 rfl) ?_
  refine lv_iload hx hb dX7_isTrue_19 (lv_at hl 5 rfl) ?_
  refine lv_iload hx hb dX7_isTrue_21 (lv_at hl 5 rfl) ?_
  refine cl_X7_129 hC hD hH hv9.2 hv9.1 ⟨Nat.le_of_ble_eq_true rfl, Nat.le_of_ble_eq_true rfl⟩ ⟨(Nat.le_of_ble_eq_true rfl), (Nat.le_of_ble_eq_true rfl)⟩ ⟨(Nat.le_of_ble_eq_true rfl), (Nat.le_of_ble_eq_true rfl)⟩ hl.1 (Nat.le_of_ble_eq_true rfl) dX7_isTrue_23 (fun r10 w11 H locs hH hv12 => ?_)
  refine lv_istore (lv' := [(6, .int r10), (5, .int r4), (0, .ref self), (1, .int a1), (2, .int a2), (3, .int a3), (4, .int a4)]) hx hb dX7_isTrue_26 hl (by decide) rfl (fun ls hl => ?_)
  refine lv_aload_n hx hb dX7_isTrue_28 rfl (lv_at hl 2 rfl) ?_
  refine lv_iload hx hb dX7_isTrue_29 (lv_at hl 1 rfl) ?_
  obtain ⟨E13, hE14, hv17⟩ := sj_jn2_e hv12
  have hJ15 : ∀ (y0_63 : Int32) (y1_63 : Nat) (w_63 : sj_W) (H : Heap) (locs : List Loc) (ls : Array Slot), lv_has ls 7 [] → sj_H G s w_63 H locs → E13 y0_63 y1_63 w_63 → W p l e rm_X7_isTrue s m args below meth c H locs 0 0 (sj_MQ G below (va_Qi Q (sj_B G) (sj_F G)) QX args s rm_X7_isTrue) (F0 m 63 ls [.int y0_63, .ref y1_63]) := by
    intro y0_63 y1_63 w_63 H locs ls hl hH hv18
    rw [hE14] at hv18
    refine cl_X7_73 hC hD hH hv18.2 hv18.1 ⟨Nat.le_of_ble_eq_true rfl, Nat.le_of_ble_eq_true rfl⟩ ⟨(Nat.le_of_ble_eq_true rfl), (Nat.le_of_ble_eq_true rfl)⟩ ⟨(Nat.le_of_ble_eq_true rfl), (Nat.le_of_ble_eq_true rfl)⟩ hl.1 (Nat.le_of_ble_eq_true rfl) dX7_isTrue_63 (fun r25 w26 H locs hH hv27 => ?_)
    refine lv_if_ne (tgt := 73) hx hb dX7_isTrue_66 (by decide) (fun hc => ?_) (fun hc => ?_)
    · have hv28 := hv27.1 hc
      refine lv_iconst (v := 0) hx hb dX7_isTrue_73 (by decide) ?_
      exact sj_retI hC hD.2 hH hr rfl hv28 ⟨(Nat.le_of_ble_eq_true rfl), (Nat.le_of_ble_eq_true rfl)⟩ dX7_isTrue_74
    · have hv29 := hv27.2 hc
      refine lv_iconst (v := 1) hx hb dX7_isTrue_69 (by decide) ?_
      refine lv_goto (tgt := 74) hx hb dX7_isTrue_70 (by decide) ?_
      exact sj_retI hC hD.2 hH hr rfl hv29 ⟨(Nat.le_of_ble_eq_true rfl), (Nat.le_of_ble_eq_true rfl)⟩ dX7_isTrue_74
  clear hE14
  refine lv_if_ne (tgt := 39) hx hb dX7_isTrue_31 (by decide) (fun hc => ?_) (fun hc => ?_)
  · have hv19 := hv17.1 hc
    refine lv_iload hx hb dX7_isTrue_39 (lv_at hl 0 rfl) ?_
    refine lv_if_ne (tgt := 49) hx hb dX7_isTrue_41 (by decide) (fun hc => ?_) (fun hc => ?_)
    · have hv20 := hv19.1 hc
      refine lv_iload hx hb dX7_isTrue_49 (lv_at hl 1 rfl) ?_
      refine lv_iload hx hb dX7_isTrue_51 (lv_at hl 0 rfl) ?_
      refine lv_icmp_ge (tgt := 61) hx hb dX7_isTrue_53 (by decide) (fun hc => ?_) (fun hc => ?_)
      · have hv21 := hv20.1 hc
        refine lv_iload hx hb dX7_isTrue_61 (lv_at hl 0 rfl) ?_
        exact hJ15 r10 self w11 _ _ _ (lv_sub hl [] rfl) hH hv21
      · have hv22 := hv20.2 hc
        refine lv_iload hx hb dX7_isTrue_56 (lv_at hl 1 rfl) ?_
        refine lv_goto (tgt := 63) hx hb dX7_isTrue_58 (by decide) ?_
        exact hJ15 r4 self w11 _ _ _ (lv_sub hl [] rfl) hH hv22
    · have hv23 := hv19.2 hc
      refine lv_iload hx hb dX7_isTrue_44 (lv_at hl 1 rfl) ?_
      refine lv_goto (tgt := 63) hx hb dX7_isTrue_46 (by decide) ?_
      exact hJ15 r4 self w11 _ _ _ (lv_sub hl [] rfl) hH hv23
  · have hv24 := hv17.2 hc
    refine lv_iload hx hb dX7_isTrue_34 (lv_at hl 0 rfl) ?_
    refine lv_goto (tgt := 63) hx hb dX7_isTrue_36 (by decide) ?_
    exact hJ15 r10 self w11 _ _ _ (lv_sub hl [] rfl) hH hv24
section SJL_X7_isTrue
variable {p : Program} {l : Launch} {e : Env} {R : Room} {s : State} {m : MethodId} {args : Array Value} {below : List Frame} {meth : Method} {c : Code} {H : Heap} {locs : List Loc} {cells slots : Nat} {Q : State → Prop} {cc : ByteArray} {pc : Nat} {ls : Array Slot} {rest : List Value} {G : sj_G} {nL : Nat} {w : sj_W}
theorem cg_L_260 {b : Nat} {b0 : Int32} {b1 : Int32} {b2 : Int32} {b3 : Int32} {Qi : Int32 → sj_W → Prop} (hC : sj_C G p l s m args c cc RL nL) (hH : sj_H G s w H locs) (hv : vc_X7_isTrue b b0 b1 b2 b3 w Qi) (hT : sj_T w b = 6) (hR : rm_X7_isTrue.frames + 1 ≤ R.frames ∧ 8 + (7 + 11) + rm_X7_isTrue.locals ≤ R.locals) (hf : cells + 0 ≤ R.cells ∧ slots + 0 ≤ R.slots) (hls : ls.size = nL) (hW : (rest.map fun v => v.category).sum ≤ 8) (hdg : decode cc pc = .ok (.invokevirtual 260, 3)) (kk : ∀ (r : Int32) (w1 : sj_W) (H : Heap) (locs : List Loc), sj_H G s w1 H locs → Qi r w1 → W p l e R s m args below meth c H locs (cells + 0) (slots + 0) Q (F0 m (pc + 3) ls (.int r :: rest))) : W p l e R s m args below meth c H locs cells slots Q (F0 m pc ls (.int b3 :: .int b2 :: .int b1 :: .int b0 :: .ref b :: rest)) :=
  sj_xI hH (sj_runV (n := 4) hC hH (As := [.int b0, .int b1, .int b2, .int b3]) (wk_X7_isTrue G l hC.2.2.2.2.2.2 b b0 b1 b2 b3 w Qi (fun _ _ => False) hv) (ci := 5) rfl (by decide) hT mb_987 mb_988 mb_989 mb_5 mb_990 (by decide +kernel) hR hf rfl hls hW hdg) (fun _ _ _ _ _ _ _ h _ _ _ => h.elim) kk
end SJL_X7_isTrue
abbrev rm_X7_isTurnedLess : Room := { frames := 2, cells := 0, slots := 0, locals := 43 }
def vb_X7_isTurnedLess_11 (f0 : Nat) (f1 : Int32) (f2 : Int32) (f3 : Int32) (f4 : Int32) (f5 : Int32) (f6 : Int32) (Q : Int32 → sj_W → Prop) (E : Int64 → Int64 → sj_W → Prop) (K : Int32 → sj_W → Prop) (v7 : Int32) (w : sj_W) : Prop := ((f6 ≤ v7 → Q 0 w) ∧ (¬ f6 ≤ v7 → sj_T w f0 = 6 ∧ sj_A w 40 f0 ≠ 0 ∧ ¬ (f6 : Int32) = 0 ∧ sj_T w f0 = 6 ∧ vc_X7_at f0 f1 f3 ((f4 + v7) - (f4 + v7) / f6 * f6) w (fun r6 w7 => sj_T w7 (sj_A w 40 f0) = 8 ∧ vp_in r6 (sj_N w7 (sj_A w 40 f0)) ∧ sj_T w7 f0 = 6 ∧ sj_A w7 40 f0 ≠ 0 ∧ ¬ (f6 : Int32) = 0 ∧ sj_T w7 f0 = 6 ∧ vc_X7_at f0 f1 f3 ((f5 + v7) - (f5 + v7) / f6 * f6) w7 (fun r9 w10 => sj_T w10 (sj_A w7 40 f0) = 8 ∧ vp_in r9 (sj_N w10 (sj_A w7 40 f0)) ∧ (((lg_cmp (sj_l w7 (sj_A w 40 f0) r6.toNatClampNeg) (sj_l w10 (sj_A w7 40 f0) r9.toNatClampNeg)) = 0 → K (v7 + 1) w10) ∧ (¬ (lg_cmp (sj_l w7 (sj_A w 40 f0) r6.toNatClampNeg) (sj_l w10 (sj_A w7 40 f0) r9.toNatClampNeg)) = 0 → E (sj_l w7 (sj_A w 40 f0) r6.toNatClampNeg) (sj_l w10 (sj_A w7 40 f0) r9.toNatClampNeg) w10))))))
def vc_X7_isTurnedLess (self : Nat) (a1 : Int32) (a2 : Int32) (a3 : Int32) (a4 : Int32) (a5 : Int32) (w : sj_W) (Q : Int32 → sj_W → Prop) : Prop := sj_T w self = 6 ∧ vc_X7_size self a1 a3 w (fun r1 w2 => sj_lp1 (vb_X7_isTurnedLess_11 self a1 a2 a3 a4 a5 r1 Q (fun z8_11 z10_11 w_11 => vc_X7_isLess z8_11 z10_11 a2 w_11 (fun r15 w16 => (r15 = 0 ∨ r15 = 1) ∧ Q r15 w16))) 64 0 w2)
set_option maxHeartbeats 4000000 in
set_option maxRecDepth 100000 in
theorem wl_X7_isTurnedLess_11 {p : Program} {l : Launch} {e : Env} {s : State} {m : MethodId} {args : Array Value} {below : List Frame} {meth : Method} {c : Code} {G : sj_G} {f0 : Nat} {f1 : Int32} {f2 : Int32} {f3 : Int32} {f4 : Int32} {f5 : Int32} {f6 : Int32} {Q : Int32 → sj_W → Prop} {QX : String → sj_W → Prop} {E : Int64 → Int64 → sj_W → Prop} (hC : sj_C G p l s m args c cX7_isTurnedLess RX7 12) (hD : sj_D meth c) (hr : meth.sig.returnType = (some .boolean)) (hin : meth.name = "isTurnedLess") (hE : ∀ (v8 : Int64) (v10 : Int64) (w : sj_W) (H : Heap) (locs : List Loc) (ls : Array Slot), lv_has ls 12 [(2, .int f2), (8, .long v8), (10, .long v10)] → sj_H G s w H locs → E v8 v10 w → W p l e rm_X7_isTurnedLess s m args below meth c H locs 0 0 (sj_MQ G below (va_Qi Q (sj_B G) (sj_F G)) QX args s rm_X7_isTurnedLess) (F0 m 68 ls [])) : ∀ (n : Nat) (v7 : Int32) (w : sj_W) (H : Heap) (locs : List Loc) (ls : Array Slot), lv_has ls 12 [(0, .ref f0), (1, .int f1), (2, .int f2), (3, .int f3), (4, .int f4), (5, .int f5), (6, .int f6), (7, .int v7)] → sj_H G s w H locs → sj_lp1 (vb_X7_isTurnedLess_11 f0 f1 f2 f3 f4 f5 f6 Q E) n v7 w → W p l e rm_X7_isTurnedLess s m args below meth c H locs 0 0 (sj_MQ G below (va_Qi Q (sj_B G) (sj_F G)) QX args s rm_X7_isTurnedLess) (F0 m 11 ls []) := by
  have hx := hC.1
  have hb := hC.2.1
  intro n
  induction n with
  | zero =>
    intro v7 w H locs ls _ _ hv
    exact hv.elim
  | succ n ih =>
    intro v7 w H locs ls hl hH hv
    have hv : vb_X7_isTurnedLess_11 f0 f1 f2 f3 f4 f5 f6 Q E (sj_lp1 (vb_X7_isTurnedLess_11 f0 f1 f2 f3 f4 f5 f6 Q E) n) v7 w := hv
    have hc1 : rm_X7_isTurnedLess.cells = 0 := rfl
    have hc2 : rm_X7_isTurnedLess.slots = 0 := rfl
    refine lv_iload hx hb dX7_isTurnedLess_11 (lv_at hl 7 rfl) ?_
    refine lv_iload hx hb dX7_isTurnedLess_13 (lv_at hl 6 rfl) ?_
    refine lv_icmp_ge (tgt := 83) hx hb dX7_isTurnedLess_15 (by decide) (fun hc => ?_) (fun hc => ?_)
    · have hv4 := hv.1 hc
      refine lv_iconst (v := 0) hx hb dX7_isTurnedLess_83 (by decide) ?_
      exact sj_retI hC hD.2 hH hr rfl hv4 ⟨(Nat.le_of_ble_eq_true rfl), (Nat.le_of_ble_eq_true rfl)⟩ dX7_isTurnedLess_84
    · have hv5 := hv.2 hc
      refine lv_aload_n hx hb dX7_isTurnedLess_18 rfl (lv_at hl 0 rfl) ?_
      refine gf_X7_7 hC hH hv5.1 hv5.2.1 dX7_isTurnedLess_19 ?_
      refine lv_aload_n hx hb dX7_isTurnedLess_22 rfl (lv_at hl 0 rfl) ?_
      refine lv_iload_n hx hb dX7_isTurnedLess_23 rfl (lv_at hl 1 rfl) ?_
      refine lv_iload_n hx hb dX7_isTurnedLess_24 rfl (lv_at hl 3 rfl) ?_
      refine lv_iload hx hb dX7_isTurnedLess_25 (lv_at hl 4 rfl) ?_
      refine lv_iload hx hb dX7_isTurnedLess_27 (lv_at hl 7 rfl) ?_
      refine lv_iadd hx hb dX7_isTurnedLess_29 ?_
      refine lv_iload hx hb dX7_isTurnedLess_30 (lv_at hl 6 rfl) ?_
      refine lv_irem hx hb dX7_isTurnedLess_32 hv5.2.2.1 ?_
      refine cl_X7_76 hC hD hH hv5.2.2.2.2 hv5.2.2.2.1 ⟨Nat.le_of_ble_eq_true rfl, Nat.le_of_ble_eq_true rfl⟩ ⟨(Nat.le_of_ble_eq_true rfl), (Nat.le_of_ble_eq_true rfl)⟩ ⟨(Nat.le_of_ble_eq_true rfl), (Nat.le_of_ble_eq_true rfl)⟩ hl.1 (Nat.le_of_ble_eq_true rfl) dX7_isTurnedLess_33 (fun r6 w7 H locs hH hv8 => ?_)
      refine sj_lald hC hH hv8.1 hv8.2.1 dX7_isTurnedLess_36 ?_
      refine lv_lstore (lv' := [(8, .long (sj_l w7 (sj_A w 40 f0) r6.toNatClampNeg)), (0, .ref f0), (1, .int f1), (2, .int f2), (3, .int f3), (4, .int f4), (5, .int f5), (6, .int f6), (7, .int v7)]) hx hb dX7_isTurnedLess_37 hl (by decide) rfl (fun ls hl => ?_)
      refine lv_aload_n hx hb dX7_isTurnedLess_39 rfl (lv_at hl 1 rfl) ?_
      refine gf_X7_7 hC hH hv8.2.2.1 hv8.2.2.2.1 dX7_isTurnedLess_40 ?_
      refine lv_aload_n hx hb dX7_isTurnedLess_43 rfl (lv_at hl 1 rfl) ?_
      refine lv_iload_n hx hb dX7_isTurnedLess_44 rfl (lv_at hl 2 rfl) ?_
      refine lv_iload_n hx hb dX7_isTurnedLess_45 rfl (lv_at hl 4 rfl) ?_
      refine lv_iload hx hb dX7_isTurnedLess_46 (lv_at hl 6 rfl) ?_
      refine lv_iload hx hb dX7_isTurnedLess_48 (lv_at hl 8 rfl) ?_
      refine lv_iadd hx hb dX7_isTurnedLess_50 ?_
      refine lv_iload hx hb dX7_isTurnedLess_51 (lv_at hl 7 rfl) ?_
      refine lv_irem hx hb dX7_isTurnedLess_53 hv8.2.2.2.2.1 ?_
      refine cl_X7_76 hC hD hH hv8.2.2.2.2.2.2 hv8.2.2.2.2.2.1 ⟨Nat.le_of_ble_eq_true rfl, Nat.le_of_ble_eq_true rfl⟩ ⟨(Nat.le_of_ble_eq_true rfl), (Nat.le_of_ble_eq_true rfl)⟩ ⟨(Nat.le_of_ble_eq_true rfl), (Nat.le_of_ble_eq_true rfl)⟩ hl.1 (Nat.le_of_ble_eq_true rfl) dX7_isTurnedLess_54 (fun r9 w10 H locs hH hv11 => ?_)
      refine sj_lald hC hH hv11.1 hv11.2.1 dX7_isTurnedLess_57 ?_
      refine lv_lstore (lv' := [(10, .long (sj_l w10 (sj_A w7 40 f0) r9.toNatClampNeg)), (8, .long (sj_l w7 (sj_A w 40 f0) r6.toNatClampNeg)), (0, .ref f0), (1, .int f1), (2, .int f2), (3, .int f3), (4, .int f4), (5, .int f5), (6, .int f6), (7, .int v7)]) hx hb dX7_isTurnedLess_58 hl (by decide) rfl (fun ls hl => ?_)
      refine lv_lload hx hb dX7_isTurnedLess_60 (lv_at hl 1 rfl) ?_
      refine lv_lload hx hb dX7_isTurnedLess_62 (lv_at hl 0 rfl) ?_
      refine W.lcmp hx hb dX7_isTurnedLess_64 ?_
      refine lv_if_eq (tgt := 77) hx hb dX7_isTurnedLess_65 (by decide) (fun hc => ?_) (fun hc => ?_)
      · have hv12 := hv11.2.2.1 hc
        refine lv_iinc (v := (v7 + 1)) (lv' := [(7, .int (v7 + 1)), (10, .long (sj_l w10 (sj_A w7 40 f0) r9.toNatClampNeg)), (8, .long (sj_l w7 (sj_A w 40 f0) r6.toNatClampNeg)), (0, .ref f0), (1, .int f1), (2, .int f2), (3, .int f3), (4, .int f4), (5, .int f5), (6, .int f6)]) hx hb dX7_isTurnedLess_77 hl (k := 9) rfl rfl (by decide) rfl (fun ls hl => ?_)
        refine lv_goto (tgt := 11) hx hb dX7_isTurnedLess_80 (by decide) ?_
        exact ih (v7 + 1) w10 _ _ _ (lv_sub hl [3, 4, 5, 6, 7, 8, 9, 0] rfl) hH hv12
      · have hv13 := hv11.2.2.2 hc
        exact hE (sj_l w7 (sj_A w 40 f0) r6.toNatClampNeg) (sj_l w10 (sj_A w7 40 f0) r9.toNatClampNeg) w10 _ _ _ (lv_sub hl [4, 1, 0] rfl) hH hv13
set_option maxHeartbeats 4000000 in
set_option maxRecDepth 100000 in
theorem wk_X7_isTurnedLess (G : sj_G) (l : Launch) (hlt : l.stackTraces = false) (self : Nat) (a1 : Int32) (a2 : Int32) (a3 : Int32) (a4 : Int32) (a5 : Int32) (w : sj_W) (Q : Int32 → sj_W → Prop) (QX : String → sj_W → Prop) (hv : vc_X7_isTurnedLess self a1 a2 a3 a4 a5 w Q) : sj_MI G l yX7_isTurnedLess (sj_ws yX7_isTurnedLess cX7_isTurnedLess 12 (some .boolean)) rm_X7_isTurnedLess [.ref self, .int a1, .int a2, .int a3, .int a4, .int a5] w Q QX := by
  refine sj_of (by decide +kernel) (Nat.le_of_ble_eq_true rfl) hlt ?_
  intro p e s m args below meth c ls hC hD hr hin hH hl
  have hx := hC.1
  have hb := hC.2.1
  have hl : lv_has ls 12 [(0, .ref self), (1, .int a1), (2, .int a2), (3, .int a3), (4, .int a4), (5, .int a5)] := hl
  refine lv_aload_n hx hb dX7_isTurnedLess_0 rfl (lv_at hl 0 rfl) ?_
  refine lv_iload_n hx hb dX7_isTurnedLess_1 rfl (lv_at hl 1 rfl) ?_
  refine lv_iload_n hx hb dX7_isTurnedLess_2 rfl (lv_at hl 3 rfl) ?_
  refine cl_X7_69 hC hD hH hv.2 hv.1 ⟨Nat.le_of_ble_eq_true rfl, Nat.le_of_ble_eq_true rfl⟩ ⟨(Nat.le_of_ble_eq_true rfl), (Nat.le_of_ble_eq_true rfl)⟩ ⟨(Nat.le_of_ble_eq_true rfl), (Nat.le_of_ble_eq_true rfl)⟩ hl.1 (Nat.le_of_ble_eq_true rfl) dX7_isTurnedLess_3 (fun r1 w2 H locs hH hv3 => ?_)
  refine lv_istore (lv' := [(6, .int r1), (0, .ref self), (1, .int a1), (2, .int a2), (3, .int a3), (4, .int a4), (5, .int a5)]) hx hb dX7_isTurnedLess_6 hl (by decide) rfl (fun ls hl => ?_)
  refine lv_iconst (v := 0) hx hb dX7_isTurnedLess_8 (by decide) ?_
  refine lv_istore (lv' := [(7, .int 0), (6, .int r1), (0, .ref self), (1, .int a1), (2, .int a2), (3, .int a3), (4, .int a4), (5, .int a5)]) hx hb dX7_isTurnedLess_9 hl (by decide) rfl (fun ls hl => ?_)
  refine wl_X7_isTurnedLess_11 hC hD hr hin (fun z8_11 z10_11 w_11 H locs ls hl hH hv14 => ?_) 64 0 w2 _ _ _ (lv_sub hl [2, 3, 4, 5, 6, 7, 1, 0] rfl) hH hv3
  refine lv_lload hx hb dX7_isTurnedLess_68 (lv_at hl 1 rfl) ?_
  refine lv_lload hx hb dX7_isTurnedLess_70 (lv_at hl 2 rfl) ?_
  refine lv_iload_n hx hb dX7_isTurnedLess_72 rfl (lv_at hl 0 rfl) ?_
  refine cl_X7_118 hC hD hH hv14 ⟨Nat.le_of_ble_eq_true rfl, Nat.le_of_ble_eq_true rfl⟩ ⟨(Nat.le_of_ble_eq_true rfl), (Nat.le_of_ble_eq_true rfl)⟩ ⟨(Nat.le_of_ble_eq_true rfl), (Nat.le_of_ble_eq_true rfl)⟩ hl.1 (Nat.le_of_ble_eq_true rfl) dX7_isTurnedLess_73 (fun r15 w16 H locs hH hv17 => ?_)
  exact sj_retI hC hD.2 hH hr (sj_nz hv17.1).1 hv17.2 ⟨(Nat.le_of_ble_eq_true rfl), (Nat.le_of_ble_eq_true rfl)⟩ dX7_isTurnedLess_76
section SJL_X7_isTurnedLess
variable {p : Program} {l : Launch} {e : Env} {R : Room} {s : State} {m : MethodId} {args : Array Value} {below : List Frame} {meth : Method} {c : Code} {H : Heap} {locs : List Loc} {cells slots : Nat} {Q : State → Prop} {cc : ByteArray} {pc : Nat} {ls : Array Slot} {rest : List Value} {G : sj_G} {nL : Nat} {w : sj_W}
theorem cl_X7_162 {rmM : Room} {QcM : Array Value → State → Outcome → State → Prop} {QX : String → sj_W → Prop} {b : Nat} {b0 : Int32} {b1 : Int32} {b2 : Int32} {b3 : Int32} {b4 : Int32} {Qi : Int32 → sj_W → Prop} (hC : sj_C G p l s m args c cc RX7 nL) (hD : sj_D meth c) (hH : sj_H G s w H locs) (hv : vc_X7_isTurnedLess b b0 b1 b2 b3 b4 w Qi) (hT : sj_T w b = 6) (hR : rm_X7_isTurnedLess.frames + 1 ≤ R.frames ∧ 8 + (12 + 11) + rm_X7_isTurnedLess.locals ≤ R.locals) (hf : cells + 0 ≤ R.cells ∧ slots + 0 ≤ R.slots) (hfM : cells + 0 ≤ rmM.cells ∧ slots + 0 ≤ rmM.slots) (hls : ls.size = nL) (hW : (rest.map fun v => v.category).sum ≤ 8) (hdg : decode cc pc = .ok (.invokevirtual 162, 3)) (kk : ∀ (r : Int32) (w1 : sj_W) (H : Heap) (locs : List Loc), sj_H G s w1 H locs → Qi r w1 → W p l e R s m args below meth c H locs (cells + 0) (slots + 0) (sj_MQ G below QcM QX args s rmM) (F0 m (pc + 3) ls (.int r :: rest))) : W p l e R s m args below meth c H locs cells slots (sj_MQ G below QcM QX args s rmM) (F0 m pc ls (.int b4 :: .int b3 :: .int b2 :: .int b1 :: .int b0 :: .ref b :: rest)) :=
  sj_cI hD hH (sj_runV (n := 5) hC hH (As := [.int b0, .int b1, .int b2, .int b3, .int b4]) (wk_X7_isTurnedLess G l hC.2.2.2.2.2.2 b b0 b1 b2 b3 b4 w Qi QX hv) (ci := 5) rfl (by decide) hT mb_952 mb_954 mb_s41 mb_5 mb_955 (by decide +kernel) hR hf rfl hls hW hdg) hfM kk
end SJL_X7_isTurnedLess
abbrev rm_X7_length : Room := { frames := 3, cells := 0, slots := 0, locals := 67 }
def vc_X7_length (self : Nat) (a1 : Int32) (a2 : Int32) (w : sj_W) (Q : Int32 → sj_W → Prop) : Prop := sj_T w self = 6 ∧ vc_X7_noRow self a1 a2 w (fun r1 w2 => sj_T w2 self = 6 ∧ vc_X7_fails self r1 w2 (fun r4 w5 => ((r4 = 0 → sj_T w5 self = 6 ∧ vc_X7_size self a1 a2 w5 (fun r8 w9 => Q r8 w9)) ∧ (¬ r4 = 0 → Q 0 w5))))
set_option maxHeartbeats 4000000 in
set_option maxRecDepth 100000 in
theorem wk_X7_length (G : sj_G) (l : Launch) (hlt : l.stackTraces = false) (self : Nat) (a1 : Int32) (a2 : Int32) (w : sj_W) (Q : Int32 → sj_W → Prop) (QX : String → sj_W → Prop) (hv : vc_X7_length self a1 a2 w Q) : sj_MI G l yX7_length (sj_ws yX7_length cX7_length 3 (some .int)) rm_X7_length [.ref self, .int a1, .int a2] w Q QX := by
  refine sj_of (by decide +kernel) (Nat.le_of_ble_eq_true rfl) hlt ?_
  intro p e s m args below meth c ls hC hD hr hin hH hl
  have hx := hC.1
  have hb := hC.2.1
  have hl : lv_has ls 3 [(0, .ref self), (1, .int a1), (2, .int a2)] := hl
  refine lv_aload_n hx hb dX7_length_0 rfl (lv_at hl 0 rfl) ?_
  refine lv_aload_n hx hb dX7_length_1 rfl (lv_at hl 0 rfl) ?_
  refine lv_iload_n hx hb dX7_length_2 rfl (lv_at hl 1 rfl) ?_
  refine lv_iload_n hx hb dX7_length_3 rfl (lv_at hl 2 rfl) ?_
  refine cl_X7_84 hC hD hH hv.2 hv.1 ⟨Nat.le_of_ble_eq_true rfl, Nat.le_of_ble_eq_true rfl⟩ ⟨(Nat.le_of_ble_eq_true rfl), (Nat.le_of_ble_eq_true rfl)⟩ ⟨(Nat.le_of_ble_eq_true rfl), (Nat.le_of_ble_eq_true rfl)⟩ hl.1 (Nat.le_of_ble_eq_true rfl) dX7_length_4 (fun r1 w2 H locs hH hv3 => ?_)
  refine cl_X7_73 hC hD hH hv3.2 hv3.1 ⟨Nat.le_of_ble_eq_true rfl, Nat.le_of_ble_eq_true rfl⟩ ⟨(Nat.le_of_ble_eq_true rfl), (Nat.le_of_ble_eq_true rfl)⟩ ⟨(Nat.le_of_ble_eq_true rfl), (Nat.le_of_ble_eq_true rfl)⟩ hl.1 (Nat.le_of_ble_eq_true rfl) dX7_length_7 (fun r4 w5 H locs hH hv6 => ?_)
  refine lv_if_eq (tgt := 17) hx hb dX7_length_10 (by decide) (fun hc => ?_) (fun hc => ?_)
  · have hv7 := hv6.1 hc
    refine lv_aload_n hx hb dX7_length_17 rfl (lv_at hl 0 rfl) ?_
    refine lv_iload_n hx hb dX7_length_18 rfl (lv_at hl 1 rfl) ?_
    refine lv_iload_n hx hb dX7_length_19 rfl (lv_at hl 2 rfl) ?_
    refine cl_X7_69 hC hD hH hv7.2 hv7.1 ⟨Nat.le_of_ble_eq_true rfl, Nat.le_of_ble_eq_true rfl⟩ ⟨(Nat.le_of_ble_eq_true rfl), (Nat.le_of_ble_eq_true rfl)⟩ ⟨(Nat.le_of_ble_eq_true rfl), (Nat.le_of_ble_eq_true rfl)⟩ hl.1 (Nat.le_of_ble_eq_true rfl) dX7_length_20 (fun r8 w9 H locs hH hv10 => ?_)
    exact sj_retI hC hD.2 hH hr rfl hv10 ⟨(Nat.le_of_ble_eq_true rfl), (Nat.le_of_ble_eq_true rfl)⟩ dX7_length_23
  · have hv11 := hv6.2 hc
    refine lv_iconst (v := 0) hx hb dX7_length_13 (by decide) ?_
    refine lv_goto (tgt := 23) hx hb dX7_length_14 (by decide) ?_
    exact sj_retI hC hD.2 hH hr rfl hv11 ⟨(Nat.le_of_ble_eq_true rfl), (Nat.le_of_ble_eq_true rfl)⟩ dX7_length_23
section SJL_X7_length
variable {p : Program} {l : Launch} {e : Env} {R : Room} {s : State} {m : MethodId} {args : Array Value} {below : List Frame} {meth : Method} {c : Code} {H : Heap} {locs : List Loc} {cells slots : Nat} {Q : State → Prop} {cc : ByteArray} {pc : Nat} {ls : Array Slot} {rest : List Value} {G : sj_G} {nL : Nat} {w : sj_W}
theorem cg_L_161 {b : Nat} {b0 : Int32} {b1 : Int32} {Qi : Int32 → sj_W → Prop} (hC : sj_C G p l s m args c cc RL nL) (hH : sj_H G s w H locs) (hv : vc_X7_length b b0 b1 w Qi) (hT : sj_T w b = 6) (hR : rm_X7_length.frames + 1 ≤ R.frames ∧ 8 + (3 + 11) + rm_X7_length.locals ≤ R.locals) (hf : cells + 0 ≤ R.cells ∧ slots + 0 ≤ R.slots) (hls : ls.size = nL) (hW : (rest.map fun v => v.category).sum ≤ 8) (hdg : decode cc pc = .ok (.invokevirtual 161, 3)) (kk : ∀ (r : Int32) (w1 : sj_W) (H : Heap) (locs : List Loc), sj_H G s w1 H locs → Qi r w1 → W p l e R s m args below meth c H locs (cells + 0) (slots + 0) Q (F0 m (pc + 3) ls (.int r :: rest))) : W p l e R s m args below meth c H locs cells slots Q (F0 m pc ls (.int b1 :: .int b0 :: .ref b :: rest)) :=
  sj_xI hH (sj_runV (n := 2) hC hH (As := [.int b0, .int b1]) (wk_X7_length G l hC.2.2.2.2.2.2 b b0 b1 w Qi (fun _ _ => False) hv) (ci := 5) rfl (by decide) hT mb_789 mb_790 mb_791 mb_5 mb_792 (by decide +kernel) hR hf rfl hls hW hdg) (fun _ _ _ _ _ _ _ h _ _ _ => h.elim) kk
end SJL_X7_length
abbrev rm_X7_longest : Room := { frames := 3, cells := 0, slots := 0, locals := 71 }
def vb_X7_longest_37 (f0 : Nat) (f1 : Int32) (f2 : Int32) (f3 : Int32) (f5 : Int32) (Q : Int32 → sj_W → Prop) (E : Int32 → sj_W → Prop) (K : Int32 → Int32 → sj_W → Prop) (v4 : Int32) (v6 : Int32) (w : sj_W) : Prop := ((f5 ≤ v6 → E v4 w) ∧ (¬ f5 ≤ v6 → sj_T w f0 = 6 ∧ vc_X7_alike f0 f1 f2 v6 (f3 - v6) f2 f5 (f3 - f5) w (fun r15 w16 => ((r15 ≤ v4 → K v4 (v6 + 1) w16) ∧ (¬ r15 ≤ v4 → K r15 (v6 + 1) w16)))))
def vb_X7_longest_28 (f0 : Nat) (f1 : Int32) (f2 : Int32) (f3 : Int32) (Q : Int32 → sj_W → Prop) (E : Int32 → sj_W → Prop) (K : Int32 → Int32 → sj_W → Prop) (v4 : Int32) (v5 : Int32) (w : sj_W) : Prop := ((f3 ≤ v5 → E v4 w) ∧ (¬ f3 ≤ v5 → sj_lp2 (vb_X7_longest_37 f0 f1 f2 f3 v5 Q (fun z4_37 w_37 => K z4_37 (v5 + 1) w_37)) 64 v4 0 w))
def vc_X7_longest (self : Nat) (a1 : Int32) (a2 : Int32) (w : sj_W) (Q : Int32 → sj_W → Prop) : Prop := sj_T w self = 6 ∧ vc_X7_noRow self a1 a2 w (fun r1 w2 => sj_T w2 self = 6 ∧ vc_X7_fails self r1 w2 (fun r4 w5 => ((r4 = 0 → sj_T w5 self = 6 ∧ vc_X7_size self a1 a2 w5 (fun r8 w9 => sj_lp2 (vb_X7_longest_28 self a1 a2 r8 Q (fun z4_28 w_28 => Q z4_28 w_28)) 64 0 0 w9)) ∧ (¬ r4 = 0 → Q 0 w5))))
set_option maxHeartbeats 4000000 in
set_option maxRecDepth 100000 in
theorem wl_X7_longest_37 {p : Program} {l : Launch} {e : Env} {s : State} {m : MethodId} {args : Array Value} {below : List Frame} {meth : Method} {c : Code} {G : sj_G} {f0 : Nat} {f1 : Int32} {f2 : Int32} {f3 : Int32} {f5 : Int32} {Q : Int32 → sj_W → Prop} {QX : String → sj_W → Prop} {E : Int32 → sj_W → Prop} (hC : sj_C G p l s m args c cX7_longest RX7 8) (hD : sj_D meth c) (hr : meth.sig.returnType = (some .int)) (hin : meth.name = "longest") (hE : ∀ (v4 : Int32) (w : sj_W) (H : Heap) (locs : List Loc) (ls : Array Slot), lv_has ls 8 [(0, .ref f0), (1, .int f1), (2, .int f2), (3, .int f3), (4, .int v4), (5, .int f5)] → sj_H G s w H locs → E v4 w → W p l e rm_X7_longest s m args below meth c H locs 0 0 (sj_MQ G below (va_Qi Q (sj_B G) (sj_F G)) QX args s rm_X7_longest) (F0 m 87 ls [])) : ∀ (n : Nat) (v4 : Int32) (v6 : Int32) (w : sj_W) (H : Heap) (locs : List Loc) (ls : Array Slot), lv_has ls 8 [(0, .ref f0), (1, .int f1), (2, .int f2), (3, .int f3), (4, .int v4), (5, .int f5), (6, .int v6)] → sj_H G s w H locs → sj_lp2 (vb_X7_longest_37 f0 f1 f2 f3 f5 Q E) n v4 v6 w → W p l e rm_X7_longest s m args below meth c H locs 0 0 (sj_MQ G below (va_Qi Q (sj_B G) (sj_F G)) QX args s rm_X7_longest) (F0 m 37 ls []) := by
  have hx := hC.1
  have hb := hC.2.1
  intro n
  induction n with
  | zero =>
    intro v4 v6 w H locs ls _ _ hv
    exact hv.elim
  | succ n ih =>
    intro v4 v6 w H locs ls hl hH hv
    have hv : vb_X7_longest_37 f0 f1 f2 f3 f5 Q E (sj_lp2 (vb_X7_longest_37 f0 f1 f2 f3 f5 Q E) n) v4 v6 w := hv
    have hc1 : rm_X7_longest.cells = 0 := rfl
    have hc2 : rm_X7_longest.slots = 0 := rfl
    refine lv_iload hx hb dX7_longest_37 (lv_at hl 6 rfl) ?_
    refine lv_iload hx hb dX7_longest_39 (lv_at hl 5 rfl) ?_
    refine lv_icmp_ge (tgt := 87) hx hb dX7_longest_41 (by decide) (fun hc => ?_) (fun hc => ?_)
    · have hv13 := hv.1 hc
      exact hE v4 w _ _ _ (lv_sub hl [0, 1, 2, 3, 4, 5] rfl) hH hv13
    · have hv14 := hv.2 hc
      refine lv_aload_n hx hb dX7_longest_44 rfl (lv_at hl 0 rfl) ?_
      refine lv_iload_n hx hb dX7_longest_45 rfl (lv_at hl 1 rfl) ?_
      refine lv_iload_n hx hb dX7_longest_46 rfl (lv_at hl 2 rfl) ?_
      refine lv_iload hx hb dX7_longest_47 (lv_at hl 6 rfl) ?_
      refine lv_iload_n hx hb dX7_longest_49 rfl (lv_at hl 3 rfl) ?_
      refine lv_iload hx hb dX7_longest_50 (lv_at hl 6 rfl) ?_
      refine lv_isub hx hb dX7_longest_52 ?_
      refine lv_iload_n hx hb dX7_longest_53 rfl (lv_at hl 2 rfl) ?_
      refine lv_iload hx hb dX7_longest_54 (lv_at hl 5 rfl) ?_
      refine lv_iload_n hx hb dX7_longest_56 rfl (lv_at hl 3 rfl) ?_
      refine lv_iload hx hb dX7_longest_57 (lv_at hl 5 rfl) ?_
      refine lv_isub hx hb dX7_longest_59 ?_
      refine cl_X7_114 hC hD hH hv14.2 hv14.1 ⟨Nat.le_of_ble_eq_true rfl, Nat.le_of_ble_eq_true rfl⟩ ⟨(Nat.le_of_ble_eq_true rfl), (Nat.le_of_ble_eq_true rfl)⟩ ⟨(Nat.le_of_ble_eq_true rfl), (Nat.le_of_ble_eq_true rfl)⟩ hl.1 (Nat.le_of_ble_eq_true rfl) dX7_longest_60 (fun r15 w16 H locs hH hv17 => ?_)
      refine lv_istore (lv' := [(7, .int r15), (0, .ref f0), (1, .int f1), (2, .int f2), (3, .int f3), (4, .int v4), (5, .int f5), (6, .int v6)]) hx hb dX7_longest_63 hl (by decide) rfl (fun ls hl => ?_)
      refine lv_iload hx hb dX7_longest_65 (lv_at hl 0 rfl) ?_
      refine lv_iload hx hb dX7_longest_67 (lv_at hl 5 rfl) ?_
      refine lv_icmp_le (tgt := 77) hx hb dX7_longest_69 (by decide) (fun hc => ?_) (fun hc => ?_)
      · have hv18 := hv17.1 hc
        refine lv_iload hx hb dX7_longest_77 (lv_at hl 5 rfl) ?_
        refine lv_istore (lv' := [(4, .int v4), (7, .int r15), (0, .ref f0), (1, .int f1), (2, .int f2), (3, .int f3), (5, .int f5), (6, .int v6)]) hx hb dX7_longest_79 hl (by decide) rfl (fun ls hl => ?_)
        refine lv_iinc (v := (v6 + 1)) (lv' := [(6, .int (v6 + 1)), (4, .int v4), (7, .int r15), (0, .ref f0), (1, .int f1), (2, .int f2), (3, .int f3), (5, .int f5)]) hx hb dX7_longest_81 hl (k := 7) rfl rfl (by decide) rfl (fun ls hl => ?_)
        refine lv_goto (tgt := 37) hx hb dX7_longest_84 (by decide) ?_
        exact ih v4 (v6 + 1) w16 _ _ _ (lv_sub hl [3, 4, 5, 6, 1, 7, 0] rfl) hH hv18
      · have hv19 := hv17.2 hc
        refine lv_iload hx hb dX7_longest_72 (lv_at hl 0 rfl) ?_
        refine lv_goto (tgt := 79) hx hb dX7_longest_74 (by decide) ?_
        refine lv_istore (lv' := [(4, .int r15), (7, .int r15), (0, .ref f0), (1, .int f1), (2, .int f2), (3, .int f3), (5, .int f5), (6, .int v6)]) hx hb dX7_longest_79 hl (by decide) rfl (fun ls hl => ?_)
        refine lv_iinc (v := (v6 + 1)) (lv' := [(6, .int (v6 + 1)), (4, .int r15), (7, .int r15), (0, .ref f0), (1, .int f1), (2, .int f2), (3, .int f3), (5, .int f5)]) hx hb dX7_longest_81 hl (k := 7) rfl rfl (by decide) rfl (fun ls hl => ?_)
        refine lv_goto (tgt := 37) hx hb dX7_longest_84 (by decide) ?_
        exact ih r15 (v6 + 1) w16 _ _ _ (lv_sub hl [3, 4, 5, 6, 1, 7, 0] rfl) hH hv19
set_option maxHeartbeats 4000000 in
set_option maxRecDepth 100000 in
theorem wl_X7_longest_28 {p : Program} {l : Launch} {e : Env} {s : State} {m : MethodId} {args : Array Value} {below : List Frame} {meth : Method} {c : Code} {G : sj_G} {f0 : Nat} {f1 : Int32} {f2 : Int32} {f3 : Int32} {Q : Int32 → sj_W → Prop} {QX : String → sj_W → Prop} {E : Int32 → sj_W → Prop} (hC : sj_C G p l s m args c cX7_longest RX7 8) (hD : sj_D meth c) (hr : meth.sig.returnType = (some .int)) (hin : meth.name = "longest") (hE : ∀ (v4 : Int32) (w : sj_W) (H : Heap) (locs : List Loc) (ls : Array Slot), lv_has ls 8 [(4, .int v4)] → sj_H G s w H locs → E v4 w → W p l e rm_X7_longest s m args below meth c H locs 0 0 (sj_MQ G below (va_Qi Q (sj_B G) (sj_F G)) QX args s rm_X7_longest) (F0 m 93 ls [])) : ∀ (n : Nat) (v4 : Int32) (v5 : Int32) (w : sj_W) (H : Heap) (locs : List Loc) (ls : Array Slot), lv_has ls 8 [(0, .ref f0), (1, .int f1), (2, .int f2), (3, .int f3), (4, .int v4), (5, .int v5)] → sj_H G s w H locs → sj_lp2 (vb_X7_longest_28 f0 f1 f2 f3 Q E) n v4 v5 w → W p l e rm_X7_longest s m args below meth c H locs 0 0 (sj_MQ G below (va_Qi Q (sj_B G) (sj_F G)) QX args s rm_X7_longest) (F0 m 28 ls []) := by
  have hx := hC.1
  have hb := hC.2.1
  intro n
  induction n with
  | zero =>
    intro v4 v5 w H locs ls _ _ hv
    exact hv.elim
  | succ n ih =>
    intro v4 v5 w H locs ls hl hH hv
    have hv : vb_X7_longest_28 f0 f1 f2 f3 Q E (sj_lp2 (vb_X7_longest_28 f0 f1 f2 f3 Q E) n) v4 v5 w := hv
    have hc1 : rm_X7_longest.cells = 0 := rfl
    have hc2 : rm_X7_longest.slots = 0 := rfl
    refine lv_iload hx hb dX7_longest_28 (lv_at hl 5 rfl) ?_
    refine lv_iload_n hx hb dX7_longest_30 rfl (lv_at hl 3 rfl) ?_
    refine lv_icmp_ge (tgt := 93) hx hb dX7_longest_31 (by decide) (fun hc => ?_) (fun hc => ?_)
    · have hv11 := hv.1 hc
      exact hE v4 w _ _ _ (lv_sub hl [4] rfl) hH hv11
    · have hv12 := hv.2 hc
      refine lv_iconst (v := 0) hx hb dX7_longest_34 (by decide) ?_
      refine lv_istore (lv' := [(6, .int 0), (0, .ref f0), (1, .int f1), (2, .int f2), (3, .int f3), (4, .int v4), (5, .int v5)]) hx hb dX7_longest_35 hl (by decide) rfl (fun ls hl => ?_)
      refine wl_X7_longest_37 hC hD hr hin (fun z4_37 w_37 H locs ls hl hH hv20 => ?_) 64 v4 0 w _ _ _ (lv_sub hl [1, 2, 3, 4, 5, 6, 0] rfl) hH hv12
      refine lv_iinc (v := (v5 + 1)) (lv' := [(5, .int (v5 + 1)), (0, .ref f0), (1, .int f1), (2, .int f2), (3, .int f3), (4, .int z4_37)]) hx hb dX7_longest_87 hl (k := 5) rfl rfl (by decide) rfl (fun ls hl => ?_)
      refine lv_goto (tgt := 28) hx hb dX7_longest_90 (by decide) ?_
      exact ih z4_37 (v5 + 1) w_37 _ _ _ (lv_sub hl [1, 2, 3, 4, 5, 0] rfl) hH hv20
set_option maxHeartbeats 4000000 in
set_option maxRecDepth 100000 in
theorem wk_X7_longest (G : sj_G) (l : Launch) (hlt : l.stackTraces = false) (self : Nat) (a1 : Int32) (a2 : Int32) (w : sj_W) (Q : Int32 → sj_W → Prop) (QX : String → sj_W → Prop) (hv : vc_X7_longest self a1 a2 w Q) : sj_MI G l yX7_longest (sj_ws yX7_longest cX7_longest 8 (some .int)) rm_X7_longest [.ref self, .int a1, .int a2] w Q QX := by
  refine sj_of (by decide +kernel) (Nat.le_of_ble_eq_true rfl) hlt ?_
  intro p e s m args below meth c ls hC hD hr hin hH hl
  have hx := hC.1
  have hb := hC.2.1
  have hl : lv_has ls 8 [(0, .ref self), (1, .int a1), (2, .int a2)] := hl
  refine lv_aload_n hx hb dX7_longest_0 rfl (lv_at hl 0 rfl) ?_
  refine lv_aload_n hx hb dX7_longest_1 rfl (lv_at hl 0 rfl) ?_
  refine lv_iload_n hx hb dX7_longest_2 rfl (lv_at hl 1 rfl) ?_
  refine lv_iload_n hx hb dX7_longest_3 rfl (lv_at hl 2 rfl) ?_
  refine cl_X7_84 hC hD hH hv.2 hv.1 ⟨Nat.le_of_ble_eq_true rfl, Nat.le_of_ble_eq_true rfl⟩ ⟨(Nat.le_of_ble_eq_true rfl), (Nat.le_of_ble_eq_true rfl)⟩ ⟨(Nat.le_of_ble_eq_true rfl), (Nat.le_of_ble_eq_true rfl)⟩ hl.1 (Nat.le_of_ble_eq_true rfl) dX7_longest_4 (fun r1 w2 H locs hH hv3 => ?_)
  refine cl_X7_73 hC hD hH hv3.2 hv3.1 ⟨Nat.le_of_ble_eq_true rfl, Nat.le_of_ble_eq_true rfl⟩ ⟨(Nat.le_of_ble_eq_true rfl), (Nat.le_of_ble_eq_true rfl)⟩ ⟨(Nat.le_of_ble_eq_true rfl), (Nat.le_of_ble_eq_true rfl)⟩ hl.1 (Nat.le_of_ble_eq_true rfl) dX7_longest_7 (fun r4 w5 H locs hH hv6 => ?_)
  refine lv_if_eq (tgt := 15) hx hb dX7_longest_10 (by decide) (fun hc => ?_) (fun hc => ?_)
  · have hv7 := hv6.1 hc
    refine lv_aload_n hx hb dX7_longest_15 rfl (lv_at hl 0 rfl) ?_
    refine lv_iload_n hx hb dX7_longest_16 rfl (lv_at hl 1 rfl) ?_
    refine lv_iload_n hx hb dX7_longest_17 rfl (lv_at hl 2 rfl) ?_
    refine cl_X7_69 hC hD hH hv7.2 hv7.1 ⟨Nat.le_of_ble_eq_true rfl, Nat.le_of_ble_eq_true rfl⟩ ⟨(Nat.le_of_ble_eq_true rfl), (Nat.le_of_ble_eq_true rfl)⟩ ⟨(Nat.le_of_ble_eq_true rfl), (Nat.le_of_ble_eq_true rfl)⟩ hl.1 (Nat.le_of_ble_eq_true rfl) dX7_longest_18 (fun r8 w9 H locs hH hv10 => ?_)
    refine lv_istore_n (lv' := [(3, .int r8), (0, .ref self), (1, .int a1), (2, .int a2)]) hx hb dX7_longest_21 rfl hl (by decide) rfl (fun ls hl => ?_)
    refine lv_iconst (v := 0) hx hb dX7_longest_22 (by decide) ?_
    refine lv_istore (lv' := [(4, .int 0), (3, .int r8), (0, .ref self), (1, .int a1), (2, .int a2)]) hx hb dX7_longest_23 hl (by decide) rfl (fun ls hl => ?_)
    refine lv_iconst (v := 0) hx hb dX7_longest_25 (by decide) ?_
    refine lv_istore (lv' := [(5, .int 0), (4, .int 0), (3, .int r8), (0, .ref self), (1, .int a1), (2, .int a2)]) hx hb dX7_longest_26 hl (by decide) rfl (fun ls hl => ?_)
    refine wl_X7_longest_28 hC hD hr hin (fun z4_28 w_28 H locs ls hl hH hv21 => ?_) 64 0 0 w9 _ _ _ (lv_sub hl [3, 4, 5, 2, 1, 0] rfl) hH hv10
    refine lv_iload hx hb dX7_longest_93 (lv_at hl 0 rfl) ?_
    exact sj_retI hC hD.2 hH hr rfl hv21 ⟨(Nat.le_of_ble_eq_true rfl), (Nat.le_of_ble_eq_true rfl)⟩ dX7_longest_95
  · have hv22 := hv6.2 hc
    refine lv_iconst (v := 0) hx hb dX7_longest_13 (by decide) ?_
    exact sj_retI hC hD.2 hH hr rfl hv22 ⟨(Nat.le_of_ble_eq_true rfl), (Nat.le_of_ble_eq_true rfl)⟩ dX7_longest_14
section SJL_X7_longest
variable {p : Program} {l : Launch} {e : Env} {R : Room} {s : State} {m : MethodId} {args : Array Value} {below : List Frame} {meth : Method} {c : Code} {H : Heap} {locs : List Loc} {cells slots : Nat} {Q : State → Prop} {cc : ByteArray} {pc : Nat} {ls : Array Slot} {rest : List Value} {G : sj_G} {nL : Nat} {w : sj_W}
theorem cg_L_224 {b : Nat} {b0 : Int32} {b1 : Int32} {Qi : Int32 → sj_W → Prop} (hC : sj_C G p l s m args c cc RL nL) (hH : sj_H G s w H locs) (hv : vc_X7_longest b b0 b1 w Qi) (hT : sj_T w b = 6) (hR : rm_X7_longest.frames + 1 ≤ R.frames ∧ 8 + (8 + 11) + rm_X7_longest.locals ≤ R.locals) (hf : cells + 0 ≤ R.cells ∧ slots + 0 ≤ R.slots) (hls : ls.size = nL) (hW : (rest.map fun v => v.category).sum ≤ 8) (hdg : decode cc pc = .ok (.invokevirtual 224, 3)) (kk : ∀ (r : Int32) (w1 : sj_W) (H : Heap) (locs : List Loc), sj_H G s w1 H locs → Qi r w1 → W p l e R s m args below meth c H locs (cells + 0) (slots + 0) Q (F0 m (pc + 3) ls (.int r :: rest))) : W p l e R s m args below meth c H locs cells slots Q (F0 m pc ls (.int b1 :: .int b0 :: .ref b :: rest)) :=
  sj_xI hH (sj_runV (n := 2) hC hH (As := [.int b0, .int b1]) (wk_X7_longest G l hC.2.2.2.2.2.2 b b0 b1 w Qi (fun _ _ => False) hv) (ci := 5) rfl (by decide) hT mb_924 mb_925 mb_926 mb_5 mb_927 (by decide +kernel) hR hf rfl hls hW hdg) (fun _ _ _ _ _ _ _ h _ _ _ => h.elim) kk
end SJL_X7_longest
abbrev rm_X7_mean : Room := { frames := 2, cells := 0, slots := 0, locals := 42 }
def vb_X7_mean_25 (f0 : Nat) (f1 : Int32) (Q : UInt64 → sj_W → Prop) (E : Int32 → sj_W → Prop) (K : Int32 → Int32 → sj_W → Prop) (v2 : Int32) (v3 : Int32) (w : sj_W) : Prop := ((4 ≤ v3 → E v2 w) ∧ (¬ 4 ≤ v3 → sj_T w f0 = 6 ∧ vc_X7_size f0 f1 v3 w (fun r18 w19 => K (v2 + r18) (v3 + 1) w19)))
def vc_X7_mean (self : Nat) (a1 : Int32) (w : sj_W) (Q : UInt64 → sj_W → Prop) : Prop := vc_X7_isKind a1 w (fun r1 w2 => sj_jn2 (fun (E4 : Int32 → Nat → sj_W → Prop) => ((r1 = 0 → E4 1 self w2) ∧ (¬ r1 = 0 → E4 0 self w2))) (fun (y0_13 : Int32) (y1_13 : Nat) (w_13 : sj_W) => sj_T w_13 y1_13 = 6 ∧ vc_X7_fails y1_13 y0_13 w_13 (fun r12 w13 => ((r12 = 0 → sj_lp2 (vb_X7_mean_25 self a1 Q (fun z2_25 w_25 => vf_n64 (FP.ddiv (FP.i2d z2_25) 4616189618054758400) ∧ Q (FP.ddiv (FP.i2d z2_25) 4616189618054758400) w_25)) 64 0 0 w13) ∧ (¬ r12 = 0 → Q (FP.dconst0) w13)))))
set_option maxHeartbeats 4000000 in
set_option maxRecDepth 100000 in
theorem wl_X7_mean_25 {p : Program} {l : Launch} {e : Env} {s : State} {m : MethodId} {args : Array Value} {below : List Frame} {meth : Method} {c : Code} {G : sj_G} {f0 : Nat} {f1 : Int32} {Q : UInt64 → sj_W → Prop} {QX : String → sj_W → Prop} {E : Int32 → sj_W → Prop} (hC : sj_C G p l s m args c cX7_mean RX7 4) (hD : sj_D meth c) (hr : meth.sig.returnType = (some .double)) (hin : meth.name = "mean") (hE : ∀ (v2 : Int32) (w : sj_W) (H : Heap) (locs : List Loc) (ls : Array Slot), lv_has ls 4 [(2, .int v2)] → sj_H G s w H locs → E v2 w → W p l e rm_X7_mean s m args below meth c H locs 0 0 (sj_MQ G below (va_Qd Q (sj_B G) (sj_F G)) QX args s rm_X7_mean) (F0 m 45 ls [])) : ∀ (n : Nat) (v2 : Int32) (v3 : Int32) (w : sj_W) (H : Heap) (locs : List Loc) (ls : Array Slot), lv_has ls 4 [(0, .ref f0), (1, .int f1), (2, .int v2), (3, .int v3)] → sj_H G s w H locs → sj_lp2 (vb_X7_mean_25 f0 f1 Q E) n v2 v3 w → W p l e rm_X7_mean s m args below meth c H locs 0 0 (sj_MQ G below (va_Qd Q (sj_B G) (sj_F G)) QX args s rm_X7_mean) (F0 m 25 ls []) := by
  have hx := hC.1
  have hb := hC.2.1
  intro n
  induction n with
  | zero =>
    intro v2 v3 w H locs ls _ _ hv
    exact hv.elim
  | succ n ih =>
    intro v2 v3 w H locs ls hl hH hv
    have hv : vb_X7_mean_25 f0 f1 Q E (sj_lp2 (vb_X7_mean_25 f0 f1 Q E) n) v2 v3 w := hv
    have hc1 : rm_X7_mean.cells = 0 := rfl
    have hc2 : rm_X7_mean.slots = 0 := rfl
    refine lv_iload_n hx hb dX7_mean_25 rfl (lv_at hl 3 rfl) ?_
    refine lv_iconst (v := 4) hx hb dX7_mean_26 (by decide) ?_
    refine lv_icmp_ge (tgt := 45) hx hb dX7_mean_27 (by decide) (fun hc => ?_) (fun hc => ?_)
    · have hv16 := hv.1 hc
      exact hE v2 w _ _ _ (lv_sub hl [2] rfl) hH hv16
    · have hv17 := hv.2 hc
      refine lv_iload_n hx hb dX7_mean_30 rfl (lv_at hl 2 rfl) ?_
      refine lv_aload_n hx hb dX7_mean_31 rfl (lv_at hl 0 rfl) ?_
      refine lv_iload_n hx hb dX7_mean_32 rfl (lv_at hl 1 rfl) ?_
      refine lv_iload_n hx hb dX7_mean_33 rfl (lv_at hl 3 rfl) ?_
      refine cl_X7_69 hC hD hH hv17.2 hv17.1 ⟨Nat.le_of_ble_eq_true rfl, Nat.le_of_ble_eq_true rfl⟩ ⟨(Nat.le_of_ble_eq_true rfl), (Nat.le_of_ble_eq_true rfl)⟩ ⟨(Nat.le_of_ble_eq_true rfl), (Nat.le_of_ble_eq_true rfl)⟩ hl.1 (Nat.le_of_ble_eq_true rfl) dX7_mean_34 (fun r18 w19 H locs hH hv20 => ?_)
      refine lv_iadd hx hb dX7_mean_37 ?_
      refine lv_istore_n (lv' := [(2, .int (v2 + r18)), (0, .ref f0), (1, .int f1), (3, .int v3)]) hx hb dX7_mean_38 rfl hl (by decide) rfl (fun ls hl => ?_)
      refine lv_iinc (v := (v3 + 1)) (lv' := [(3, .int (v3 + 1)), (2, .int (v2 + r18)), (0, .ref f0), (1, .int f1)]) hx hb dX7_mean_39 hl (k := 3) rfl rfl (by decide) rfl (fun ls hl => ?_)
      refine lv_goto (tgt := 25) hx hb dX7_mean_42 (by decide) ?_
      exact ih (v2 + r18) (v3 + 1) w19 _ _ _ (lv_sub hl [2, 3, 1, 0] rfl) hH hv20
set_option maxHeartbeats 4000000 in
set_option maxRecDepth 100000 in
theorem wk_X7_mean (G : sj_G) (l : Launch) (hlt : l.stackTraces = false) (self : Nat) (a1 : Int32) (w : sj_W) (Q : UInt64 → sj_W → Prop) (QX : String → sj_W → Prop) (hv : vc_X7_mean self a1 w Q) : sj_MD G l yX7_mean (sj_ws yX7_mean cX7_mean 4 (some .double)) rm_X7_mean [.ref self, .int a1] w Q QX := by
  refine sj_of (by decide +kernel) (Nat.le_of_ble_eq_true rfl) hlt ?_
  intro p e s m args below meth c ls hC hD hr hin hH hl
  have hx := hC.1
  have hb := hC.2.1
  have hl : lv_has ls 4 [(0, .ref self), (1, .int a1)] := hl
  refine lv_aload_n hx hb dX7_mean_0 rfl (lv_at hl 0 rfl) ?_
  refine lv_iload_n hx hb dX7_mean_1 rfl (lv_at hl 1 rfl) ?_
  refine cl_X7_57 hC hD hH hv ⟨Nat.le_of_ble_eq_true rfl, Nat.le_of_ble_eq_true rfl⟩ ⟨(Nat.le_of_ble_eq_true rfl), (Nat.le_of_ble_eq_true rfl)⟩ ⟨(Nat.le_of_ble_eq_true rfl), (Nat.le_of_ble_eq_true rfl)⟩ hl.1 (Nat.le_of_ble_eq_true rfl) dX7_mean_2 (fun r1 w2 H locs hH hv3 => ?_)
  obtain ⟨E4, hE5, hv8⟩ := sj_jn2_e hv3
  have hJ6 : ∀ (y0_13 : Int32) (y1_13 : Nat) (w_13 : sj_W) (H : Heap) (locs : List Loc) (ls : Array Slot), lv_has ls 4 [(0, .ref self), (1, .int a1)] → sj_H G s w_13 H locs → E4 y0_13 y1_13 w_13 → W p l e rm_X7_mean s m args below meth c H locs 0 0 (sj_MQ G below (va_Qd Q (sj_B G) (sj_F G)) QX args s rm_X7_mean) (F0 m 13 ls [.int y0_13, .ref y1_13]) := by
    intro y0_13 y1_13 w_13 H locs ls hl hH hv9
    rw [hE5] at hv9
    refine cl_X7_73 hC hD hH hv9.2 hv9.1 ⟨Nat.le_of_ble_eq_true rfl, Nat.le_of_ble_eq_true rfl⟩ ⟨(Nat.le_of_ble_eq_true rfl), (Nat.le_of_ble_eq_true rfl)⟩ ⟨(Nat.le_of_ble_eq_true rfl), (Nat.le_of_ble_eq_true rfl)⟩ hl.1 (Nat.le_of_ble_eq_true rfl) dX7_mean_13 (fun r12 w13 H locs hH hv14 => ?_)
    refine lv_if_eq (tgt := 21) hx hb dX7_mean_16 (by decide) (fun hc => ?_) (fun hc => ?_)
    · have hv15 := hv14.1 hc
      refine lv_iconst (v := 0) hx hb dX7_mean_21 (by decide) ?_
      refine lv_istore_n (lv' := [(2, .int 0), (0, .ref self), (1, .int a1)]) hx hb dX7_mean_22 rfl hl (by decide) rfl (fun ls hl => ?_)
      refine lv_iconst (v := 0) hx hb dX7_mean_23 (by decide) ?_
      refine lv_istore_n (lv' := [(3, .int 0), (2, .int 0), (0, .ref self), (1, .int a1)]) hx hb dX7_mean_24 rfl hl (by decide) rfl (fun ls hl => ?_)
      refine wl_X7_mean_25 hC hD hr hin (fun z2_25 w_25 H locs ls hl hH hv21 => ?_) 64 0 0 w13 _ _ _ (lv_sub hl [2, 3, 1, 0] rfl) hH hv15
      refine lv_iload_n hx hb dX7_mean_45 rfl (lv_at hl 0 rfl) ?_
      refine lv_i2d hx hb dX7_mean_46 ?_
      refine lv_ldc2d (v := 4616189618054758400) hx hb hC.2.2.2.1 (hC.2.2.2.2.1 _ mb_980) dX7_mean_47 ?_
      refine lv_ddiv hx hb dX7_mean_50 hv21.1 ?_
      exact sj_retD hC hD.2 hH hr hv21.2 ⟨(Nat.le_of_ble_eq_true rfl), (Nat.le_of_ble_eq_true rfl)⟩ dX7_mean_51
    · have hv22 := hv14.2 hc
      refine lv_dconst0 hx hb dX7_mean_19 ?_
      exact sj_retD hC hD.2 hH hr hv22 ⟨(Nat.le_of_ble_eq_true rfl), (Nat.le_of_ble_eq_true rfl)⟩ dX7_mean_20
  clear hE5
  refine lv_if_eq (tgt := 12) hx hb dX7_mean_5 (by decide) (fun hc => ?_) (fun hc => ?_)
  · have hv10 := hv8.1 hc
    refine lv_iconst (v := 1) hx hb dX7_mean_12 (by decide) ?_
    exact hJ6 1 self w2 _ _ _ (lv_sub hl [0, 1] rfl) hH hv10
  · have hv11 := hv8.2 hc
    refine lv_iconst (v := 0) hx hb dX7_mean_8 (by decide) ?_
    refine lv_goto (tgt := 13) hx hb dX7_mean_9 (by decide) ?_
    exact hJ6 0 self w2 _ _ _ (lv_sub hl [0, 1] rfl) hH hv11
section SJL_X7_mean
variable {p : Program} {l : Launch} {e : Env} {R : Room} {s : State} {m : MethodId} {args : Array Value} {below : List Frame} {meth : Method} {c : Code} {H : Heap} {locs : List Loc} {cells slots : Nat} {Q : State → Prop} {cc : ByteArray} {pc : Nat} {ls : Array Slot} {rest : List Value} {G : sj_G} {nL : Nat} {w : sj_W}
theorem cg_L_252 {b : Nat} {b0 : Int32} {Qi : UInt64 → sj_W → Prop} (hC : sj_C G p l s m args c cc RL nL) (hH : sj_H G s w H locs) (hv : vc_X7_mean b b0 w Qi) (hT : sj_T w b = 6) (hR : rm_X7_mean.frames + 1 ≤ R.frames ∧ 8 + (4 + 11) + rm_X7_mean.locals ≤ R.locals) (hf : cells + 0 ≤ R.cells ∧ slots + 0 ≤ R.slots) (hls : ls.size = nL) (hW : (rest.map fun v => v.category).sum ≤ 8) (hdg : decode cc pc = .ok (.invokevirtual 252, 3)) (kk : ∀ (r : UInt64) (w1 : sj_W) (H : Heap) (locs : List Loc), sj_H G s w1 H locs → Qi r w1 → W p l e R s m args below meth c H locs (cells + 0) (slots + 0) Q (F0 m (pc + 3) ls (.double r :: rest))) : W p l e R s m args below meth c H locs cells slots Q (F0 m pc ls (.int b0 :: .ref b :: rest)) :=
  sj_xD hH (sj_runV (n := 1) hC hH (As := [.int b0]) (wk_X7_mean G l hC.2.2.2.2.2.2 b b0 w Qi (fun _ _ => False) hv) (ci := 5) rfl (by decide) hT mb_976 mb_977 mb_978 mb_5 mb_979 (by decide +kernel) hR hf rfl hls hW hdg) (fun _ _ _ _ _ _ _ h _ _ _ => h.elim) kk
end SJL_X7_mean
abbrev rm_X7_number : Room := { frames := 2, cells := 0, slots := 0, locals := 45 }
def vc_X7_number (self : Nat) (a1 : Int32) (a2 : Int32) (a3 : Int32) (w : sj_W) (Q : Int64 → sj_W → Prop) : Prop := vc_X7_isKind a1 w (fun r1 w2 => sj_jn2 (fun (E4 : Int32 → Nat → sj_W → Prop) => ((¬ r1 = 0 → vc_X7_isRow a2 w2 (fun r11 w12 => ((r11 = 0 → E4 2 self w12) ∧ (¬ r11 = 0 → sj_T w12 self = 6 ∧ vc_X7_size self a1 a2 w12 (fun r16 w17 => vc_X7_in (a3.toInt64) 0 ((r16 - 1).toInt64) w17 (fun r19 w20 => ((¬ r19 = 0 → E4 0 self w20) ∧ (r19 = 0 → E4 2 self w20)))))))) ∧ (r1 = 0 → E4 1 self w2))) (fun (y0_42 : Int32) (y1_42 : Nat) (w_42 : sj_W) => sj_T w_42 y1_42 = 6 ∧ vc_X7_fails y1_42 y0_42 w_42 (fun r25 w26 => ((r25 = 0 → sj_T w26 self = 6 ∧ sj_A w26 40 self ≠ 0 ∧ sj_T w26 self = 6 ∧ vc_X7_at self a1 a2 a3 w26 (fun r29 w30 => sj_T w30 (sj_A w26 40 self) = 8 ∧ vp_in r29 (sj_N w30 (sj_A w26 40 self)) ∧ Q (sj_l w30 (sj_A w26 40 self) r29.toNatClampNeg) w30)) ∧ (¬ r25 = 0 → Q 0 w26)))))
set_option maxHeartbeats 4000000 in
set_option maxRecDepth 100000 in
theorem wk_X7_number (G : sj_G) (l : Launch) (hlt : l.stackTraces = false) (self : Nat) (a1 : Int32) (a2 : Int32) (a3 : Int32) (w : sj_W) (Q : Int64 → sj_W → Prop) (QX : String → sj_W → Prop) (hv : vc_X7_number self a1 a2 a3 w Q) : sj_ML G l yX7_number (sj_ws yX7_number cX7_number 4 (some .long)) rm_X7_number [.ref self, .int a1, .int a2, .int a3] w Q QX := by
  refine sj_of (by decide +kernel) (Nat.le_of_ble_eq_true rfl) hlt ?_
  intro p e s m args below meth c ls hC hD hr hin hH hl
  have hx := hC.1
  have hb := hC.2.1
  have hl : lv_has ls 4 [(0, .ref self), (1, .int a1), (2, .int a2), (3, .int a3)] := hl
  refine lv_aload_n hx hb dX7_number_0 rfl (lv_at hl 0 rfl) ?_
  refine lv_iload_n hx hb dX7_number_1 rfl (lv_at hl 1 rfl) ?_
  refine cl_X7_57 hC hD hH hv ⟨Nat.le_of_ble_eq_true rfl, Nat.le_of_ble_eq_true rfl⟩ ⟨(Nat.le_of_ble_eq_true rfl), (Nat.le_of_ble_eq_true rfl)⟩ ⟨(Nat.le_of_ble_eq_true rfl), (Nat.le_of_ble_eq_true rfl)⟩ hl.1 (Nat.le_of_ble_eq_true rfl) dX7_number_2 (fun r1 w2 H locs hH hv3 => ?_)
  obtain ⟨E4, hE5, hv8⟩ := sj_jn2_e hv3
  have hJ6 : ∀ (y0_42 : Int32) (y1_42 : Nat) (w_42 : sj_W) (H : Heap) (locs : List Loc) (ls : Array Slot), lv_has ls 4 [(0, .ref self), (1, .int a1), (2, .int a2), (3, .int a3)] → sj_H G s w_42 H locs → E4 y0_42 y1_42 w_42 → W p l e rm_X7_number s m args below meth c H locs 0 0 (sj_MQ G below (va_Ql Q (sj_B G) (sj_F G)) QX args s rm_X7_number) (F0 m 42 ls [.int y0_42, .ref y1_42]) := by
    intro y0_42 y1_42 w_42 H locs ls hl hH hv9
    rw [hE5] at hv9
    refine cl_X7_73 hC hD hH hv9.2 hv9.1 ⟨Nat.le_of_ble_eq_true rfl, Nat.le_of_ble_eq_true rfl⟩ ⟨(Nat.le_of_ble_eq_true rfl), (Nat.le_of_ble_eq_true rfl)⟩ ⟨(Nat.le_of_ble_eq_true rfl), (Nat.le_of_ble_eq_true rfl)⟩ hl.1 (Nat.le_of_ble_eq_true rfl) dX7_number_42 (fun r25 w26 H locs hH hv27 => ?_)
    refine lv_if_eq (tgt := 50) hx hb dX7_number_45 (by decide) (fun hc => ?_) (fun hc => ?_)
    · have hv28 := hv27.1 hc
      refine lv_aload_n hx hb dX7_number_50 rfl (lv_at hl 0 rfl) ?_
      refine gf_X7_7 hC hH hv28.1 hv28.2.1 dX7_number_51 ?_
      refine lv_aload_n hx hb dX7_number_54 rfl (lv_at hl 0 rfl) ?_
      refine lv_iload_n hx hb dX7_number_55 rfl (lv_at hl 1 rfl) ?_
      refine lv_iload_n hx hb dX7_number_56 rfl (lv_at hl 2 rfl) ?_
      refine lv_iload_n hx hb dX7_number_57 rfl (lv_at hl 3 rfl) ?_
      refine cl_X7_76 hC hD hH hv28.2.2.2 hv28.2.2.1 ⟨Nat.le_of_ble_eq_true rfl, Nat.le_of_ble_eq_true rfl⟩ ⟨(Nat.le_of_ble_eq_true rfl), (Nat.le_of_ble_eq_true rfl)⟩ ⟨(Nat.le_of_ble_eq_true rfl), (Nat.le_of_ble_eq_true rfl)⟩ hl.1 (Nat.le_of_ble_eq_true rfl) dX7_number_58 (fun r29 w30 H locs hH hv31 => ?_)
      refine sj_lald hC hH hv31.1 hv31.2.1 dX7_number_61 ?_
      exact sj_retL hC hD.2 hH hr hv31.2.2 ⟨(Nat.le_of_ble_eq_true rfl), (Nat.le_of_ble_eq_true rfl)⟩ dX7_number_62
    · have hv32 := hv27.2 hc
      refine lv_lconst (v := 0) hx hb dX7_number_48 (by decide) ?_
      exact sj_retL hC hD.2 hH hr hv32 ⟨(Nat.le_of_ble_eq_true rfl), (Nat.le_of_ble_eq_true rfl)⟩ dX7_number_49
  clear hE5
  refine lv_if_ne (tgt := 12) hx hb dX7_number_5 (by decide) (fun hc => ?_) (fun hc => ?_)
  · have hv10 := hv8.1 hc
    refine lv_iload_n hx hb dX7_number_12 rfl (lv_at hl 2 rfl) ?_
    refine cl_X7_61 hC hD hH hv10 ⟨Nat.le_of_ble_eq_true rfl, Nat.le_of_ble_eq_true rfl⟩ ⟨(Nat.le_of_ble_eq_true rfl), (Nat.le_of_ble_eq_true rfl)⟩ ⟨(Nat.le_of_ble_eq_true rfl), (Nat.le_of_ble_eq_true rfl)⟩ hl.1 (Nat.le_of_ble_eq_true rfl) dX7_number_13 (fun r11 w12 H locs hH hv13 => ?_)
    refine lv_if_eq (tgt := 37) hx hb dX7_number_16 (by decide) (fun hc => ?_) (fun hc => ?_)
    · have hv14 := hv13.1 hc
      refine lv_iconst (v := 2) hx hb dX7_number_37 (by decide) ?_
      refine lv_goto (tgt := 42) hx hb dX7_number_38 (by decide) ?_
      exact hJ6 2 self w12 _ _ _ (lv_sub hl [0, 1, 2, 3] rfl) hH hv14
    · have hv15 := hv13.2 hc
      refine lv_iload_n hx hb dX7_number_19 rfl (lv_at hl 3 rfl) ?_
      refine lv_i2l hx hb dX7_number_20 rfl ?_
      refine lv_lconst (v := 0) hx hb dX7_number_21 (by decide) ?_
      refine lv_aload_n hx hb dX7_number_22 rfl (lv_at hl 0 rfl) ?_
      refine lv_iload_n hx hb dX7_number_23 rfl (lv_at hl 1 rfl) ?_
      refine lv_iload_n hx hb dX7_number_24 rfl (lv_at hl 2 rfl) ?_
      refine cl_X7_69 hC hD hH hv15.2 hv15.1 ⟨Nat.le_of_ble_eq_true rfl, Nat.le_of_ble_eq_true rfl⟩ ⟨(Nat.le_of_ble_eq_true rfl), (Nat.le_of_ble_eq_true rfl)⟩ ⟨(Nat.le_of_ble_eq_true rfl), (Nat.le_of_ble_eq_true rfl)⟩ hl.1 (Nat.le_of_ble_eq_true rfl) dX7_number_25 (fun r16 w17 H locs hH hv18 => ?_)
      refine lv_iconst (v := 1) hx hb dX7_number_28 (by decide) ?_
      refine lv_isub hx hb dX7_number_29 ?_
      refine lv_i2l hx hb dX7_number_30 rfl ?_
      refine cl_X7_39 hC hD hH hv18 ⟨Nat.le_of_ble_eq_true rfl, Nat.le_of_ble_eq_true rfl⟩ ⟨(Nat.le_of_ble_eq_true rfl), (Nat.le_of_ble_eq_true rfl)⟩ ⟨(Nat.le_of_ble_eq_true rfl), (Nat.le_of_ble_eq_true rfl)⟩ hl.1 (Nat.le_of_ble_eq_true rfl) dX7_number_31 (fun r19 w20 H locs hH hv21 => ?_)
      refine lv_if_ne (tgt := 41) hx hb dX7_number_34 (by decide) (fun hc => ?_) (fun hc => ?_)
      · have hv22 := hv21.1 hc
        refine lv_iconst (v := 0) hx hb dX7_number_41 (by decide) ?_
        exact hJ6 0 self w20 _ _ _ (lv_sub hl [0, 1, 2, 3] rfl) hH hv22
      · have hv23 := hv21.2 hc
        refine lv_iconst (v := 2) hx hb dX7_number_37 (by decide) ?_
        refine lv_goto (tgt := 42) hx hb dX7_number_38 (by decide) ?_
        exact hJ6 2 self w20 _ _ _ (lv_sub hl [0, 1, 2, 3] rfl) hH hv23
  · have hv24 := hv8.2 hc
    refine lv_iconst (v := 1) hx hb dX7_number_8 (by decide) ?_
    refine lv_goto (tgt := 42) hx hb dX7_number_9 (by decide) ?_
    exact hJ6 1 self w2 _ _ _ (lv_sub hl [0, 1, 2, 3] rfl) hH hv24
section SJL_X7_number
variable {p : Program} {l : Launch} {e : Env} {R : Room} {s : State} {m : MethodId} {args : Array Value} {below : List Frame} {meth : Method} {c : Code} {H : Heap} {locs : List Loc} {cells slots : Nat} {Q : State → Prop} {cc : ByteArray} {pc : Nat} {ls : Array Slot} {rest : List Value} {G : sj_G} {nL : Nat} {w : sj_W}
theorem cg_L_157 {b : Nat} {b0 : Int32} {b1 : Int32} {b2 : Int32} {Qi : Int64 → sj_W → Prop} (hC : sj_C G p l s m args c cc RL nL) (hH : sj_H G s w H locs) (hv : vc_X7_number b b0 b1 b2 w Qi) (hT : sj_T w b = 6) (hR : rm_X7_number.frames + 1 ≤ R.frames ∧ 8 + (4 + 11) + rm_X7_number.locals ≤ R.locals) (hf : cells + 0 ≤ R.cells ∧ slots + 0 ≤ R.slots) (hls : ls.size = nL) (hW : (rest.map fun v => v.category).sum ≤ 8) (hdg : decode cc pc = .ok (.invokevirtual 157, 3)) (kk : ∀ (r : Int64) (w1 : sj_W) (H : Heap) (locs : List Loc), sj_H G s w1 H locs → Qi r w1 → W p l e R s m args below meth c H locs (cells + 0) (slots + 0) Q (F0 m (pc + 3) ls (.long r :: rest))) : W p l e R s m args below meth c H locs cells slots Q (F0 m pc ls (.int b2 :: .int b1 :: .int b0 :: .ref b :: rest)) :=
  sj_xL hH (sj_runV (n := 3) hC hH (As := [.int b0, .int b1, .int b2]) (wk_X7_number G l hC.2.2.2.2.2.2 b b0 b1 b2 w Qi (fun _ _ => False) hv) (ci := 5) rfl (by decide) hT mb_785 mb_786 mb_787 mb_5 mb_788 (by decide +kernel) hR hf rfl hls hW hdg) (fun _ _ _ _ _ _ _ h _ _ _ => h.elim) kk
end SJL_X7_number
abbrev rm_X7_occurs : Room := { frames := 3, cells := 0, slots := 0, locals := 71 }
def vb_X7_occurs_65 (f0 : Nat) (f1 : Int32) (f2 : Int32) (f3 : Int32) (f4 : Int32) (Q : Int32 → sj_W → Prop) (E : Int32 → sj_W → Prop) (K : Int32 → Int32 → sj_W → Prop) (v5 : Int32) (v6 : Int32) (w : sj_W) : Prop := sj_T w f0 = 6 ∧ vc_X7_size f0 f1 f2 w (fun r34 w35 => ((r34 < (v6 + f4) → E v5 w35) ∧ (¬ r34 < (v6 + f4) → sj_T w35 f0 = 6 ∧ sj_A w35 42 f0 ≠ 0 ∧ sj_T w35 (sj_A w35 42 f0) = 7 ∧ vp_in f3 (sj_N w35 (sj_A w35 42 f0)) ∧ sj_T w35 f0 = 6 ∧ sj_A w35 43 f0 ≠ 0 ∧ sj_T w35 (sj_A w35 43 f0) = 7 ∧ vp_in f3 (sj_N w35 (sj_A w35 43 f0)) ∧ sj_T w35 f0 = 6 ∧ vc_X7_alike f0 f1 f2 v6 f4 (sj_i w35 (sj_A w35 42 f0) f3.toNatClampNeg) (sj_i w35 (sj_A w35 43 f0) f3.toNatClampNeg) f4 w35 (fun r39 w40 => ((¬ r39 = f4 → K (v5 + 0) (v6 + 1) w40) ∧ (r39 = f4 → K (v5 + 1) (v6 + 1) w40))))))
def vc_X7_occurs (self : Nat) (a1 : Int32) (a2 : Int32) (a3 : Int32) (w : sj_W) (Q : Int32 → sj_W → Prop) : Prop := vc_X7_isKind a1 w (fun r1 w2 => sj_jn2 (fun (E4 : Int32 → Nat → sj_W → Prop) => ((¬ r1 = 0 → vc_X7_isRow a2 w2 (fun r11 w12 => ((r11 = 0 → E4 2 self w12) ∧ (¬ r11 = 0 → vc_X7_isSpan a3 w12 (fun r16 w17 => ((¬ r16 = 0 → sj_T w17 self = 6 ∧ vc_X7_isFit self a1 a3 w17 (fun r20 w21 => ((r20 = 0 → E4 3 self w21) ∧ (¬ r20 = 0 → E4 0 self w21)))) ∧ (r16 = 0 → E4 2 self w17))))))) ∧ (r1 = 0 → E4 1 self w2))) (fun (y0_44 : Int32) (y1_44 : Nat) (w_44 : sj_W) => sj_T w_44 y1_44 = 6 ∧ vc_X7_fails y1_44 y0_44 w_44 (fun r27 w28 => ((r27 = 0 → sj_T w28 self = 6 ∧ vc_X7_many self a3 w28 (fun r31 w32 => sj_lp2 (vb_X7_occurs_65 self a1 a2 a3 r31 Q (fun z5_65 w_65 => Q z5_65 w_65)) 64 0 0 w32)) ∧ (¬ r27 = 0 → Q 0 w28)))))
set_option maxHeartbeats 4000000 in
set_option maxRecDepth 100000 in
theorem wl_X7_occurs_65 {p : Program} {l : Launch} {e : Env} {s : State} {m : MethodId} {args : Array Value} {below : List Frame} {meth : Method} {c : Code} {G : sj_G} {f0 : Nat} {f1 : Int32} {f2 : Int32} {f3 : Int32} {f4 : Int32} {Q : Int32 → sj_W → Prop} {QX : String → sj_W → Prop} {E : Int32 → sj_W → Prop} (hC : sj_C G p l s m args c cX7_occurs RX7 7) (hD : sj_D meth c) (hr : meth.sig.returnType = (some .int)) (hin : meth.name = "occurs") (hE : ∀ (v5 : Int32) (w : sj_W) (H : Heap) (locs : List Loc) (ls : Array Slot), lv_has ls 7 [(5, .int v5)] → sj_H G s w H locs → E v5 w → W p l e rm_X7_occurs s m args below meth c H locs 0 0 (sj_MQ G below (va_Qi Q (sj_B G) (sj_F G)) QX args s rm_X7_occurs) (F0 m 124 ls [])) : ∀ (n : Nat) (v5 : Int32) (v6 : Int32) (w : sj_W) (H : Heap) (locs : List Loc) (ls : Array Slot), lv_has ls 7 [(0, .ref f0), (1, .int f1), (2, .int f2), (3, .int f3), (4, .int f4), (5, .int v5), (6, .int v6)] → sj_H G s w H locs → sj_lp2 (vb_X7_occurs_65 f0 f1 f2 f3 f4 Q E) n v5 v6 w → W p l e rm_X7_occurs s m args below meth c H locs 0 0 (sj_MQ G below (va_Qi Q (sj_B G) (sj_F G)) QX args s rm_X7_occurs) (F0 m 65 ls []) := by
  have hx := hC.1
  have hb := hC.2.1
  intro n
  induction n with
  | zero =>
    intro v5 v6 w H locs ls _ _ hv
    exact hv.elim
  | succ n ih =>
    intro v5 v6 w H locs ls hl hH hv
    have hv : vb_X7_occurs_65 f0 f1 f2 f3 f4 Q E (sj_lp2 (vb_X7_occurs_65 f0 f1 f2 f3 f4 Q E) n) v5 v6 w := hv
    have hc1 : rm_X7_occurs.cells = 0 := rfl
    have hc2 : rm_X7_occurs.slots = 0 := rfl
    refine lv_iload hx hb dX7_occurs_65 (lv_at hl 6 rfl) ?_
    refine lv_iload hx hb dX7_occurs_67 (lv_at hl 4 rfl) ?_
    refine lv_iadd hx hb dX7_occurs_69 ?_
    refine lv_aload_n hx hb dX7_occurs_70 rfl (lv_at hl 0 rfl) ?_
    refine lv_iload_n hx hb dX7_occurs_71 rfl (lv_at hl 1 rfl) ?_
    refine lv_iload_n hx hb dX7_occurs_72 rfl (lv_at hl 2 rfl) ?_
    refine cl_X7_69 hC hD hH hv.2 hv.1 ⟨Nat.le_of_ble_eq_true rfl, Nat.le_of_ble_eq_true rfl⟩ ⟨(Nat.le_of_ble_eq_true rfl), (Nat.le_of_ble_eq_true rfl)⟩ ⟨(Nat.le_of_ble_eq_true rfl), (Nat.le_of_ble_eq_true rfl)⟩ hl.1 (Nat.le_of_ble_eq_true rfl) dX7_occurs_73 (fun r34 w35 H locs hH hv36 => ?_)
    refine lv_icmp_gt (tgt := 124) hx hb dX7_occurs_76 (by decide) (fun hc => ?_) (fun hc => ?_)
    · have hv37 := hv36.1 hc
      exact hE v5 w35 _ _ _ (lv_sub hl [5] rfl) hH hv37
    · have hv38 := hv36.2 hc
      refine lv_iload hx hb dX7_occurs_79 (lv_at hl 5 rfl) ?_
      refine lv_aload_n hx hb dX7_occurs_81 rfl (lv_at hl 0 rfl) ?_
      refine lv_iload_n hx hb dX7_occurs_82 rfl (lv_at hl 1 rfl) ?_
      refine lv_iload_n hx hb dX7_occurs_83 rfl (lv_at hl 2 rfl) ?_
      refine lv_iload hx hb dX7_occurs_84 (lv_at hl 6 rfl) ?_
      refine lv_iload hx hb dX7_occurs_86 (lv_at hl 4 rfl) ?_
      refine lv_aload_n hx hb dX7_occurs_88 rfl (lv_at hl 0 rfl) ?_
      refine gf_X7_17 hC hH hv38.1 hv38.2.1 dX7_occurs_89 ?_
      refine lv_iload_n hx hb dX7_occurs_92 rfl (lv_at hl 3 rfl) ?_
      refine sj_iald hC hH hv38.2.2.1 hv38.2.2.2.1 dX7_occurs_93 ?_
      refine lv_aload_n hx hb dX7_occurs_94 rfl (lv_at hl 0 rfl) ?_
      refine gf_X7_20 hC hH hv38.2.2.2.2.1 hv38.2.2.2.2.2.1 dX7_occurs_95 ?_
      refine lv_iload_n hx hb dX7_occurs_98 rfl (lv_at hl 3 rfl) ?_
      refine sj_iald hC hH hv38.2.2.2.2.2.2.1 hv38.2.2.2.2.2.2.2.1 dX7_occurs_99 ?_
      refine lv_iload hx hb dX7_occurs_100 (lv_at hl 4 rfl) ?_
      refine cl_X7_114 hC hD hH hv38.2.2.2.2.2.2.2.2.2 hv38.2.2.2.2.2.2.2.2.1 ⟨Nat.le_of_ble_eq_true rfl, Nat.le_of_ble_eq_true rfl⟩ ⟨(Nat.le_of_ble_eq_true rfl), (Nat.le_of_ble_eq_true rfl)⟩ ⟨(Nat.le_of_ble_eq_true rfl), (Nat.le_of_ble_eq_true rfl)⟩ hl.1 (Nat.le_of_ble_eq_true rfl) dX7_occurs_102 (fun r39 w40 H locs hH hv41 => ?_)
      refine lv_iload hx hb dX7_occurs_105 (lv_at hl 4 rfl) ?_
      refine lv_icmp_ne (tgt := 114) hx hb dX7_occurs_107 (by decide) (fun hc => ?_) (fun hc => ?_)
      · have hv42 := hv41.1 hc
        refine lv_iconst (v := 0) hx hb dX7_occurs_114 (by decide) ?_
        refine lv_iadd hx hb dX7_occurs_115 ?_
        refine lv_istore (lv' := [(5, .int (v5 + 0)), (0, .ref f0), (1, .int f1), (2, .int f2), (3, .int f3), (4, .int f4), (6, .int v6)]) hx hb dX7_occurs_116 hl (by decide) rfl (fun ls hl => ?_)
        refine lv_iinc (v := (v6 + 1)) (lv' := [(6, .int (v6 + 1)), (5, .int (v5 + 0)), (0, .ref f0), (1, .int f1), (2, .int f2), (3, .int f3), (4, .int f4)]) hx hb dX7_occurs_118 hl (k := 6) rfl rfl (by decide) rfl (fun ls hl => ?_)
        refine lv_goto (tgt := 65) hx hb dX7_occurs_121 (by decide) ?_
        exact ih (v5 + 0) (v6 + 1) w40 _ _ _ (lv_sub hl [2, 3, 4, 5, 6, 1, 0] rfl) hH hv42
      · have hv43 := hv41.2 hc
        refine lv_iconst (v := 1) hx hb dX7_occurs_110 (by decide) ?_
        refine lv_goto (tgt := 115) hx hb dX7_occurs_111 (by decide) ?_
        refine lv_iadd hx hb dX7_occurs_115 ?_
        refine lv_istore (lv' := [(5, .int (v5 + 1)), (0, .ref f0), (1, .int f1), (2, .int f2), (3, .int f3), (4, .int f4), (6, .int v6)]) hx hb dX7_occurs_116 hl (by decide) rfl (fun ls hl => ?_)
        refine lv_iinc (v := (v6 + 1)) (lv' := [(6, .int (v6 + 1)), (5, .int (v5 + 1)), (0, .ref f0), (1, .int f1), (2, .int f2), (3, .int f3), (4, .int f4)]) hx hb dX7_occurs_118 hl (k := 6) rfl rfl (by decide) rfl (fun ls hl => ?_)
        refine lv_goto (tgt := 65) hx hb dX7_occurs_121 (by decide) ?_
        exact ih (v5 + 1) (v6 + 1) w40 _ _ _ (lv_sub hl [2, 3, 4, 5, 6, 1, 0] rfl) hH hv43
set_option maxHeartbeats 4000000 in
set_option maxRecDepth 100000 in
theorem wk_X7_occurs (G : sj_G) (l : Launch) (hlt : l.stackTraces = false) (self : Nat) (a1 : Int32) (a2 : Int32) (a3 : Int32) (w : sj_W) (Q : Int32 → sj_W → Prop) (QX : String → sj_W → Prop) (hv : vc_X7_occurs self a1 a2 a3 w Q) : sj_MI G l yX7_occurs (sj_ws yX7_occurs cX7_occurs 7 (some .int)) rm_X7_occurs [.ref self, .int a1, .int a2, .int a3] w Q QX := by
  refine sj_of (by decide +kernel) (Nat.le_of_ble_eq_true rfl) hlt ?_
  intro p e s m args below meth c ls hC hD hr hin hH hl
  have hx := hC.1
  have hb := hC.2.1
  have hl : lv_has ls 7 [(0, .ref self), (1, .int a1), (2, .int a2), (3, .int a3)] := hl
  refine lv_aload_n hx hb dX7_occurs_0 rfl (lv_at hl 0 rfl) ?_
  refine lv_iload_n hx hb dX7_occurs_1 rfl (lv_at hl 1 rfl) ?_
  refine cl_X7_57 hC hD hH hv ⟨Nat.le_of_ble_eq_true rfl, Nat.le_of_ble_eq_true rfl⟩ ⟨(Nat.le_of_ble_eq_true rfl), (Nat.le_of_ble_eq_true rfl)⟩ ⟨(Nat.le_of_ble_eq_true rfl), (Nat.le_of_ble_eq_true rfl)⟩ hl.1 (Nat.le_of_ble_eq_true rfl) dX7_occurs_2 (fun r1 w2 H locs hH hv3 => ?_)
  obtain ⟨E4, hE5, hv8⟩ := sj_jn2_e hv3
  have hJ6 : ∀ (y0_44 : Int32) (y1_44 : Nat) (w_44 : sj_W) (H : Heap) (locs : List Loc) (ls : Array Slot), lv_has ls 7 [(0, .ref self), (1, .int a1), (2, .int a2), (3, .int a3)] → sj_H G s w_44 H locs → E4 y0_44 y1_44 w_44 → W p l e rm_X7_occurs s m args below meth c H locs 0 0 (sj_MQ G below (va_Qi Q (sj_B G) (sj_F G)) QX args s rm_X7_occurs) (F0 m 44 ls [.int y0_44, .ref y1_44]) := by
    intro y0_44 y1_44 w_44 H locs ls hl hH hv9
    rw [hE5] at hv9
    refine cl_X7_73 hC hD hH hv9.2 hv9.1 ⟨Nat.le_of_ble_eq_true rfl, Nat.le_of_ble_eq_true rfl⟩ ⟨(Nat.le_of_ble_eq_true rfl), (Nat.le_of_ble_eq_true rfl)⟩ ⟨(Nat.le_of_ble_eq_true rfl), (Nat.le_of_ble_eq_true rfl)⟩ hl.1 (Nat.le_of_ble_eq_true rfl) dX7_occurs_44 (fun r27 w28 H locs hH hv29 => ?_)
    refine lv_if_eq (tgt := 52) hx hb dX7_occurs_47 (by decide) (fun hc => ?_) (fun hc => ?_)
    · have hv30 := hv29.1 hc
      refine lv_aload_n hx hb dX7_occurs_52 rfl (lv_at hl 0 rfl) ?_
      refine lv_iload_n hx hb dX7_occurs_53 rfl (lv_at hl 3 rfl) ?_
      refine cl_X7_133 hC hD hH hv30.2 hv30.1 ⟨Nat.le_of_ble_eq_true rfl, Nat.le_of_ble_eq_true rfl⟩ ⟨(Nat.le_of_ble_eq_true rfl), (Nat.le_of_ble_eq_true rfl)⟩ ⟨(Nat.le_of_ble_eq_true rfl), (Nat.le_of_ble_eq_true rfl)⟩ hl.1 (Nat.le_of_ble_eq_true rfl) dX7_occurs_54 (fun r31 w32 H locs hH hv33 => ?_)
      refine lv_istore (lv' := [(4, .int r31), (0, .ref self), (1, .int a1), (2, .int a2), (3, .int a3)]) hx hb dX7_occurs_57 hl (by decide) rfl (fun ls hl => ?_)
      refine lv_iconst (v := 0) hx hb dX7_occurs_59 (by decide) ?_
      refine lv_istore (lv' := [(5, .int 0), (4, .int r31), (0, .ref self), (1, .int a1), (2, .int a2), (3, .int a3)]) hx hb dX7_occurs_60 hl (by decide) rfl (fun ls hl => ?_)
      refine lv_iconst (v := 0) hx hb dX7_occurs_62 (by decide) ?_
      refine lv_istore (lv' := [(6, .int 0), (5, .int 0), (4, .int r31), (0, .ref self), (1, .int a1), (2, .int a2), (3, .int a3)]) hx hb dX7_occurs_63 hl (by decide) rfl (fun ls hl => ?_)
      refine wl_X7_occurs_65 hC hD hr hin (fun z5_65 w_65 H locs ls hl hH hv44 => ?_) 64 0 0 w32 _ _ _ (lv_sub hl [3, 4, 5, 6, 2, 1, 0] rfl) hH hv33
      refine lv_iload hx hb dX7_occurs_124 (lv_at hl 0 rfl) ?_
      exact sj_retI hC hD.2 hH hr rfl hv44 ⟨(Nat.le_of_ble_eq_true rfl), (Nat.le_of_ble_eq_true rfl)⟩ dX7_occurs_126
    · have hv45 := hv29.2 hc
      refine lv_iconst (v := 0) hx hb dX7_occurs_50 (by decide) ?_
      exact sj_retI hC hD.2 hH hr rfl hv45 ⟨(Nat.le_of_ble_eq_true rfl), (Nat.le_of_ble_eq_true rfl)⟩ dX7_occurs_51
  clear hE5
  refine lv_if_ne (tgt := 12) hx hb dX7_occurs_5 (by decide) (fun hc => ?_) (fun hc => ?_)
  · have hv10 := hv8.1 hc
    refine lv_iload_n hx hb dX7_occurs_12 rfl (lv_at hl 2 rfl) ?_
    refine cl_X7_61 hC hD hH hv10 ⟨Nat.le_of_ble_eq_true rfl, Nat.le_of_ble_eq_true rfl⟩ ⟨(Nat.le_of_ble_eq_true rfl), (Nat.le_of_ble_eq_true rfl)⟩ ⟨(Nat.le_of_ble_eq_true rfl), (Nat.le_of_ble_eq_true rfl)⟩ hl.1 (Nat.le_of_ble_eq_true rfl) dX7_occurs_13 (fun r11 w12 H locs hH hv13 => ?_)
    refine lv_if_eq (tgt := 26) hx hb dX7_occurs_16 (by decide) (fun hc => ?_) (fun hc => ?_)
    · have hv14 := hv13.1 hc
      refine lv_iconst (v := 2) hx hb dX7_occurs_26 (by decide) ?_
      refine lv_goto (tgt := 44) hx hb dX7_occurs_27 (by decide) ?_
      exact hJ6 2 self w12 _ _ _ (lv_sub hl [0, 1, 2, 3] rfl) hH hv14
    · have hv15 := hv13.2 hc
      refine lv_iload_n hx hb dX7_occurs_19 rfl (lv_at hl 3 rfl) ?_
      refine cl_X7_105 hC hD hH hv15 ⟨Nat.le_of_ble_eq_true rfl, Nat.le_of_ble_eq_true rfl⟩ ⟨(Nat.le_of_ble_eq_true rfl), (Nat.le_of_ble_eq_true rfl)⟩ ⟨(Nat.le_of_ble_eq_true rfl), (Nat.le_of_ble_eq_true rfl)⟩ hl.1 (Nat.le_of_ble_eq_true rfl) dX7_occurs_20 (fun r16 w17 H locs hH hv18 => ?_)
      refine lv_if_ne (tgt := 30) hx hb dX7_occurs_23 (by decide) (fun hc => ?_) (fun hc => ?_)
      · have hv19 := hv18.1 hc
        refine lv_aload_n hx hb dX7_occurs_30 rfl (lv_at hl 0 rfl) ?_
        refine lv_iload_n hx hb dX7_occurs_31 rfl (lv_at hl 1 rfl) ?_
        refine lv_iload_n hx hb dX7_occurs_32 rfl (lv_at hl 3 rfl) ?_
        refine cl_X7_110 hC hD hH hv19.2 hv19.1 ⟨Nat.le_of_ble_eq_true rfl, Nat.le_of_ble_eq_true rfl⟩ ⟨(Nat.le_of_ble_eq_true rfl), (Nat.le_of_ble_eq_true rfl)⟩ ⟨(Nat.le_of_ble_eq_true rfl), (Nat.le_of_ble_eq_true rfl)⟩ hl.1 (Nat.le_of_ble_eq_true rfl) dX7_occurs_33 (fun r20 w21 H locs hH hv22 => ?_)
        refine lv_if_eq (tgt := 43) hx hb dX7_occurs_36 (by decide) (fun hc => ?_) (fun hc => ?_)
        · have hv23 := hv22.1 hc
          refine lv_iconst (v := 3) hx hb dX7_occurs_43 (by decide) ?_
          exact hJ6 3 self w21 _ _ _ (lv_sub hl [0, 1, 2, 3] rfl) hH hv23
        · have hv24 := hv22.2 hc
          refine lv_iconst (v := 0) hx hb dX7_occurs_39 (by decide) ?_
          refine lv_goto (tgt := 44) hx hb dX7_occurs_40 (by decide) ?_
          exact hJ6 0 self w21 _ _ _ (lv_sub hl [0, 1, 2, 3] rfl) hH hv24
      · have hv25 := hv18.2 hc
        refine lv_iconst (v := 2) hx hb dX7_occurs_26 (by decide) ?_
        refine lv_goto (tgt := 44) hx hb dX7_occurs_27 (by decide) ?_
        exact hJ6 2 self w17 _ _ _ (lv_sub hl [0, 1, 2, 3] rfl) hH hv25
  · have hv26 := hv8.2 hc
    refine lv_iconst (v := 1) hx hb dX7_occurs_8 (by decide) ?_
    refine lv_goto (tgt := 44) hx hb dX7_occurs_9 (by decide) ?_
    exact hJ6 1 self w2 _ _ _ (lv_sub hl [0, 1, 2, 3] rfl) hH hv26
section SJL_X7_occurs
variable {p : Program} {l : Launch} {e : Env} {R : Room} {s : State} {m : MethodId} {args : Array Value} {below : List Frame} {meth : Method} {c : Code} {H : Heap} {locs : List Loc} {cells slots : Nat} {Q : State → Prop} {cc : ByteArray} {pc : Nat} {ls : Array Slot} {rest : List Value} {G : sj_G} {nL : Nat} {w : sj_W}
theorem cg_L_227 {b : Nat} {b0 : Int32} {b1 : Int32} {b2 : Int32} {Qi : Int32 → sj_W → Prop} (hC : sj_C G p l s m args c cc RL nL) (hH : sj_H G s w H locs) (hv : vc_X7_occurs b b0 b1 b2 w Qi) (hT : sj_T w b = 6) (hR : rm_X7_occurs.frames + 1 ≤ R.frames ∧ 8 + (7 + 11) + rm_X7_occurs.locals ≤ R.locals) (hf : cells + 0 ≤ R.cells ∧ slots + 0 ≤ R.slots) (hls : ls.size = nL) (hW : (rest.map fun v => v.category).sum ≤ 8) (hdg : decode cc pc = .ok (.invokevirtual 227, 3)) (kk : ∀ (r : Int32) (w1 : sj_W) (H : Heap) (locs : List Loc), sj_H G s w1 H locs → Qi r w1 → W p l e R s m args below meth c H locs (cells + 0) (slots + 0) Q (F0 m (pc + 3) ls (.int r :: rest))) : W p l e R s m args below meth c H locs cells slots Q (F0 m pc ls (.int b2 :: .int b1 :: .int b0 :: .ref b :: rest)) :=
  sj_xI hH (sj_runV (n := 3) hC hH (As := [.int b0, .int b1, .int b2]) (wk_X7_occurs G l hC.2.2.2.2.2.2 b b0 b1 b2 w Qi (fun _ _ => False) hv) (ci := 5) rfl (by decide) hT mb_928 mb_929 mb_930 mb_5 mb_931 (by decide +kernel) hR hf rfl hls hW hdg) (fun _ _ _ _ _ _ _ h _ _ _ => h.elim) kk
end SJL_X7_occurs
abbrev rm_X7_period : Room := { frames := 3, cells := 0, slots := 0, locals := 68 }
def vb_X7_period_26 (f0 : Nat) (f1 : Int32) (f2 : Int32) (Q : Int32 → sj_W → Prop) (E : Int32 → sj_W → Prop) (K : Int32 → sj_W → Prop) (v3 : Int32) (w : sj_W) : Prop := sj_T w f0 = 6 ∧ vc_X7_is f0 f1 f2 v3 w (fun r13 w14 => ((¬ r13 = 0 → E v3 w14) ∧ (r13 = 0 → K (v3 + 1) w14)))
def vc_X7_period (self : Nat) (a1 : Int32) (a2 : Int32) (w : sj_W) (Q : Int32 → sj_W → Prop) : Prop := sj_T w self = 6 ∧ vc_X7_noRow self a1 a2 w (fun r1 w2 => sj_T w2 self = 6 ∧ vc_X7_fails self r1 w2 (fun r4 w5 => ((¬ r4 = 0 → Q 0 w5) ∧ (r4 = 0 → sj_T w5 self = 6 ∧ vc_X7_size self a1 a2 w5 (fun r9 w10 => ((¬ r9 = 0 → sj_lp1 (vb_X7_period_26 self a1 a2 Q (fun z3_26 w_26 => Q z3_26 w_26)) 64 1 w10) ∧ (r9 = 0 → Q 0 w10)))))))
set_option maxHeartbeats 4000000 in
set_option maxRecDepth 100000 in
theorem wl_X7_period_26 {p : Program} {l : Launch} {e : Env} {s : State} {m : MethodId} {args : Array Value} {below : List Frame} {meth : Method} {c : Code} {G : sj_G} {f0 : Nat} {f1 : Int32} {f2 : Int32} {Q : Int32 → sj_W → Prop} {QX : String → sj_W → Prop} {E : Int32 → sj_W → Prop} (hC : sj_C G p l s m args c cX7_period RX7 4) (hD : sj_D meth c) (hr : meth.sig.returnType = (some .int)) (hin : meth.name = "period") (hE : ∀ (v3 : Int32) (w : sj_W) (H : Heap) (locs : List Loc) (ls : Array Slot), lv_has ls 4 [(3, .int v3)] → sj_H G s w H locs → E v3 w → W p l e rm_X7_period s m args below meth c H locs 0 0 (sj_MQ G below (va_Qi Q (sj_B G) (sj_F G)) QX args s rm_X7_period) (F0 m 42 ls [])) : ∀ (n : Nat) (v3 : Int32) (w : sj_W) (H : Heap) (locs : List Loc) (ls : Array Slot), lv_has ls 4 [(0, .ref f0), (1, .int f1), (2, .int f2), (3, .int v3)] → sj_H G s w H locs → sj_lp1 (vb_X7_period_26 f0 f1 f2 Q E) n v3 w → W p l e rm_X7_period s m args below meth c H locs 0 0 (sj_MQ G below (va_Qi Q (sj_B G) (sj_F G)) QX args s rm_X7_period) (F0 m 26 ls []) := by
  have hx := hC.1
  have hb := hC.2.1
  intro n
  induction n with
  | zero =>
    intro v3 w H locs ls _ _ hv
    exact hv.elim
  | succ n ih =>
    intro v3 w H locs ls hl hH hv
    have hv : vb_X7_period_26 f0 f1 f2 Q E (sj_lp1 (vb_X7_period_26 f0 f1 f2 Q E) n) v3 w := hv
    have hc1 : rm_X7_period.cells = 0 := rfl
    have hc2 : rm_X7_period.slots = 0 := rfl
    refine lv_aload_n hx hb dX7_period_26 rfl (lv_at hl 0 rfl) ?_
    refine lv_iload_n hx hb dX7_period_27 rfl (lv_at hl 1 rfl) ?_
    refine lv_iload_n hx hb dX7_period_28 rfl (lv_at hl 2 rfl) ?_
    refine lv_iload_n hx hb dX7_period_29 rfl (lv_at hl 3 rfl) ?_
    refine cl_X7_158 hC hD hH hv.2 hv.1 ⟨Nat.le_of_ble_eq_true rfl, Nat.le_of_ble_eq_true rfl⟩ ⟨(Nat.le_of_ble_eq_true rfl), (Nat.le_of_ble_eq_true rfl)⟩ ⟨(Nat.le_of_ble_eq_true rfl), (Nat.le_of_ble_eq_true rfl)⟩ hl.1 (Nat.le_of_ble_eq_true rfl) dX7_period_30 (fun r13 w14 H locs hH hv15 => ?_)
    refine lv_if_ne (tgt := 42) hx hb dX7_period_33 (by decide) (fun hc => ?_) (fun hc => ?_)
    · have hv16 := hv15.1 hc
      exact hE v3 w14 _ _ _ (lv_sub hl [3] rfl) hH hv16
    · have hv17 := hv15.2 hc
      refine lv_iinc (v := (v3 + 1)) (lv' := [(3, .int (v3 + 1)), (0, .ref f0), (1, .int f1), (2, .int f2)]) hx hb dX7_period_36 hl (k := 3) rfl rfl (by decide) rfl (fun ls hl => ?_)
      refine lv_goto (tgt := 26) hx hb dX7_period_39 (by decide) ?_
      exact ih (v3 + 1) w14 _ _ _ (lv_sub hl [1, 2, 3, 0] rfl) hH hv17
set_option maxHeartbeats 4000000 in
set_option maxRecDepth 100000 in
theorem wk_X7_period (G : sj_G) (l : Launch) (hlt : l.stackTraces = false) (self : Nat) (a1 : Int32) (a2 : Int32) (w : sj_W) (Q : Int32 → sj_W → Prop) (QX : String → sj_W → Prop) (hv : vc_X7_period self a1 a2 w Q) : sj_MI G l yX7_period (sj_ws yX7_period cX7_period 4 (some .int)) rm_X7_period [.ref self, .int a1, .int a2] w Q QX := by
  refine sj_of (by decide +kernel) (Nat.le_of_ble_eq_true rfl) hlt ?_
  intro p e s m args below meth c ls hC hD hr hin hH hl
  have hx := hC.1
  have hb := hC.2.1
  have hl : lv_has ls 4 [(0, .ref self), (1, .int a1), (2, .int a2)] := hl
  refine lv_aload_n hx hb dX7_period_0 rfl (lv_at hl 0 rfl) ?_
  refine lv_aload_n hx hb dX7_period_1 rfl (lv_at hl 0 rfl) ?_
  refine lv_iload_n hx hb dX7_period_2 rfl (lv_at hl 1 rfl) ?_
  refine lv_iload_n hx hb dX7_period_3 rfl (lv_at hl 2 rfl) ?_
  refine cl_X7_84 hC hD hH hv.2 hv.1 ⟨Nat.le_of_ble_eq_true rfl, Nat.le_of_ble_eq_true rfl⟩ ⟨(Nat.le_of_ble_eq_true rfl), (Nat.le_of_ble_eq_true rfl)⟩ ⟨(Nat.le_of_ble_eq_true rfl), (Nat.le_of_ble_eq_true rfl)⟩ hl.1 (Nat.le_of_ble_eq_true rfl) dX7_period_4 (fun r1 w2 H locs hH hv3 => ?_)
  refine cl_X7_73 hC hD hH hv3.2 hv3.1 ⟨Nat.le_of_ble_eq_true rfl, Nat.le_of_ble_eq_true rfl⟩ ⟨(Nat.le_of_ble_eq_true rfl), (Nat.le_of_ble_eq_true rfl)⟩ ⟨(Nat.le_of_ble_eq_true rfl), (Nat.le_of_ble_eq_true rfl)⟩ hl.1 (Nat.le_of_ble_eq_true rfl) dX7_period_7 (fun r4 w5 H locs hH hv6 => ?_)
  refine lv_if_ne (tgt := 22) hx hb dX7_period_10 (by decide) (fun hc => ?_) (fun hc => ?_)
  · have hv7 := hv6.1 hc
    refine lv_iconst (v := 0) hx hb dX7_period_22 (by decide) ?_
    exact sj_retI hC hD.2 hH hr rfl hv7 ⟨(Nat.le_of_ble_eq_true rfl), (Nat.le_of_ble_eq_true rfl)⟩ dX7_period_23
  · have hv8 := hv6.2 hc
    refine lv_aload_n hx hb dX7_period_13 rfl (lv_at hl 0 rfl) ?_
    refine lv_iload_n hx hb dX7_period_14 rfl (lv_at hl 1 rfl) ?_
    refine lv_iload_n hx hb dX7_period_15 rfl (lv_at hl 2 rfl) ?_
    refine cl_X7_69 hC hD hH hv8.2 hv8.1 ⟨Nat.le_of_ble_eq_true rfl, Nat.le_of_ble_eq_true rfl⟩ ⟨(Nat.le_of_ble_eq_true rfl), (Nat.le_of_ble_eq_true rfl)⟩ ⟨(Nat.le_of_ble_eq_true rfl), (Nat.le_of_ble_eq_true rfl)⟩ hl.1 (Nat.le_of_ble_eq_true rfl) dX7_period_16 (fun r9 w10 H locs hH hv11 => ?_)
    refine lv_if_ne (tgt := 24) hx hb dX7_period_19 (by decide) (fun hc => ?_) (fun hc => ?_)
    · have hv12 := hv11.1 hc
      refine lv_iconst (v := 1) hx hb dX7_period_24 (by decide) ?_
      refine lv_istore_n (lv' := [(3, .int 1), (0, .ref self), (1, .int a1), (2, .int a2)]) hx hb dX7_period_25 rfl hl (by decide) rfl (fun ls hl => ?_)
      refine wl_X7_period_26 hC hD hr hin (fun z3_26 w_26 H locs ls hl hH hv18 => ?_) 64 1 w10 _ _ _ (lv_sub hl [1, 2, 3, 0] rfl) hH hv12
      refine lv_iload_n hx hb dX7_period_42 rfl (lv_at hl 0 rfl) ?_
      exact sj_retI hC hD.2 hH hr rfl hv18 ⟨(Nat.le_of_ble_eq_true rfl), (Nat.le_of_ble_eq_true rfl)⟩ dX7_period_43
    · have hv19 := hv11.2 hc
      refine lv_iconst (v := 0) hx hb dX7_period_22 (by decide) ?_
      exact sj_retI hC hD.2 hH hr rfl hv19 ⟨(Nat.le_of_ble_eq_true rfl), (Nat.le_of_ble_eq_true rfl)⟩ dX7_period_23
section SJL_X7_period
variable {p : Program} {l : Launch} {e : Env} {R : Room} {s : State} {m : MethodId} {args : Array Value} {below : List Frame} {meth : Method} {c : Code} {H : Heap} {locs : List Loc} {cells slots : Nat} {Q : State → Prop} {cc : ByteArray} {pc : Nat} {ls : Array Slot} {rest : List Value} {G : sj_G} {nL : Nat} {w : sj_W}
theorem cg_L_233 {b : Nat} {b0 : Int32} {b1 : Int32} {Qi : Int32 → sj_W → Prop} (hC : sj_C G p l s m args c cc RL nL) (hH : sj_H G s w H locs) (hv : vc_X7_period b b0 b1 w Qi) (hT : sj_T w b = 6) (hR : rm_X7_period.frames + 1 ≤ R.frames ∧ 8 + (4 + 11) + rm_X7_period.locals ≤ R.locals) (hf : cells + 0 ≤ R.cells ∧ slots + 0 ≤ R.slots) (hls : ls.size = nL) (hW : (rest.map fun v => v.category).sum ≤ 8) (hdg : decode cc pc = .ok (.invokevirtual 233, 3)) (kk : ∀ (r : Int32) (w1 : sj_W) (H : Heap) (locs : List Loc), sj_H G s w1 H locs → Qi r w1 → W p l e R s m args below meth c H locs (cells + 0) (slots + 0) Q (F0 m (pc + 3) ls (.int r :: rest))) : W p l e R s m args below meth c H locs cells slots Q (F0 m pc ls (.int b1 :: .int b0 :: .ref b :: rest)) :=
  sj_xI hH (sj_runV (n := 2) hC hH (As := [.int b0, .int b1]) (wk_X7_period G l hC.2.2.2.2.2.2 b b0 b1 w Qi (fun _ _ => False) hv) (ci := 5) rfl (by decide) hT mb_940 mb_941 mb_942 mb_5 mb_943 (by decide +kernel) hR hf rfl hls hW hdg) (fun _ _ _ _ _ _ _ h _ _ _ => h.elim) kk
end SJL_X7_period
abbrev rm_X7_spans : Room := { frames := 4, cells := 0, slots := 0, locals := 100 }
def vc_X7_spans (self : Nat) (a1 : Int32) (a2 : Int32) (a3 : Int32) (a4 : Int32) (w : sj_W) (Q : Int32 → sj_W → Prop) : Prop := sj_T w self = 6 ∧ sj_A w 42 self ≠ 0 ∧ sj_T w (sj_A w 42 self) = 7 ∧ vp_in a3 (sj_N w (sj_A w 42 self)) ∧ sj_T w self = 6 ∧ sj_A w 43 self ≠ 0 ∧ sj_T w (sj_A w 43 self) = 7 ∧ vp_in a3 (sj_N w (sj_A w 43 self)) ∧ sj_T w self = 6 ∧ vc_X7_many self a3 w (fun r1 w2 => sj_T w2 self = 6 ∧ sj_A w2 42 self ≠ 0 ∧ sj_T w2 (sj_A w2 42 self) = 7 ∧ vp_in a4 (sj_N w2 (sj_A w2 42 self)) ∧ sj_T w2 self = 6 ∧ sj_A w2 43 self ≠ 0 ∧ sj_T w2 (sj_A w2 43 self) = 7 ∧ vp_in a4 (sj_N w2 (sj_A w2 43 self)) ∧ sj_T w2 self = 6 ∧ vc_X7_many self a4 w2 (fun r4 w5 => sj_T w5 self = 6 ∧ vc_X7_compared self a1 a2 (sj_i w (sj_A w 42 self) a3.toNatClampNeg) (sj_i w (sj_A w 43 self) a3.toNatClampNeg) r1 (sj_i w2 (sj_A w2 42 self) a4.toNatClampNeg) (sj_i w2 (sj_A w2 43 self) a4.toNatClampNeg) r4 w5 (fun r7 w8 => Q r7 w8)))
set_option maxHeartbeats 4000000 in
set_option maxRecDepth 100000 in
theorem wk_X7_spans (G : sj_G) (l : Launch) (hlt : l.stackTraces = false) (self : Nat) (a1 : Int32) (a2 : Int32) (a3 : Int32) (a4 : Int32) (w : sj_W) (Q : Int32 → sj_W → Prop) (QX : String → sj_W → Prop) (hv : vc_X7_spans self a1 a2 a3 a4 w Q) : sj_MI G l yX7_spans (sj_ws yX7_spans cX7_spans 5 (some .int)) rm_X7_spans [.ref self, .int a1, .int a2, .int a3, .int a4] w Q QX := by
  refine sj_of (by decide +kernel) (Nat.le_of_ble_eq_true rfl) hlt ?_
  intro p e s m args below meth c ls hC hD hr hin hH hl
  have hx := hC.1
  have hb := hC.2.1
  have hl : lv_has ls 5 [(0, .ref self), (1, .int a1), (2, .int a2), (3, .int a3), (4, .int a4)] := hl
  refine lv_aload_n hx hb dX7_spans_0 rfl (lv_at hl 0 rfl) ?_
  refine lv_iload_n hx hb dX7_spans_1 rfl (lv_at hl 1 rfl) ?_
  refine lv_iload_n hx hb dX7_spans_2 rfl (lv_at hl 2 rfl) ?_
  refine lv_aload_n hx hb dX7_spans_3 rfl (lv_at hl 0 rfl) ?_
  refine gf_X7_17 hC hH hv.1 hv.2.1 dX7_spans_4 ?_
  refine lv_iload_n hx hb dX7_spans_7 rfl (lv_at hl 3 rfl) ?_
  refine sj_iald hC hH hv.2.2.1 hv.2.2.2.1 dX7_spans_8 ?_
  refine lv_aload_n hx hb dX7_spans_9 rfl (lv_at hl 0 rfl) ?_
  refine gf_X7_20 hC hH hv.2.2.2.2.1 hv.2.2.2.2.2.1 dX7_spans_10 ?_
  refine lv_iload_n hx hb dX7_spans_13 rfl (lv_at hl 3 rfl) ?_
  refine sj_iald hC hH hv.2.2.2.2.2.2.1 hv.2.2.2.2.2.2.2.1 dX7_spans_14 ?_
  refine lv_aload_n hx hb dX7_spans_15 rfl (lv_at hl 0 rfl) ?_
  refine lv_iload_n hx hb dX7_spans_16 rfl (lv_at hl 3 rfl) ?_
  refine cl_X7_133 hC hD hH hv.2.2.2.2.2.2.2.2.2 hv.2.2.2.2.2.2.2.2.1 ⟨Nat.le_of_ble_eq_true rfl, Nat.le_of_ble_eq_true rfl⟩ ⟨(Nat.le_of_ble_eq_true rfl), (Nat.le_of_ble_eq_true rfl)⟩ ⟨(Nat.le_of_ble_eq_true rfl), (Nat.le_of_ble_eq_true rfl)⟩ hl.1 (Nat.le_of_ble_eq_true rfl) dX7_spans_17 (fun r1 w2 H locs hH hv3 => ?_)
  refine lv_aload_n hx hb dX7_spans_20 rfl (lv_at hl 0 rfl) ?_
  refine gf_X7_17 hC hH hv3.1 hv3.2.1 dX7_spans_21 ?_
  refine lv_iload hx hb dX7_spans_24 (lv_at hl 4 rfl) ?_
  refine sj_iald hC hH hv3.2.2.1 hv3.2.2.2.1 dX7_spans_26 ?_
  refine lv_aload_n hx hb dX7_spans_27 rfl (lv_at hl 0 rfl) ?_
  refine gf_X7_20 hC hH hv3.2.2.2.2.1 hv3.2.2.2.2.2.1 dX7_spans_28 ?_
  refine lv_iload hx hb dX7_spans_31 (lv_at hl 4 rfl) ?_
  refine sj_iald hC hH hv3.2.2.2.2.2.2.1 hv3.2.2.2.2.2.2.2.1 dX7_spans_33 ?_
  refine lv_aload_n hx hb dX7_spans_34 rfl (lv_at hl 0 rfl) ?_
  refine lv_iload hx hb dX7_spans_35 (lv_at hl 4 rfl) ?_
  refine cl_X7_133 hC hD hH hv3.2.2.2.2.2.2.2.2.2 hv3.2.2.2.2.2.2.2.2.1 ⟨Nat.le_of_ble_eq_true rfl, Nat.le_of_ble_eq_true rfl⟩ ⟨(Nat.le_of_ble_eq_true rfl), (Nat.le_of_ble_eq_true rfl)⟩ ⟨(Nat.le_of_ble_eq_true rfl), (Nat.le_of_ble_eq_true rfl)⟩ hl.1 (Nat.le_of_ble_eq_true rfl) dX7_spans_37 (fun r4 w5 H locs hH hv6 => ?_)
  refine cl_X7_122 hC hD hH hv6.2 hv6.1 ⟨Nat.le_of_ble_eq_true rfl, Nat.le_of_ble_eq_true rfl⟩ ⟨(Nat.le_of_ble_eq_true rfl), (Nat.le_of_ble_eq_true rfl)⟩ ⟨(Nat.le_of_ble_eq_true rfl), (Nat.le_of_ble_eq_true rfl)⟩ hl.1 (Nat.le_of_ble_eq_true rfl) dX7_spans_40 (fun r7 w8 H locs hH hv9 => ?_)
  exact sj_retI hC hD.2 hH hr rfl hv9 ⟨(Nat.le_of_ble_eq_true rfl), (Nat.le_of_ble_eq_true rfl)⟩ dX7_spans_43
section SJL_X7_spans
variable {p : Program} {l : Launch} {e : Env} {R : Room} {s : State} {m : MethodId} {args : Array Value} {below : List Frame} {meth : Method} {c : Code} {H : Heap} {locs : List Loc} {cells slots : Nat} {Q : State → Prop} {cc : ByteArray} {pc : Nat} {ls : Array Slot} {rest : List Value} {G : sj_G} {nL : Nat} {w : sj_W}
theorem cl_X7_143 {rmM : Room} {QcM : Array Value → State → Outcome → State → Prop} {QX : String → sj_W → Prop} {b : Nat} {b0 : Int32} {b1 : Int32} {b2 : Int32} {b3 : Int32} {Qi : Int32 → sj_W → Prop} (hC : sj_C G p l s m args c cc RX7 nL) (hD : sj_D meth c) (hH : sj_H G s w H locs) (hv : vc_X7_spans b b0 b1 b2 b3 w Qi) (hT : sj_T w b = 6) (hR : rm_X7_spans.frames + 1 ≤ R.frames ∧ 8 + (5 + 11) + rm_X7_spans.locals ≤ R.locals) (hf : cells + 0 ≤ R.cells ∧ slots + 0 ≤ R.slots) (hfM : cells + 0 ≤ rmM.cells ∧ slots + 0 ≤ rmM.slots) (hls : ls.size = nL) (hW : (rest.map fun v => v.category).sum ≤ 8) (hdg : decode cc pc = .ok (.invokevirtual 143, 3)) (kk : ∀ (r : Int32) (w1 : sj_W) (H : Heap) (locs : List Loc), sj_H G s w1 H locs → Qi r w1 → W p l e R s m args below meth c H locs (cells + 0) (slots + 0) (sj_MQ G below QcM QX args s rmM) (F0 m (pc + 3) ls (.int r :: rest))) : W p l e R s m args below meth c H locs cells slots (sj_MQ G below QcM QX args s rmM) (F0 m pc ls (.int b3 :: .int b2 :: .int b1 :: .int b0 :: .ref b :: rest)) :=
  sj_cI hD hH (sj_runV (n := 4) hC hH (As := [.int b0, .int b1, .int b2, .int b3]) (wk_X7_spans G l hC.2.2.2.2.2.2 b b0 b1 b2 b3 w Qi QX hv) (ci := 5) rfl (by decide) hT mb_896 mb_898 mb_s37 mb_5 mb_899 (by decide +kernel) hR hf rfl hls hW hdg) hfM kk
end SJL_X7_spans
abbrev rm_X7_rank : Room := { frames := 5, cells := 0, slots := 0, locals := 124 }
def vb_X7_rank_41 (f0 : Nat) (f1 : Int32) (f2 : Int32) (f3 : Int32) (Q : Int32 → sj_W → Prop) (E : Int32 → sj_W → Prop) (K : Int32 → Int32 → sj_W → Prop) (v4 : Int32) (v5 : Int32) (w : sj_W) : Prop := ((12 ≤ v5 → E v4 w) ∧ (¬ 12 ≤ v5 → sj_T w f0 = 6 ∧ vc_X7_isFit f0 f1 v5 w (fun r26 w27 => ((r26 = 0 → K (v4 + 0) (v5 + 1) w27) ∧ (¬ r26 = 0 → sj_T w27 f0 = 6 ∧ vc_X7_spans f0 f1 f2 v5 f3 w27 (fun r31 w32 => ((0 ≤ r31 → K (v4 + 0) (v5 + 1) w32) ∧ (¬ 0 ≤ r31 → K (v4 + 1) (v5 + 1) w32))))))))
def vc_X7_rank (self : Nat) (a1 : Int32) (a2 : Int32) (a3 : Int32) (w : sj_W) (Q : Int32 → sj_W → Prop) : Prop := vc_X7_isKind a1 w (fun r1 w2 => sj_jn3 (fun (E4 : Int32 → Nat → Nat → sj_W → Prop) => ((r1 = 0 → E4 0 self self w2) ∧ (¬ r1 = 0 → vc_X7_isOrder a2 w2 (fun r12 w13 => ((r12 = 0 → E4 0 self self w13) ∧ (¬ r12 = 0 → E4 1 self self w13)))))) (fun (y0_21 : Int32) (y1_21 : Nat) (y2_21 : Nat) (w_21 : sj_W) => sj_T w_21 y1_21 = 6 ∧ vc_X7_noWords y1_21 y0_21 a1 a3 a3 w_21 (fun r17 w18 => sj_T w18 y2_21 = 6 ∧ vc_X7_fails y2_21 r17 w18 (fun r20 w21 => ((r20 = 0 → sj_lp2 (vb_X7_rank_41 self a1 a2 a3 Q (fun z4_41 w_41 => Q z4_41 w_41)) 64 0 0 w21) ∧ (¬ r20 = 0 → Q 0 w21))))))
set_option maxHeartbeats 4000000 in
set_option maxRecDepth 100000 in
theorem wl_X7_rank_41 {p : Program} {l : Launch} {e : Env} {s : State} {m : MethodId} {args : Array Value} {below : List Frame} {meth : Method} {c : Code} {G : sj_G} {f0 : Nat} {f1 : Int32} {f2 : Int32} {f3 : Int32} {Q : Int32 → sj_W → Prop} {QX : String → sj_W → Prop} {E : Int32 → sj_W → Prop} (hC : sj_C G p l s m args c cX7_rank RX7 6) (hD : sj_D meth c) (hr : meth.sig.returnType = (some .int)) (hin : meth.name = "rank") (hE : ∀ (v4 : Int32) (w : sj_W) (H : Heap) (locs : List Loc) (ls : Array Slot), lv_has ls 6 [(4, .int v4)] → sj_H G s w H locs → E v4 w → W p l e rm_X7_rank s m args below meth c H locs 0 0 (sj_MQ G below (va_Qi Q (sj_B G) (sj_F G)) QX args s rm_X7_rank) (F0 m 86 ls [])) : ∀ (n : Nat) (v4 : Int32) (v5 : Int32) (w : sj_W) (H : Heap) (locs : List Loc) (ls : Array Slot), lv_has ls 6 [(0, .ref f0), (1, .int f1), (2, .int f2), (3, .int f3), (4, .int v4), (5, .int v5)] → sj_H G s w H locs → sj_lp2 (vb_X7_rank_41 f0 f1 f2 f3 Q E) n v4 v5 w → W p l e rm_X7_rank s m args below meth c H locs 0 0 (sj_MQ G below (va_Qi Q (sj_B G) (sj_F G)) QX args s rm_X7_rank) (F0 m 41 ls []) := by
  have hx := hC.1
  have hb := hC.2.1
  intro n
  induction n with
  | zero =>
    intro v4 v5 w H locs ls _ _ hv
    exact hv.elim
  | succ n ih =>
    intro v4 v5 w H locs ls hl hH hv
    have hv : vb_X7_rank_41 f0 f1 f2 f3 Q E (sj_lp2 (vb_X7_rank_41 f0 f1 f2 f3 Q E) n) v4 v5 w := hv
    have hc1 : rm_X7_rank.cells = 0 := rfl
    have hc2 : rm_X7_rank.slots = 0 := rfl
    refine lv_iload hx hb dX7_rank_41 (lv_at hl 5 rfl) ?_
    refine lv_bipush (v := 12) hx hb dX7_rank_43 (by decide) ?_
    refine lv_icmp_ge (tgt := 86) hx hb dX7_rank_45 (by decide) (fun hc => ?_) (fun hc => ?_)
    · have hv24 := hv.1 hc
      exact hE v4 w _ _ _ (lv_sub hl [4] rfl) hH hv24
    · have hv25 := hv.2 hc
      refine lv_iload hx hb dX7_rank_48 (lv_at hl 4 rfl) ?_
      refine lv_aload_n hx hb dX7_rank_50 rfl (lv_at hl 0 rfl) ?_
      refine lv_iload_n hx hb dX7_rank_51 rfl (lv_at hl 1 rfl) ?_
      refine lv_iload hx hb dX7_rank_52 (lv_at hl 5 rfl) ?_
      refine cl_X7_110 hC hD hH hv25.2 hv25.1 ⟨Nat.le_of_ble_eq_true rfl, Nat.le_of_ble_eq_true rfl⟩ ⟨(Nat.le_of_ble_eq_true rfl), (Nat.le_of_ble_eq_true rfl)⟩ ⟨(Nat.le_of_ble_eq_true rfl), (Nat.le_of_ble_eq_true rfl)⟩ hl.1 (Nat.le_of_ble_eq_true rfl) dX7_rank_54 (fun r26 w27 H locs hH hv28 => ?_)
      refine lv_if_eq (tgt := 76) hx hb dX7_rank_57 (by decide) (fun hc => ?_) (fun hc => ?_)
      · have hv29 := hv28.1 hc
        refine lv_iconst (v := 0) hx hb dX7_rank_76 (by decide) ?_
        refine lv_iadd hx hb dX7_rank_77 ?_
        refine lv_istore (lv' := [(4, .int (v4 + 0)), (0, .ref f0), (1, .int f1), (2, .int f2), (3, .int f3), (5, .int v5)]) hx hb dX7_rank_78 hl (by decide) rfl (fun ls hl => ?_)
        refine lv_iinc (v := (v5 + 1)) (lv' := [(5, .int (v5 + 1)), (4, .int (v4 + 0)), (0, .ref f0), (1, .int f1), (2, .int f2), (3, .int f3)]) hx hb dX7_rank_80 hl (k := 5) rfl rfl (by decide) rfl (fun ls hl => ?_)
        refine lv_goto (tgt := 41) hx hb dX7_rank_83 (by decide) ?_
        exact ih (v4 + 0) (v5 + 1) w27 _ _ _ (lv_sub hl [2, 3, 4, 5, 1, 0] rfl) hH hv29
      · have hv30 := hv28.2 hc
        refine lv_aload_n hx hb dX7_rank_60 rfl (lv_at hl 0 rfl) ?_
        refine lv_iload_n hx hb dX7_rank_61 rfl (lv_at hl 1 rfl) ?_
        refine lv_iload_n hx hb dX7_rank_62 rfl (lv_at hl 2 rfl) ?_
        refine lv_iload hx hb dX7_rank_63 (lv_at hl 5 rfl) ?_
        refine lv_iload_n hx hb dX7_rank_65 rfl (lv_at hl 3 rfl) ?_
        refine cl_X7_143 hC hD hH hv30.2 hv30.1 ⟨Nat.le_of_ble_eq_true rfl, Nat.le_of_ble_eq_true rfl⟩ ⟨(Nat.le_of_ble_eq_true rfl), (Nat.le_of_ble_eq_true rfl)⟩ ⟨(Nat.le_of_ble_eq_true rfl), (Nat.le_of_ble_eq_true rfl)⟩ hl.1 (Nat.le_of_ble_eq_true rfl) dX7_rank_66 (fun r31 w32 H locs hH hv33 => ?_)
        refine lv_if_ge (tgt := 76) hx hb dX7_rank_69 (by decide) (fun hc => ?_) (fun hc => ?_)
        · have hv34 := hv33.1 hc
          refine lv_iconst (v := 0) hx hb dX7_rank_76 (by decide) ?_
          refine lv_iadd hx hb dX7_rank_77 ?_
          refine lv_istore (lv' := [(4, .int (v4 + 0)), (0, .ref f0), (1, .int f1), (2, .int f2), (3, .int f3), (5, .int v5)]) hx hb dX7_rank_78 hl (by decide) rfl (fun ls hl => ?_)
          refine lv_iinc (v := (v5 + 1)) (lv' := [(5, .int (v5 + 1)), (4, .int (v4 + 0)), (0, .ref f0), (1, .int f1), (2, .int f2), (3, .int f3)]) hx hb dX7_rank_80 hl (k := 5) rfl rfl (by decide) rfl (fun ls hl => ?_)
          refine lv_goto (tgt := 41) hx hb dX7_rank_83 (by decide) ?_
          exact ih (v4 + 0) (v5 + 1) w32 _ _ _ (lv_sub hl [2, 3, 4, 5, 1, 0] rfl) hH hv34
        · have hv35 := hv33.2 hc
          refine lv_iconst (v := 1) hx hb dX7_rank_72 (by decide) ?_
          refine lv_goto (tgt := 77) hx hb dX7_rank_73 (by decide) ?_
          refine lv_iadd hx hb dX7_rank_77 ?_
          refine lv_istore (lv' := [(4, .int (v4 + 1)), (0, .ref f0), (1, .int f1), (2, .int f2), (3, .int f3), (5, .int v5)]) hx hb dX7_rank_78 hl (by decide) rfl (fun ls hl => ?_)
          refine lv_iinc (v := (v5 + 1)) (lv' := [(5, .int (v5 + 1)), (4, .int (v4 + 1)), (0, .ref f0), (1, .int f1), (2, .int f2), (3, .int f3)]) hx hb dX7_rank_80 hl (k := 5) rfl rfl (by decide) rfl (fun ls hl => ?_)
          refine lv_goto (tgt := 41) hx hb dX7_rank_83 (by decide) ?_
          exact ih (v4 + 1) (v5 + 1) w32 _ _ _ (lv_sub hl [2, 3, 4, 5, 1, 0] rfl) hH hv35
set_option maxHeartbeats 4000000 in
set_option maxRecDepth 100000 in
theorem wk_X7_rank (G : sj_G) (l : Launch) (hlt : l.stackTraces = false) (self : Nat) (a1 : Int32) (a2 : Int32) (a3 : Int32) (w : sj_W) (Q : Int32 → sj_W → Prop) (QX : String → sj_W → Prop) (hv : vc_X7_rank self a1 a2 a3 w Q) : sj_MI G l yX7_rank (sj_ws yX7_rank cX7_rank 6 (some .int)) rm_X7_rank [.ref self, .int a1, .int a2, .int a3] w Q QX := by
  refine sj_of (by decide +kernel) (Nat.le_of_ble_eq_true rfl) hlt ?_
  intro p e s m args below meth c ls hC hD hr hin hH hl
  have hx := hC.1
  have hb := hC.2.1
  have hl : lv_has ls 6 [(0, .ref self), (1, .int a1), (2, .int a2), (3, .int a3)] := hl
  refine lv_aload_n hx hb dX7_rank_0 rfl (lv_at hl 0 rfl) ?_
  refine lv_aload_n hx hb dX7_rank_1 rfl (lv_at hl 0 rfl) ?_
  refine lv_iload_n hx hb dX7_rank_2 rfl (lv_at hl 1 rfl) ?_
  refine cl_X7_57 hC hD hH hv ⟨Nat.le_of_ble_eq_true rfl, Nat.le_of_ble_eq_true rfl⟩ ⟨(Nat.le_of_ble_eq_true rfl), (Nat.le_of_ble_eq_true rfl)⟩ ⟨(Nat.le_of_ble_eq_true rfl), (Nat.le_of_ble_eq_true rfl)⟩ hl.1 (Nat.le_of_ble_eq_true rfl) dX7_rank_3 (fun r1 w2 H locs hH hv3 => ?_)
  obtain ⟨E4, hE5, hv8⟩ := sj_jn3_e hv3
  have hJ6 : ∀ (y0_21 : Int32) (y1_21 : Nat) (y2_21 : Nat) (w_21 : sj_W) (H : Heap) (locs : List Loc) (ls : Array Slot), lv_has ls 6 [(0, .ref self), (1, .int a1), (2, .int a2), (3, .int a3)] → sj_H G s w_21 H locs → E4 y0_21 y1_21 y2_21 w_21 → W p l e rm_X7_rank s m args below meth c H locs 0 0 (sj_MQ G below (va_Qi Q (sj_B G) (sj_F G)) QX args s rm_X7_rank) (F0 m 21 ls [.int y0_21, .ref y1_21, .ref y2_21]) := by
    intro y0_21 y1_21 y2_21 w_21 H locs ls hl hH hv9
    rw [hE5] at hv9
    refine lv_iload_n hx hb dX7_rank_21 rfl (lv_at hl 1 rfl) ?_
    refine lv_iload_n hx hb dX7_rank_22 rfl (lv_at hl 3 rfl) ?_
    refine lv_iload_n hx hb dX7_rank_23 rfl (lv_at hl 3 rfl) ?_
    refine cl_X7_129 hC hD hH hv9.2 hv9.1 ⟨Nat.le_of_ble_eq_true rfl, Nat.le_of_ble_eq_true rfl⟩ ⟨(Nat.le_of_ble_eq_true rfl), (Nat.le_of_ble_eq_true rfl)⟩ ⟨(Nat.le_of_ble_eq_true rfl), (Nat.le_of_ble_eq_true rfl)⟩ hl.1 (Nat.le_of_ble_eq_true rfl) dX7_rank_24 (fun r17 w18 H locs hH hv19 => ?_)
    refine cl_X7_73 hC hD hH hv19.2 hv19.1 ⟨Nat.le_of_ble_eq_true rfl, Nat.le_of_ble_eq_true rfl⟩ ⟨(Nat.le_of_ble_eq_true rfl), (Nat.le_of_ble_eq_true rfl)⟩ ⟨(Nat.le_of_ble_eq_true rfl), (Nat.le_of_ble_eq_true rfl)⟩ hl.1 (Nat.le_of_ble_eq_true rfl) dX7_rank_27 (fun r20 w21 H locs hH hv22 => ?_)
    refine lv_if_eq (tgt := 35) hx hb dX7_rank_30 (by decide) (fun hc => ?_) (fun hc => ?_)
    · have hv23 := hv22.1 hc
      refine lv_iconst (v := 0) hx hb dX7_rank_35 (by decide) ?_
      refine lv_istore (lv' := [(4, .int 0), (0, .ref self), (1, .int a1), (2, .int a2), (3, .int a3)]) hx hb dX7_rank_36 hl (by decide) rfl (fun ls hl => ?_)
      refine lv_iconst (v := 0) hx hb dX7_rank_38 (by decide) ?_
      refine lv_istore (lv' := [(5, .int 0), (4, .int 0), (0, .ref self), (1, .int a1), (2, .int a2), (3, .int a3)]) hx hb dX7_rank_39 hl (by decide) rfl (fun ls hl => ?_)
      refine wl_X7_rank_41 hC hD hr hin (fun z4_41 w_41 H locs ls hl hH hv36 => ?_) 64 0 0 w21 _ _ _ (lv_sub hl [2, 3, 4, 5, 1, 0] rfl) hH hv23
      refine lv_iload hx hb dX7_rank_86 (lv_at hl 0 rfl) ?_
      exact sj_retI hC hD.2 hH hr rfl hv36 ⟨(Nat.le_of_ble_eq_true rfl), (Nat.le_of_ble_eq_true rfl)⟩ dX7_rank_88
    · have hv37 := hv22.2 hc
      refine lv_iconst (v := 0) hx hb dX7_rank_33 (by decide) ?_
      exact sj_retI hC hD.2 hH hr rfl hv37 ⟨(Nat.le_of_ble_eq_true rfl), (Nat.le_of_ble_eq_true rfl)⟩ dX7_rank_34
  clear hE5
  refine lv_if_eq (tgt := 20) hx hb dX7_rank_6 (by decide) (fun hc => ?_) (fun hc => ?_)
  · have hv10 := hv8.1 hc
    refine lv_iconst (v := 0) hx hb dX7_rank_20 (by decide) ?_
    exact hJ6 0 self self w2 _ _ _ (lv_sub hl [0, 1, 2, 3] rfl) hH hv10
  · have hv11 := hv8.2 hc
    refine lv_iload_n hx hb dX7_rank_9 rfl (lv_at hl 2 rfl) ?_
    refine cl_X7_140 hC hD hH hv11 ⟨Nat.le_of_ble_eq_true rfl, Nat.le_of_ble_eq_true rfl⟩ ⟨(Nat.le_of_ble_eq_true rfl), (Nat.le_of_ble_eq_true rfl)⟩ ⟨(Nat.le_of_ble_eq_true rfl), (Nat.le_of_ble_eq_true rfl)⟩ hl.1 (Nat.le_of_ble_eq_true rfl) dX7_rank_10 (fun r12 w13 H locs hH hv14 => ?_)
    refine lv_if_eq (tgt := 20) hx hb dX7_rank_13 (by decide) (fun hc => ?_) (fun hc => ?_)
    · have hv15 := hv14.1 hc
      refine lv_iconst (v := 0) hx hb dX7_rank_20 (by decide) ?_
      exact hJ6 0 self self w13 _ _ _ (lv_sub hl [0, 1, 2, 3] rfl) hH hv15
    · have hv16 := hv14.2 hc
      refine lv_iconst (v := 1) hx hb dX7_rank_16 (by decide) ?_
      refine lv_goto (tgt := 21) hx hb dX7_rank_17 (by decide) ?_
      exact hJ6 1 self self w13 _ _ _ (lv_sub hl [0, 1, 2, 3] rfl) hH hv16
section SJL_X7_rank
variable {p : Program} {l : Launch} {e : Env} {R : Room} {s : State} {m : MethodId} {args : Array Value} {below : List Frame} {meth : Method} {c : Code} {H : Heap} {locs : List Loc} {cells slots : Nat} {Q : State → Prop} {cc : ByteArray} {pc : Nat} {ls : Array Slot} {rest : List Value} {G : sj_G} {nL : Nat} {w : sj_W}
theorem cg_L_207 {b : Nat} {b0 : Int32} {b1 : Int32} {b2 : Int32} {Qi : Int32 → sj_W → Prop} (hC : sj_C G p l s m args c cc RL nL) (hH : sj_H G s w H locs) (hv : vc_X7_rank b b0 b1 b2 w Qi) (hT : sj_T w b = 6) (hR : rm_X7_rank.frames + 1 ≤ R.frames ∧ 8 + (6 + 11) + rm_X7_rank.locals ≤ R.locals) (hf : cells + 0 ≤ R.cells ∧ slots + 0 ≤ R.slots) (hls : ls.size = nL) (hW : (rest.map fun v => v.category).sum ≤ 8) (hdg : decode cc pc = .ok (.invokevirtual 207, 3)) (kk : ∀ (r : Int32) (w1 : sj_W) (H : Heap) (locs : List Loc), sj_H G s w1 H locs → Qi r w1 → W p l e R s m args below meth c H locs (cells + 0) (slots + 0) Q (F0 m (pc + 3) ls (.int r :: rest))) : W p l e R s m args below meth c H locs cells slots Q (F0 m pc ls (.int b2 :: .int b1 :: .int b0 :: .ref b :: rest)) :=
  sj_xI hH (sj_runV (n := 3) hC hH (As := [.int b0, .int b1, .int b2]) (wk_X7_rank G l hC.2.2.2.2.2.2 b b0 b1 b2 w Qi (fun _ _ => False) hv) (ci := 5) rfl (by decide) hT mb_889 mb_890 mb_891 mb_5 mb_892 (by decide +kernel) hR hf rfl hls hW hdg) (fun _ _ _ _ _ _ _ h _ _ _ => h.elim) kk
end SJL_X7_rank
abbrev rm_X7_refused : Room := { frames := 2, cells := 0, slots := 0, locals := 45 }
def vc_X7_refused (self : Nat) (a1 : Int32) (a2 : Int32) (a3 : Int32) (a4 : Int32) (a5 : Int32) (w : sj_W) (Q : Int32 → sj_W → Prop) : Prop := vc_X7_isKind a1 w (fun r1 w2 => sj_jn2 (fun (E4 : Int32 → Nat → sj_W → Prop) => ((r1 = 0 → E4 1 self w2) ∧ (¬ r1 = 0 → vc_X7_isAsk a2 w2 (fun r12 w13 => ((¬ r12 = 0 → vc_X7_isRow a3 w13 (fun r16 w17 => ((r16 = 0 → E4 2 self w17) ∧ (¬ r16 = 0 → E4 0 self w17)))) ∧ (r12 = 0 → E4 1 self w13)))))) (fun (y0_31 : Int32) (y1_31 : Nat) (w_31 : sj_W) => sj_T w_31 y1_31 = 6 ∧ vc_X7_fails y1_31 y0_31 w_31 (fun r22 w23 => ((r22 = 0 → sj_jn1 (fun (E26 : Int32 → sj_W → Prop) => ((a4 ≤ a5 → E26 0 w23) ∧ (¬ a4 ≤ a5 → E26 1 w23))) (fun (y0_51 : Int32) (w_51 : sj_W) => sj_jn1 (fun (E34 : Int32 → sj_W → Prop) => ((a4 < 0 → E34 1 w_51) ∧ (¬ a4 < 0 → sj_T w_51 self = 6 ∧ vc_X7_size self a1 a3 w_51 (fun r42 w43 => ((a5 ≤ r42 → E34 0 w43) ∧ (¬ a5 ≤ r42 → E34 1 w43)))))) (fun (y0_74 : Int32) (w_74 : sj_W) => ((y0_51 = 0 → ((y0_74 = 0 → ((y0_51 = 0 → Q 0 w_74) ∧ (¬ y0_51 = 0 → Q 1 w_74))) ∧ (¬ y0_74 = 0 → Q 2 w_74))) ∧ (¬ y0_51 = 0 → ((y0_74 = 0 → ((y0_74 = 0 → ((y0_51 = 0 → Q 0 w_74) ∧ (¬ y0_51 = 0 → Q 1 w_74))) ∧ (¬ y0_74 = 0 → Q 2 w_74))) ∧ (¬ y0_74 = 0 → Q 3 w_74))))))) ∧ (¬ r22 = 0 → Q 0 w23)))))
set_option maxHeartbeats 4000000 in
set_option maxRecDepth 100000 in
theorem wk_X7_refused (G : sj_G) (l : Launch) (hlt : l.stackTraces = false) (self : Nat) (a1 : Int32) (a2 : Int32) (a3 : Int32) (a4 : Int32) (a5 : Int32) (w : sj_W) (Q : Int32 → sj_W → Prop) (QX : String → sj_W → Prop) (hv : vc_X7_refused self a1 a2 a3 a4 a5 w Q) : sj_MI G l yX7_refused (sj_ws yX7_refused cX7_refused 8 (some .int)) rm_X7_refused [.ref self, .int a1, .int a2, .int a3, .int a4, .int a5] w Q QX := by
  refine sj_of (by decide +kernel) (Nat.le_of_ble_eq_true rfl) hlt ?_
  intro p e s m args below meth c ls hC hD hr hin hH hl
  have hx := hC.1
  have hb := hC.2.1
  have hl : lv_has ls 8 [(0, .ref self), (1, .int a1), (2, .int a2), (3, .int a3), (4, .int a4), (5, .int a5)] := hl
  refine lv_aload_n hx hb dX7_refused_0 rfl (lv_at hl 0 rfl) ?_
  refine lv_iload_n hx hb dX7_refused_1 rfl (lv_at hl 1 rfl) ?_
  refine cl_X7_57 hC hD hH hv ⟨Nat.le_of_ble_eq_true rfl, Nat.le_of_ble_eq_true rfl⟩ ⟨(Nat.le_of_ble_eq_true rfl), (Nat.le_of_ble_eq_true rfl)⟩ ⟨(Nat.le_of_ble_eq_true rfl), (Nat.le_of_ble_eq_true rfl)⟩ hl.1 (Nat.le_of_ble_eq_true rfl) dX7_refused_2 (fun r1 w2 H locs hH hv3 => ?_)
  obtain ⟨E4, hE5, hv8⟩ := sj_jn2_e hv3
  have hJ6 : ∀ (y0_31 : Int32) (y1_31 : Nat) (w_31 : sj_W) (H : Heap) (locs : List Loc) (ls : Array Slot), lv_has ls 8 [(0, .ref self), (1, .int a1), (3, .int a3), (4, .int a4), (5, .int a5)] → sj_H G s w_31 H locs → E4 y0_31 y1_31 w_31 → W p l e rm_X7_refused s m args below meth c H locs 0 0 (sj_MQ G below (va_Qi Q (sj_B G) (sj_F G)) QX args s rm_X7_refused) (F0 m 31 ls [.int y0_31, .ref y1_31]) := by
    intro y0_31 y1_31 w_31 H locs ls hl hH hv9
    rw [hE5] at hv9
    refine cl_X7_73 hC hD hH hv9.2 hv9.1 ⟨Nat.le_of_ble_eq_true rfl, Nat.le_of_ble_eq_true rfl⟩ ⟨(Nat.le_of_ble_eq_true rfl), (Nat.le_of_ble_eq_true rfl)⟩ ⟨(Nat.le_of_ble_eq_true rfl), (Nat.le_of_ble_eq_true rfl)⟩ hl.1 (Nat.le_of_ble_eq_true rfl) dX7_refused_31 (fun r22 w23 H locs hH hv24 => ?_)
    refine lv_if_eq (tgt := 39) hx hb dX7_refused_34 (by decide) (fun hc => ?_) (fun hc => ?_)
    · have hv25 := hv24.1 hc
      refine lv_iload hx hb dX7_refused_39 (lv_at hl 3 rfl) ?_
      refine lv_iload hx hb dX7_refused_41 (lv_at hl 4 rfl) ?_
      obtain ⟨E26, hE27, hv30⟩ := sj_jn1_e hv25
      have hJ28 : ∀ (y0_51 : Int32) (w_51 : sj_W) (H : Heap) (locs : List Loc) (ls : Array Slot), lv_has ls 8 [(0, .ref self), (1, .int a1), (3, .int a3), (4, .int a4), (5, .int a5)] → sj_H G s w_51 H locs → E26 y0_51 w_51 → W p l e rm_X7_refused s m args below meth c H locs 0 0 (sj_MQ G below (va_Qi Q (sj_B G) (sj_F G)) QX args s rm_X7_refused) (F0 m 51 ls [.int y0_51]) := by
        intro y0_51 w_51 H locs ls hl hH hv31
        rw [hE27] at hv31
        refine lv_istore (lv' := [(6, .int y0_51), (0, .ref self), (1, .int a1), (3, .int a3), (4, .int a4), (5, .int a5)]) hx hb dX7_refused_51 hl (by decide) rfl (fun ls hl => ?_)
        refine lv_iload hx hb dX7_refused_53 (lv_at hl 4 rfl) ?_
        obtain ⟨E34, hE35, hv38⟩ := sj_jn1_e hv31
        have hJ36 : ∀ (y0_74 : Int32) (w_74 : sj_W) (H : Heap) (locs : List Loc) (ls : Array Slot), lv_has ls 8 [(6, .int y0_51)] → sj_H G s w_74 H locs → E34 y0_74 w_74 → W p l e rm_X7_refused s m args below meth c H locs 0 0 (sj_MQ G below (va_Qi Q (sj_B G) (sj_F G)) QX args s rm_X7_refused) (F0 m 74 ls [.int y0_74]) := by
          intro y0_74 w_74 H locs ls hl hH hv39
          rw [hE35] at hv39
          refine lv_istore (lv' := [(7, .int y0_74), (6, .int y0_51)]) hx hb dX7_refused_74 hl (by decide) rfl (fun ls hl => ?_)
          refine lv_iload hx hb dX7_refused_76 (lv_at hl 1 rfl) ?_
          refine lv_if_eq (tgt := 90) hx hb dX7_refused_78 (by decide) (fun hc => ?_) (fun hc => ?_)
          · have hv47 := hv39.1 hc
            refine lv_iload hx hb dX7_refused_90 (lv_at hl 0 rfl) ?_
            refine lv_if_eq (tgt := 99) hx hb dX7_refused_92 (by decide) (fun hc => ?_) (fun hc => ?_)
            · have hv48 := hv47.1 hc
              refine lv_iload hx hb dX7_refused_99 (lv_at hl 1 rfl) ?_
              refine lv_if_eq (tgt := 108) hx hb dX7_refused_101 (by decide) (fun hc => ?_) (fun hc => ?_)
              · have hv49 := hv48.1 hc
                refine lv_iconst (v := 0) hx hb dX7_refused_108 (by decide) ?_
                exact sj_retI hC hD.2 hH hr rfl hv49 ⟨(Nat.le_of_ble_eq_true rfl), (Nat.le_of_ble_eq_true rfl)⟩ dX7_refused_109
              · have hv50 := hv48.2 hc
                refine lv_iconst (v := 1) hx hb dX7_refused_104 (by decide) ?_
                refine lv_goto (tgt := 109) hx hb dX7_refused_105 (by decide) ?_
                exact sj_retI hC hD.2 hH hr rfl hv50 ⟨(Nat.le_of_ble_eq_true rfl), (Nat.le_of_ble_eq_true rfl)⟩ dX7_refused_109
            · have hv51 := hv47.2 hc
              refine lv_iconst (v := 2) hx hb dX7_refused_95 (by decide) ?_
              refine lv_goto (tgt := 109) hx hb dX7_refused_96 (by decide) ?_
              exact sj_retI hC hD.2 hH hr rfl hv51 ⟨(Nat.le_of_ble_eq_true rfl), (Nat.le_of_ble_eq_true rfl)⟩ dX7_refused_109
          · have hv52 := hv39.2 hc
            refine lv_iload hx hb dX7_refused_81 (lv_at hl 0 rfl) ?_
            refine lv_if_eq (tgt := 90) hx hb dX7_refused_83 (by decide) (fun hc => ?_) (fun hc => ?_)
            · have hv53 := hv52.1 hc
              refine lv_iload hx hb dX7_refused_90 (lv_at hl 0 rfl) ?_
              refine lv_if_eq (tgt := 99) hx hb dX7_refused_92 (by decide) (fun hc => ?_) (fun hc => ?_)
              · have hv54 := hv53.1 hc
                refine lv_iload hx hb dX7_refused_99 (lv_at hl 1 rfl) ?_
                refine lv_if_eq (tgt := 108) hx hb dX7_refused_101 (by decide) (fun hc => ?_) (fun hc => ?_)
                · have hv55 := hv54.1 hc
                  refine lv_iconst (v := 0) hx hb dX7_refused_108 (by decide) ?_
                  exact sj_retI hC hD.2 hH hr rfl hv55 ⟨(Nat.le_of_ble_eq_true rfl), (Nat.le_of_ble_eq_true rfl)⟩ dX7_refused_109
                · have hv56 := hv54.2 hc
                  refine lv_iconst (v := 1) hx hb dX7_refused_104 (by decide) ?_
                  refine lv_goto (tgt := 109) hx hb dX7_refused_105 (by decide) ?_
                  exact sj_retI hC hD.2 hH hr rfl hv56 ⟨(Nat.le_of_ble_eq_true rfl), (Nat.le_of_ble_eq_true rfl)⟩ dX7_refused_109
              · have hv57 := hv53.2 hc
                refine lv_iconst (v := 2) hx hb dX7_refused_95 (by decide) ?_
                refine lv_goto (tgt := 109) hx hb dX7_refused_96 (by decide) ?_
                exact sj_retI hC hD.2 hH hr rfl hv57 ⟨(Nat.le_of_ble_eq_true rfl), (Nat.le_of_ble_eq_true rfl)⟩ dX7_refused_109
            · have hv58 := hv52.2 hc
              refine lv_iconst (v := 3) hx hb dX7_refused_86 (by decide) ?_
              refine lv_goto (tgt := 109) hx hb dX7_refused_87 (by decide) ?_
              exact sj_retI hC hD.2 hH hr rfl hv58 ⟨(Nat.le_of_ble_eq_true rfl), (Nat.le_of_ble_eq_true rfl)⟩ dX7_refused_109
        clear hE35
        refine lv_if_lt (tgt := 69) hx hb dX7_refused_55 (by decide) (fun hc => ?_) (fun hc => ?_)
        · have hv40 := hv38.1 hc
          refine lv_iconst (v := 1) hx hb dX7_refused_69 (by decide) ?_
          refine lv_goto (tgt := 74) hx hb dX7_refused_70 (by decide) ?_
          exact hJ36 1 w_51 _ _ _ (lv_sub hl [0] rfl) hH hv40
        · have hv41 := hv38.2 hc
          refine lv_iload hx hb dX7_refused_58 (lv_at hl 5 rfl) ?_
          refine lv_aload_n hx hb dX7_refused_60 rfl (lv_at hl 1 rfl) ?_
          refine lv_iload_n hx hb dX7_refused_61 rfl (lv_at hl 2 rfl) ?_
          refine lv_iload_n hx hb dX7_refused_62 rfl (lv_at hl 3 rfl) ?_
          refine cl_X7_69 hC hD hH hv41.2 hv41.1 ⟨Nat.le_of_ble_eq_true rfl, Nat.le_of_ble_eq_true rfl⟩ ⟨(Nat.le_of_ble_eq_true rfl), (Nat.le_of_ble_eq_true rfl)⟩ ⟨(Nat.le_of_ble_eq_true rfl), (Nat.le_of_ble_eq_true rfl)⟩ hl.1 (Nat.le_of_ble_eq_true rfl) dX7_refused_63 (fun r42 w43 H locs hH hv44 => ?_)
          refine lv_icmp_le (tgt := 73) hx hb dX7_refused_66 (by decide) (fun hc => ?_) (fun hc => ?_)
          · have hv45 := hv44.1 hc
            refine lv_iconst (v := 0) hx hb dX7_refused_73 (by decide) ?_
            exact hJ36 0 w43 _ _ _ (lv_sub hl [0] rfl) hH hv45
          · have hv46 := hv44.2 hc
            refine lv_iconst (v := 1) hx hb dX7_refused_69 (by decide) ?_
            refine lv_goto (tgt := 74) hx hb dX7_refused_70 (by decide) ?_
            exact hJ36 1 w43 _ _ _ (lv_sub hl [0] rfl) hH hv46
      clear hE27
      refine lv_icmp_le (tgt := 50) hx hb dX7_refused_43 (by decide) (fun hc => ?_) (fun hc => ?_)
      · have hv32 := hv30.1 hc
        refine lv_iconst (v := 0) hx hb dX7_refused_50 (by decide) ?_
        exact hJ28 0 w23 _ _ _ (lv_sub hl [0, 1, 2, 3, 4] rfl) hH hv32
      · have hv33 := hv30.2 hc
        refine lv_iconst (v := 1) hx hb dX7_refused_46 (by decide) ?_
        refine lv_goto (tgt := 51) hx hb dX7_refused_47 (by decide) ?_
        exact hJ28 1 w23 _ _ _ (lv_sub hl [0, 1, 2, 3, 4] rfl) hH hv33
    · have hv59 := hv24.2 hc
      refine lv_iconst (v := 0) hx hb dX7_refused_37 (by decide) ?_
      exact sj_retI hC hD.2 hH hr rfl hv59 ⟨(Nat.le_of_ble_eq_true rfl), (Nat.le_of_ble_eq_true rfl)⟩ dX7_refused_38
  clear hE5
  refine lv_if_eq (tgt := 15) hx hb dX7_refused_5 (by decide) (fun hc => ?_) (fun hc => ?_)
  · have hv10 := hv8.1 hc
    refine lv_iconst (v := 1) hx hb dX7_refused_15 (by decide) ?_
    refine lv_goto (tgt := 31) hx hb dX7_refused_16 (by decide) ?_
    exact hJ6 1 self w2 _ _ _ (lv_sub hl [0, 1, 3, 4, 5] rfl) hH hv10
  · have hv11 := hv8.2 hc
    refine lv_iload_n hx hb dX7_refused_8 rfl (lv_at hl 2 rfl) ?_
    refine cl_X7_126 hC hD hH hv11 ⟨Nat.le_of_ble_eq_true rfl, Nat.le_of_ble_eq_true rfl⟩ ⟨(Nat.le_of_ble_eq_true rfl), (Nat.le_of_ble_eq_true rfl)⟩ ⟨(Nat.le_of_ble_eq_true rfl), (Nat.le_of_ble_eq_true rfl)⟩ hl.1 (Nat.le_of_ble_eq_true rfl) dX7_refused_9 (fun r12 w13 H locs hH hv14 => ?_)
    refine lv_if_ne (tgt := 19) hx hb dX7_refused_12 (by decide) (fun hc => ?_) (fun hc => ?_)
    · have hv15 := hv14.1 hc
      refine lv_iload_n hx hb dX7_refused_19 rfl (lv_at hl 3 rfl) ?_
      refine cl_X7_61 hC hD hH hv15 ⟨Nat.le_of_ble_eq_true rfl, Nat.le_of_ble_eq_true rfl⟩ ⟨(Nat.le_of_ble_eq_true rfl), (Nat.le_of_ble_eq_true rfl)⟩ ⟨(Nat.le_of_ble_eq_true rfl), (Nat.le_of_ble_eq_true rfl)⟩ hl.1 (Nat.le_of_ble_eq_true rfl) dX7_refused_20 (fun r16 w17 H locs hH hv18 => ?_)
      refine lv_if_eq (tgt := 30) hx hb dX7_refused_23 (by decide) (fun hc => ?_) (fun hc => ?_)
      · have hv19 := hv18.1 hc
        refine lv_iconst (v := 2) hx hb dX7_refused_30 (by decide) ?_
        exact hJ6 2 self w17 _ _ _ (lv_sub hl [0, 1, 3, 4, 5] rfl) hH hv19
      · have hv20 := hv18.2 hc
        refine lv_iconst (v := 0) hx hb dX7_refused_26 (by decide) ?_
        refine lv_goto (tgt := 31) hx hb dX7_refused_27 (by decide) ?_
        exact hJ6 0 self w17 _ _ _ (lv_sub hl [0, 1, 3, 4, 5] rfl) hH hv20
    · have hv21 := hv14.2 hc
      refine lv_iconst (v := 1) hx hb dX7_refused_15 (by decide) ?_
      refine lv_goto (tgt := 31) hx hb dX7_refused_16 (by decide) ?_
      exact hJ6 1 self w13 _ _ _ (lv_sub hl [0, 1, 3, 4, 5] rfl) hH hv21
section SJL_X7_refused
variable {p : Program} {l : Launch} {e : Env} {R : Room} {s : State} {m : MethodId} {args : Array Value} {below : List Frame} {meth : Method} {c : Code} {H : Heap} {locs : List Loc} {cells slots : Nat} {Q : State → Prop} {cc : ByteArray} {pc : Nat} {ls : Array Slot} {rest : List Value} {G : sj_G} {nL : Nat} {w : sj_W}
theorem cg_L_200 {b : Nat} {b0 : Int32} {b1 : Int32} {b2 : Int32} {b3 : Int32} {b4 : Int32} {Qi : Int32 → sj_W → Prop} (hC : sj_C G p l s m args c cc RL nL) (hH : sj_H G s w H locs) (hv : vc_X7_refused b b0 b1 b2 b3 b4 w Qi) (hT : sj_T w b = 6) (hR : rm_X7_refused.frames + 1 ≤ R.frames ∧ 8 + (8 + 11) + rm_X7_refused.locals ≤ R.locals) (hf : cells + 0 ≤ R.cells ∧ slots + 0 ≤ R.slots) (hls : ls.size = nL) (hW : (rest.map fun v => v.category).sum ≤ 8) (hdg : decode cc pc = .ok (.invokevirtual 200, 3)) (kk : ∀ (r : Int32) (w1 : sj_W) (H : Heap) (locs : List Loc), sj_H G s w1 H locs → Qi r w1 → W p l e R s m args below meth c H locs (cells + 0) (slots + 0) Q (F0 m (pc + 3) ls (.int r :: rest))) : W p l e R s m args below meth c H locs cells slots Q (F0 m pc ls (.int b4 :: .int b3 :: .int b2 :: .int b1 :: .int b0 :: .ref b :: rest)) :=
  sj_xI hH (sj_runV (n := 5) hC hH (As := [.int b0, .int b1, .int b2, .int b3, .int b4]) (wk_X7_refused G l hC.2.2.2.2.2.2 b b0 b1 b2 b3 b4 w Qi (fun _ _ => False) hv) (ci := 5) rfl (by decide) hT mb_881 mb_882 mb_883 mb_5 mb_884 (by decide +kernel) hR hf rfl hls hW hdg) (fun _ _ _ _ _ _ _ h _ _ _ => h.elim) kk
end SJL_X7_refused
abbrev rm_X7_repeat : Room := { frames := 2, cells := 0, slots := 0, locals := 45 }
def vb_X7_repeat_73 (f0 : Nat) (f1 : Int32) (f2 : Int32) (f3 : Int32) (f4 : Int32) (Q : Int32 → sj_W → Prop) (E : sj_W → Prop) (K : Int32 → sj_W → Prop) (v5 : Int32) (w : sj_W) : Prop := (((f4 * f3) ≤ v5 → E w) ∧ (¬ (f4 * f3) ≤ v5 → sj_T w f0 = 6 ∧ sj_A w 40 f0 ≠ 0 ∧ sj_T w f0 = 6 ∧ vc_X7_at f0 f1 f2 v5 w (fun r36 w37 => sj_T w37 f0 = 6 ∧ sj_A w37 40 f0 ≠ 0 ∧ sj_T w37 f0 = 6 ∧ vc_X7_at f0 f1 f2 (v5 - f4) w37 (fun r39 w40 => sj_T w40 (sj_A w37 40 f0) = 8 ∧ vp_in r39 (sj_N w40 (sj_A w37 40 f0)) ∧ sj_T w40 (sj_A w 40 f0) = 8 ∧ vp_in r36 (sj_N w40 (sj_A w 40 f0)) ∧ ∀ w42 : sj_W, w42 = sj_sl w40 (sj_A w 40 f0) r36.toNatClampNeg (sj_l w40 (sj_A w37 40 f0) r39.toNatClampNeg) → K (v5 + 1) w42))))
def vc_X7_repeat (self : Nat) (a1 : Int32) (a2 : Int32) (a3 : Int32) (w : sj_W) (Q : Int32 → sj_W → Prop) : Prop := vc_X7_isKind a1 w (fun r1 w2 => sj_jn2 (fun (E4 : Int32 → Nat → sj_W → Prop) => ((r1 = 0 → E4 1 self w2) ∧ (¬ r1 = 0 → vc_X7_in (a3.toInt64) 1 8 w2 (fun r12 w13 => ((¬ r12 = 0 → vc_X7_isRow a2 w13 (fun r16 w17 => ((¬ r16 = 0 → sj_T w17 self = 6 ∧ vc_X7_size self a1 a2 w17 (fun r20 w21 => (((r20 * a3) ≤ 32 → E4 0 self w21) ∧ (¬ (r20 * a3) ≤ 32 → E4 3 self w21)))) ∧ (r16 = 0 → E4 2 self w17)))) ∧ (r12 = 0 → E4 1 self w13)))))) (fun (y0_53 : Int32) (y1_53 : Nat) (w_53 : sj_W) => sj_T w_53 y1_53 = 6 ∧ vc_X7_fails y1_53 y0_53 w_53 (fun r27 w28 => ((r27 = 0 → sj_T w28 self = 6 ∧ vc_X7_size self a1 a2 w28 (fun r31 w32 => sj_lp1 (vb_X7_repeat_73 self a1 a2 a3 r31 Q (fun w_73 => sj_T w_73 self = 6 ∧ vc_X7_resize self a1 a2 (r31 * a3) w_73 (fun w46 => Q (r31 * a3) w46))) 64 r31 w32)) ∧ (¬ r27 = 0 → Q 0 w28)))))
set_option maxHeartbeats 4000000 in
set_option maxRecDepth 100000 in
theorem wl_X7_repeat_73 {p : Program} {l : Launch} {e : Env} {s : State} {m : MethodId} {args : Array Value} {below : List Frame} {meth : Method} {c : Code} {G : sj_G} {f0 : Nat} {f1 : Int32} {f2 : Int32} {f3 : Int32} {f4 : Int32} {Q : Int32 → sj_W → Prop} {QX : String → sj_W → Prop} {E : sj_W → Prop} (hC : sj_C G p l s m args c cX7_repeat RX7 6) (hD : sj_D meth c) (hr : meth.sig.returnType = (some .int)) (hin : meth.name = "repeat") (hE : ∀ (w : sj_W) (H : Heap) (locs : List Loc) (ls : Array Slot), lv_has ls 6 [(0, .ref f0), (1, .int f1), (2, .int f2), (3, .int f3), (4, .int f4)] → sj_H G s w H locs → E w → W p l e rm_X7_repeat s m args below meth c H locs 0 0 (sj_MQ G below (va_Qi Q (sj_B G) (sj_F G)) QX args s rm_X7_repeat) (F0 m 117 ls [])) : ∀ (n : Nat) (v5 : Int32) (w : sj_W) (H : Heap) (locs : List Loc) (ls : Array Slot), lv_has ls 6 [(0, .ref f0), (1, .int f1), (2, .int f2), (3, .int f3), (4, .int f4), (5, .int v5)] → sj_H G s w H locs → sj_lp1 (vb_X7_repeat_73 f0 f1 f2 f3 f4 Q E) n v5 w → W p l e rm_X7_repeat s m args below meth c H locs 0 0 (sj_MQ G below (va_Qi Q (sj_B G) (sj_F G)) QX args s rm_X7_repeat) (F0 m 73 ls []) := by
  have hx := hC.1
  have hb := hC.2.1
  intro n
  induction n with
  | zero =>
    intro v5 w H locs ls _ _ hv
    exact hv.elim
  | succ n ih =>
    intro v5 w H locs ls hl hH hv
    have hv : vb_X7_repeat_73 f0 f1 f2 f3 f4 Q E (sj_lp1 (vb_X7_repeat_73 f0 f1 f2 f3 f4 Q E) n) v5 w := hv
    have hc1 : rm_X7_repeat.cells = 0 := rfl
    have hc2 : rm_X7_repeat.slots = 0 := rfl
    refine lv_iload hx hb dX7_repeat_73 (lv_at hl 5 rfl) ?_
    refine lv_iload hx hb dX7_repeat_75 (lv_at hl 4 rfl) ?_
    refine lv_iload_n hx hb dX7_repeat_77 rfl (lv_at hl 3 rfl) ?_
    refine lv_imul hx hb dX7_repeat_78 ?_
    refine lv_icmp_ge (tgt := 117) hx hb dX7_repeat_79 (by decide) (fun hc => ?_) (fun hc => ?_)
    · have hv34 := hv.1 hc
      exact hE  w _ _ _ (lv_sub hl [0, 1, 2, 3, 4] rfl) hH hv34
    · have hv35 := hv.2 hc
      refine lv_aload_n hx hb dX7_repeat_82 rfl (lv_at hl 0 rfl) ?_
      refine gf_X7_7 hC hH hv35.1 hv35.2.1 dX7_repeat_83 ?_
      refine lv_aload_n hx hb dX7_repeat_86 rfl (lv_at hl 0 rfl) ?_
      refine lv_iload_n hx hb dX7_repeat_87 rfl (lv_at hl 1 rfl) ?_
      refine lv_iload_n hx hb dX7_repeat_88 rfl (lv_at hl 2 rfl) ?_
      refine lv_iload hx hb dX7_repeat_89 (lv_at hl 5 rfl) ?_
      refine cl_X7_76 hC hD hH hv35.2.2.2 hv35.2.2.1 ⟨Nat.le_of_ble_eq_true rfl, Nat.le_of_ble_eq_true rfl⟩ ⟨(Nat.le_of_ble_eq_true rfl), (Nat.le_of_ble_eq_true rfl)⟩ ⟨(Nat.le_of_ble_eq_true rfl), (Nat.le_of_ble_eq_true rfl)⟩ hl.1 (Nat.le_of_ble_eq_true rfl) dX7_repeat_91 (fun r36 w37 H locs hH hv38 => ?_)
      refine lv_aload_n hx hb dX7_repeat_94 rfl (lv_at hl 0 rfl) ?_
      refine gf_X7_7 hC hH hv38.1 hv38.2.1 dX7_repeat_95 ?_
      refine lv_aload_n hx hb dX7_repeat_98 rfl (lv_at hl 0 rfl) ?_
      refine lv_iload_n hx hb dX7_repeat_99 rfl (lv_at hl 1 rfl) ?_
      refine lv_iload_n hx hb dX7_repeat_100 rfl (lv_at hl 2 rfl) ?_
      refine lv_iload hx hb dX7_repeat_101 (lv_at hl 5 rfl) ?_
      refine lv_iload hx hb dX7_repeat_103 (lv_at hl 4 rfl) ?_
      refine lv_isub hx hb dX7_repeat_105 ?_
      refine cl_X7_76 hC hD hH hv38.2.2.2 hv38.2.2.1 ⟨Nat.le_of_ble_eq_true rfl, Nat.le_of_ble_eq_true rfl⟩ ⟨(Nat.le_of_ble_eq_true rfl), (Nat.le_of_ble_eq_true rfl)⟩ ⟨(Nat.le_of_ble_eq_true rfl), (Nat.le_of_ble_eq_true rfl)⟩ hl.1 (Nat.le_of_ble_eq_true rfl) dX7_repeat_106 (fun r39 w40 H locs hH hv41 => ?_)
      refine sj_lald hC hH hv41.1 hv41.2.1 dX7_repeat_109 ?_
      refine sj_last hC hH hv41.2.2.1 hv41.2.2.2.1 dX7_repeat_110 (fun w42 H locs e43 hH => ?_)
      refine lv_iinc (v := (v5 + 1)) (lv' := [(5, .int (v5 + 1)), (0, .ref f0), (1, .int f1), (2, .int f2), (3, .int f3), (4, .int f4)]) hx hb dX7_repeat_111 hl (k := 5) rfl rfl (by decide) rfl (fun ls hl => ?_)
      refine lv_goto (tgt := 73) hx hb dX7_repeat_114 (by decide) ?_
      exact ih (v5 + 1) w42 _ _ _ (lv_sub hl [1, 2, 3, 4, 5, 0] rfl) hH (hv41.2.2.2.2 w42 e43)
set_option maxHeartbeats 4000000 in
set_option maxRecDepth 100000 in
theorem wk_X7_repeat (G : sj_G) (l : Launch) (hlt : l.stackTraces = false) (self : Nat) (a1 : Int32) (a2 : Int32) (a3 : Int32) (w : sj_W) (Q : Int32 → sj_W → Prop) (QX : String → sj_W → Prop) (hv : vc_X7_repeat self a1 a2 a3 w Q) : sj_MI G l yX7_repeat (sj_ws yX7_repeat cX7_repeat 6 (some .int)) rm_X7_repeat [.ref self, .int a1, .int a2, .int a3] w Q QX := by
  refine sj_of (by decide +kernel) (Nat.le_of_ble_eq_true rfl) hlt ?_
  intro p e s m args below meth c ls hC hD hr hin hH hl
  have hx := hC.1
  have hb := hC.2.1
  have hl : lv_has ls 6 [(0, .ref self), (1, .int a1), (2, .int a2), (3, .int a3)] := hl
  refine lv_aload_n hx hb dX7_repeat_0 rfl (lv_at hl 0 rfl) ?_
  refine lv_iload_n hx hb dX7_repeat_1 rfl (lv_at hl 1 rfl) ?_
  refine cl_X7_57 hC hD hH hv ⟨Nat.le_of_ble_eq_true rfl, Nat.le_of_ble_eq_true rfl⟩ ⟨(Nat.le_of_ble_eq_true rfl), (Nat.le_of_ble_eq_true rfl)⟩ ⟨(Nat.le_of_ble_eq_true rfl), (Nat.le_of_ble_eq_true rfl)⟩ hl.1 (Nat.le_of_ble_eq_true rfl) dX7_repeat_2 (fun r1 w2 H locs hH hv3 => ?_)
  obtain ⟨E4, hE5, hv8⟩ := sj_jn2_e hv3
  have hJ6 : ∀ (y0_53 : Int32) (y1_53 : Nat) (w_53 : sj_W) (H : Heap) (locs : List Loc) (ls : Array Slot), lv_has ls 6 [(0, .ref self), (1, .int a1), (2, .int a2), (3, .int a3)] → sj_H G s w_53 H locs → E4 y0_53 y1_53 w_53 → W p l e rm_X7_repeat s m args below meth c H locs 0 0 (sj_MQ G below (va_Qi Q (sj_B G) (sj_F G)) QX args s rm_X7_repeat) (F0 m 53 ls [.int y0_53, .ref y1_53]) := by
    intro y0_53 y1_53 w_53 H locs ls hl hH hv9
    rw [hE5] at hv9
    refine cl_X7_73 hC hD hH hv9.2 hv9.1 ⟨Nat.le_of_ble_eq_true rfl, Nat.le_of_ble_eq_true rfl⟩ ⟨(Nat.le_of_ble_eq_true rfl), (Nat.le_of_ble_eq_true rfl)⟩ ⟨(Nat.le_of_ble_eq_true rfl), (Nat.le_of_ble_eq_true rfl)⟩ hl.1 (Nat.le_of_ble_eq_true rfl) dX7_repeat_53 (fun r27 w28 H locs hH hv29 => ?_)
    refine lv_if_eq (tgt := 61) hx hb dX7_repeat_56 (by decide) (fun hc => ?_) (fun hc => ?_)
    · have hv30 := hv29.1 hc
      refine lv_aload_n hx hb dX7_repeat_61 rfl (lv_at hl 0 rfl) ?_
      refine lv_iload_n hx hb dX7_repeat_62 rfl (lv_at hl 1 rfl) ?_
      refine lv_iload_n hx hb dX7_repeat_63 rfl (lv_at hl 2 rfl) ?_
      refine cl_X7_69 hC hD hH hv30.2 hv30.1 ⟨Nat.le_of_ble_eq_true rfl, Nat.le_of_ble_eq_true rfl⟩ ⟨(Nat.le_of_ble_eq_true rfl), (Nat.le_of_ble_eq_true rfl)⟩ ⟨(Nat.le_of_ble_eq_true rfl), (Nat.le_of_ble_eq_true rfl)⟩ hl.1 (Nat.le_of_ble_eq_true rfl) dX7_repeat_64 (fun r31 w32 H locs hH hv33 => ?_)
      refine lv_istore (lv' := [(4, .int r31), (0, .ref self), (1, .int a1), (2, .int a2), (3, .int a3)]) hx hb dX7_repeat_67 hl (by decide) rfl (fun ls hl => ?_)
      refine lv_iload hx hb dX7_repeat_69 (lv_at hl 0 rfl) ?_
      refine lv_istore (lv' := [(5, .int r31), (4, .int r31), (0, .ref self), (1, .int a1), (2, .int a2), (3, .int a3)]) hx hb dX7_repeat_71 hl (by decide) rfl (fun ls hl => ?_)
      refine wl_X7_repeat_73 hC hD hr hin (fun w_73 H locs ls hl hH hv44 => ?_) 64 r31 w32 _ _ _ (lv_sub hl [2, 3, 4, 5, 1, 0] rfl) hH hv33
      refine lv_aload_n hx hb dX7_repeat_117 rfl (lv_at hl 0 rfl) ?_
      refine lv_iload_n hx hb dX7_repeat_118 rfl (lv_at hl 1 rfl) ?_
      refine lv_iload_n hx hb dX7_repeat_119 rfl (lv_at hl 2 rfl) ?_
      refine lv_iload hx hb dX7_repeat_120 (lv_at hl 4 rfl) ?_
      refine lv_iload_n hx hb dX7_repeat_122 rfl (lv_at hl 3 rfl) ?_
      refine lv_imul hx hb dX7_repeat_123 ?_
      refine cl_X7_80 hC hD hH hv44.2 hv44.1 ⟨Nat.le_of_ble_eq_true rfl, Nat.le_of_ble_eq_true rfl⟩ ⟨(Nat.le_of_ble_eq_true rfl), (Nat.le_of_ble_eq_true rfl)⟩ ⟨(Nat.le_of_ble_eq_true rfl), (Nat.le_of_ble_eq_true rfl)⟩ hl.1 (Nat.le_of_ble_eq_true rfl) dX7_repeat_124 (fun w46 H locs hH hv47 => ?_)
      refine lv_iload hx hb dX7_repeat_127 (lv_at hl 4 rfl) ?_
      refine lv_iload_n hx hb dX7_repeat_129 rfl (lv_at hl 3 rfl) ?_
      refine lv_imul hx hb dX7_repeat_130 ?_
      exact sj_retI hC hD.2 hH hr rfl hv47 ⟨(Nat.le_of_ble_eq_true rfl), (Nat.le_of_ble_eq_true rfl)⟩ dX7_repeat_131
    · have hv48 := hv29.2 hc
      refine lv_iconst (v := 0) hx hb dX7_repeat_59 (by decide) ?_
      exact sj_retI hC hD.2 hH hr rfl hv48 ⟨(Nat.le_of_ble_eq_true rfl), (Nat.le_of_ble_eq_true rfl)⟩ dX7_repeat_60
  clear hE5
  refine lv_if_eq (tgt := 20) hx hb dX7_repeat_5 (by decide) (fun hc => ?_) (fun hc => ?_)
  · have hv10 := hv8.1 hc
    refine lv_iconst (v := 1) hx hb dX7_repeat_20 (by decide) ?_
    refine lv_goto (tgt := 53) hx hb dX7_repeat_21 (by decide) ?_
    exact hJ6 1 self w2 _ _ _ (lv_sub hl [0, 1, 2, 3] rfl) hH hv10
  · have hv11 := hv8.2 hc
    refine lv_iload_n hx hb dX7_repeat_8 rfl (lv_at hl 3 rfl) ?_
    refine lv_i2l hx hb dX7_repeat_9 rfl ?_
    refine lv_lconst (v := 1) hx hb dX7_repeat_10 (by decide) ?_
    refine lv_ldc2 (v := 8) hx hb hC.2.2.2.1 (hC.2.2.2.2.1 _ mb_805) dX7_repeat_11 ?_
    refine cl_X7_39 hC hD hH hv11 ⟨Nat.le_of_ble_eq_true rfl, Nat.le_of_ble_eq_true rfl⟩ ⟨(Nat.le_of_ble_eq_true rfl), (Nat.le_of_ble_eq_true rfl)⟩ ⟨(Nat.le_of_ble_eq_true rfl), (Nat.le_of_ble_eq_true rfl)⟩ hl.1 (Nat.le_of_ble_eq_true rfl) dX7_repeat_14 (fun r12 w13 H locs hH hv14 => ?_)
    refine lv_if_ne (tgt := 24) hx hb dX7_repeat_17 (by decide) (fun hc => ?_) (fun hc => ?_)
    · have hv15 := hv14.1 hc
      refine lv_iload_n hx hb dX7_repeat_24 rfl (lv_at hl 2 rfl) ?_
      refine cl_X7_61 hC hD hH hv15 ⟨Nat.le_of_ble_eq_true rfl, Nat.le_of_ble_eq_true rfl⟩ ⟨(Nat.le_of_ble_eq_true rfl), (Nat.le_of_ble_eq_true rfl)⟩ ⟨(Nat.le_of_ble_eq_true rfl), (Nat.le_of_ble_eq_true rfl)⟩ hl.1 (Nat.le_of_ble_eq_true rfl) dX7_repeat_25 (fun r16 w17 H locs hH hv18 => ?_)
      refine lv_if_ne (tgt := 35) hx hb dX7_repeat_28 (by decide) (fun hc => ?_) (fun hc => ?_)
      · have hv19 := hv18.1 hc
        refine lv_aload_n hx hb dX7_repeat_35 rfl (lv_at hl 0 rfl) ?_
        refine lv_iload_n hx hb dX7_repeat_36 rfl (lv_at hl 1 rfl) ?_
        refine lv_iload_n hx hb dX7_repeat_37 rfl (lv_at hl 2 rfl) ?_
        refine cl_X7_69 hC hD hH hv19.2 hv19.1 ⟨Nat.le_of_ble_eq_true rfl, Nat.le_of_ble_eq_true rfl⟩ ⟨(Nat.le_of_ble_eq_true rfl), (Nat.le_of_ble_eq_true rfl)⟩ ⟨(Nat.le_of_ble_eq_true rfl), (Nat.le_of_ble_eq_true rfl)⟩ hl.1 (Nat.le_of_ble_eq_true rfl) dX7_repeat_38 (fun r20 w21 H locs hH hv22 => ?_)
        refine lv_iload_n hx hb dX7_repeat_41 rfl (lv_at hl 3 rfl) ?_
        refine lv_imul hx hb dX7_repeat_42 ?_
        refine lv_bipush (v := 32) hx hb dX7_repeat_43 (by decide) ?_
        refine lv_icmp_le (tgt := 52) hx hb dX7_repeat_45 (by decide) (fun hc => ?_) (fun hc => ?_)
        · have hv23 := hv22.1 hc
          refine lv_iconst (v := 0) hx hb dX7_repeat_52 (by decide) ?_
          exact hJ6 0 self w21 _ _ _ (lv_sub hl [0, 1, 2, 3] rfl) hH hv23
        · have hv24 := hv22.2 hc
          refine lv_iconst (v := 3) hx hb dX7_repeat_48 (by decide) ?_
          refine lv_goto (tgt := 53) hx hb dX7_repeat_49 (by decide) ?_
          exact hJ6 3 self w21 _ _ _ (lv_sub hl [0, 1, 2, 3] rfl) hH hv24
      · have hv25 := hv18.2 hc
        refine lv_iconst (v := 2) hx hb dX7_repeat_31 (by decide) ?_
        refine lv_goto (tgt := 53) hx hb dX7_repeat_32 (by decide) ?_
        exact hJ6 2 self w17 _ _ _ (lv_sub hl [0, 1, 2, 3] rfl) hH hv25
    · have hv26 := hv14.2 hc
      refine lv_iconst (v := 1) hx hb dX7_repeat_20 (by decide) ?_
      refine lv_goto (tgt := 53) hx hb dX7_repeat_21 (by decide) ?_
      exact hJ6 1 self w13 _ _ _ (lv_sub hl [0, 1, 2, 3] rfl) hH hv26
section SJL_X7_repeat
variable {p : Program} {l : Launch} {e : Env} {R : Room} {s : State} {m : MethodId} {args : Array Value} {below : List Frame} {meth : Method} {c : Code} {H : Heap} {locs : List Loc} {cells slots : Nat} {Q : State → Prop} {cc : ByteArray} {pc : Nat} {ls : Array Slot} {rest : List Value} {G : sj_G} {nL : Nat} {w : sj_W}
theorem cg_L_167 {b : Nat} {b0 : Int32} {b1 : Int32} {b2 : Int32} {Qi : Int32 → sj_W → Prop} (hC : sj_C G p l s m args c cc RL nL) (hH : sj_H G s w H locs) (hv : vc_X7_repeat b b0 b1 b2 w Qi) (hT : sj_T w b = 6) (hR : rm_X7_repeat.frames + 1 ≤ R.frames ∧ 8 + (6 + 11) + rm_X7_repeat.locals ≤ R.locals) (hf : cells + 0 ≤ R.cells ∧ slots + 0 ≤ R.slots) (hls : ls.size = nL) (hW : (rest.map fun v => v.category).sum ≤ 8) (hdg : decode cc pc = .ok (.invokevirtual 167, 3)) (kk : ∀ (r : Int32) (w1 : sj_W) (H : Heap) (locs : List Loc), sj_H G s w1 H locs → Qi r w1 → W p l e R s m args below meth c H locs (cells + 0) (slots + 0) Q (F0 m (pc + 3) ls (.int r :: rest))) : W p l e R s m args below meth c H locs cells slots Q (F0 m pc ls (.int b2 :: .int b1 :: .int b0 :: .ref b :: rest)) :=
  sj_xI hH (sj_runV (n := 3) hC hH (As := [.int b0, .int b1, .int b2]) (wk_X7_repeat G l hC.2.2.2.2.2.2 b b0 b1 b2 w Qi (fun _ _ => False) hv) (ci := 5) rfl (by decide) hT mb_801 mb_802 mb_803 mb_5 mb_804 (by decide +kernel) hR hf rfl hls hW hdg) (fun _ _ _ _ _ _ _ h _ _ _ => h.elim) kk
end SJL_X7_repeat

abbrev rm_X6_kindOf : Room := { frames := 6, cells := 1, slots := 6, locals := 82 }
def vc_X6_kindOf (a1 : Int32) (w : sj_W) (Q : Int32 → sj_W → Prop) (QX : String → sj_W → Prop) : Prop := ((a1 = 98 → Q 0 w) ∧ (a1 = 105 → Q 2 w) ∧ (a1 = 108 → Q 3 w) ∧ (a1 = 115 → Q 1 w) ∧ (¬ a1 = 98 ∧ ¬ a1 = 105 ∧ ¬ a1 = 108 ∧ ¬ a1 = 115 → QX "java/lang/IllegalArgumentException" w))
set_option maxHeartbeats 4000000 in
set_option maxRecDepth 100000 in
theorem wk_X6_kindOf (G : sj_G) (l : Launch) (hlt : l.stackTraces = false) (a1 : Int32) (w : sj_W) (Q : Int32 → sj_W → Prop) (QX : String → sj_W → Prop) (hv : vc_X6_kindOf a1 w Q QX) : sj_MI G l yX6_kindOf (sj_ws yX6_kindOf cX6_kindOf 1 (some .int)) rm_X6_kindOf [.int a1] w Q QX := by
  refine sj_of (by decide +kernel) (Nat.le_of_ble_eq_true rfl) hlt ?_
  intro p e s m args below meth c ls hC hD hr hin hH hl
  have hx := hC.1
  have hb := hC.2.1
  have hl : lv_has ls 1 [(0, .int a1)] := hl
  refine lv_iload_n hx hb dX6_kindOf_0 rfl (lv_at hl 0 rfl) ?_
  by_cases hc0 : a1 = 98
  · have hv1 := hv.1 hc0
    refine lv_lookup (off := 43) (tgt := 44) hx hb dX6_kindOf_1 (by decide) (by rw [hc0]; decide) (by decide) ?_
    refine lv_iconst (v := 0) hx hb dX6_kindOf_44 (by decide) ?_
    exact sj_retI hC hD.2 hH hr rfl hv1 ⟨(Nat.le_of_ble_eq_true rfl), (Nat.le_of_ble_eq_true rfl)⟩ dX6_kindOf_45
  · skip
    by_cases hc1 : a1 = 105
    · have hv2 := hv.2.1 hc1
      refine lv_lookup (off := 47) (tgt := 48) hx hb dX6_kindOf_1 (by decide) (by rw [hc1]; decide) (by decide) ?_
      refine lv_iconst (v := 2) hx hb dX6_kindOf_48 (by decide) ?_
      exact sj_retI hC hD.2 hH hr rfl hv2 ⟨(Nat.le_of_ble_eq_true rfl), (Nat.le_of_ble_eq_true rfl)⟩ dX6_kindOf_49
    · skip
      by_cases hc2 : a1 = 108
      · have hv3 := hv.2.2.1 hc2
        refine lv_lookup (off := 49) (tgt := 50) hx hb dX6_kindOf_1 (by decide) (by rw [hc2]; decide) (by decide) ?_
        refine lv_iconst (v := 3) hx hb dX6_kindOf_50 (by decide) ?_
        exact sj_retI hC hD.2 hH hr rfl hv3 ⟨(Nat.le_of_ble_eq_true rfl), (Nat.le_of_ble_eq_true rfl)⟩ dX6_kindOf_51
      · skip
        by_cases hc3 : a1 = 115
        · have hv4 := hv.2.2.2.1 hc3
          refine lv_lookup (off := 45) (tgt := 46) hx hb dX6_kindOf_1 (by decide) (by rw [hc3]; decide) (by decide) ?_
          refine lv_iconst (v := 1) hx hb dX6_kindOf_46 (by decide) ?_
          exact sj_retI hC hD.2 hH hr rfl hv4 ⟨(Nat.le_of_ble_eq_true rfl), (Nat.le_of_ble_eq_true rfl)⟩ dX6_kindOf_47
        · skip
          have hv5 := hv.2.2.2.2 ⟨hc0, hc1, hc2, hc3⟩
          refine lv_lookup (off := 51) (tgt := 52) hx hb dX6_kindOf_1 (by decide) (sj_off4 (sj_ne hc0 (by decide)) (sj_ne hc1 (by decide)) (sj_ne hc2 (by decide)) (sj_ne hc3 (by decide))) (by decide) ?_
          exact th_X6_223_69 hC hD hH hl.1 dX6_kindOf_52 dX6_kindOf_55 dX6_kindOf_56 dX6_kindOf_58 dX6_kindOf_61 ⟨Nat.le_of_ble_eq_true rfl, Nat.le_of_ble_eq_true rfl⟩ ⟨(Nat.le_of_ble_eq_true rfl), (Nat.le_of_ble_eq_true rfl)⟩ ⟨(Nat.le_of_ble_eq_true rfl), (Nat.le_of_ble_eq_true rfl)⟩ hv5
section SJL_X6_kindOf
variable {p : Program} {l : Launch} {e : Env} {R : Room} {s : State} {m : MethodId} {args : Array Value} {below : List Frame} {meth : Method} {c : Code} {H : Heap} {locs : List Loc} {cells slots : Nat} {Q : State → Prop} {cc : ByteArray} {pc : Nat} {ls : Array Slot} {rest : List Value} {G : sj_G} {nL : Nat} {w : sj_W}
theorem cl_X6_34 {rmM : Room} {QcM : Array Value → State → Outcome → State → Prop} {QX : String → sj_W → Prop} {b0 : Int32} {Qi : Int32 → sj_W → Prop} (hC : sj_C G p l s m args c cc RX6 nL) (hD : sj_D meth c) (hH : sj_H G s w H locs) (hv : vc_X6_kindOf b0 w Qi QX) (hR : rm_X6_kindOf.frames + 1 ≤ R.frames ∧ 8 + (1 + 11) + rm_X6_kindOf.locals ≤ R.locals) (hf : cells + 1 ≤ R.cells ∧ slots + 6 ≤ R.slots) (hfM : cells + 1 ≤ rmM.cells ∧ slots + 6 ≤ rmM.slots) (hls : ls.size = nL) (hW : (rest.map fun v => v.category).sum ≤ 8) (hdg : decode cc pc = .ok (.invokestatic 34, 3)) (kk : ∀ (r : Int32) (w1 : sj_W) (H : Heap) (locs : List Loc), sj_H G s w1 H locs → Qi r w1 → W p l e R s m args below meth c H locs (cells + 1) (slots + 6) (sj_MQ G below QcM QX args s rmM) (F0 m (pc + 3) ls (.int r :: rest))) : W p l e R s m args below meth c H locs cells slots (sj_MQ G below QcM QX args s rmM) (F0 m pc ls (.int b0 :: rest)) :=
  sj_cI hD hH (sj_runS (n := 1) hC hH (As := [.int b0]) (wk_X6_kindOf G l hC.2.2.2.2.2.2 b0 w Qi QX hv) mb_135 mb_136 mb_1 mb_137 (by decide +kernel) hR hf rfl hls hW hdg) hfM kk
end SJL_X6_kindOf
abbrev rm_X6_isNumberOf : Room := { frames := 0, cells := 0, slots := 0, locals := 0 }
def vc_X6_isNumberOf (a1 : Int32) (a2 : Int64) (w : sj_W) (Q : Int32 → sj_W → Prop) : Prop := vp_in a1 4 ∧ (((lg_cmp a2 (sj_least a1.toNatClampNeg)) < 0 → Q 0 w) ∧ (¬ (lg_cmp a2 (sj_least a1.toNatClampNeg)) < 0 → vp_in a1 4 ∧ ((0 < (lg_cmp a2 ((sj_least a1.toNatClampNeg) ^^^ (-1))) → Q 0 w) ∧ (¬ 0 < (lg_cmp a2 ((sj_least a1.toNatClampNeg) ^^^ (-1))) → Q 1 w))))
set_option maxHeartbeats 4000000 in
set_option maxRecDepth 100000 in
theorem wk_X6_isNumberOf (G : sj_G) (l : Launch) (hlt : l.stackTraces = false) (a1 : Int32) (a2 : Int64) (w : sj_W) (Q : Int32 → sj_W → Prop) (QX : String → sj_W → Prop) (hv : vc_X6_isNumberOf a1 a2 w Q) : sj_MI G l yX6_isNumberOf (sj_ws yX6_isNumberOf cX6_isNumberOf 3 (some .boolean)) rm_X6_isNumberOf [.int a1, .long a2] w Q QX := by
  refine sj_of (by decide +kernel) (Nat.le_of_ble_eq_true rfl) hlt ?_
  intro p e s m args below meth c ls hC hD hr hin hH hl
  have hx := hC.1
  have hb := hC.2.1
  have hl : lv_has ls 3 [(0, .int a1), (1, .long a2)] := hl
  refine lv_lload_n hx hb dX6_isNumberOf_0 rfl (lv_at hl 1 rfl) ?_
  obtain ⟨t1, hZ2, hT3⟩ := hC.2.2.2.2.2.1.2.2.2.1
  refine va_gets (C := RX6) (ref := "Spanjudge") hx hb hZ2 hH.2 hC.2.2.2.1 (hC.2.2.2.2.1 _ mb_212) (fun _ h => h) dX6_isNumberOf_1 ?_
  refine lv_iload_n hx hb dX6_isNumberOf_4 rfl (lv_at hl 0 rfl) ?_
  refine va_tl hx hb hT3 hH.2 hv.1 rfl dX6_isNumberOf_5 ?_
  refine W.lcmp hx hb dX6_isNumberOf_6 ?_
  refine lv_if_lt (tgt := 28) hx hb dX6_isNumberOf_7 (by decide) (fun hc => ?_) (fun hc => ?_)
  · have hv4 := hv.2.1 hc
    refine lv_iconst (v := 0) hx hb dX6_isNumberOf_28 (by decide) ?_
    exact sj_retI hC hD.2 hH hr rfl hv4 ⟨(Nat.le_of_ble_eq_true rfl), (Nat.le_of_ble_eq_true rfl)⟩ dX6_isNumberOf_29
  · have hv5 := hv.2.2 hc
    refine lv_lload_n hx hb dX6_isNumberOf_10 rfl (lv_at hl 1 rfl) ?_
    obtain ⟨t6, hZ7, hT8⟩ := hC.2.2.2.2.2.1.2.2.2.1
    refine va_gets (C := RX6) (ref := "Spanjudge") hx hb hZ7 hH.2 hC.2.2.2.1 (hC.2.2.2.2.1 _ mb_212) (fun _ h => h) dX6_isNumberOf_11 ?_
    refine lv_iload_n hx hb dX6_isNumberOf_14 rfl (lv_at hl 0 rfl) ?_
    refine va_tl hx hb hT8 hH.2 hv5.1 rfl dX6_isNumberOf_15 ?_
    refine lv_ldc2 (v := (-1)) hx hb hC.2.2.2.1 (hC.2.2.2.2.1 _ mb_214) dX6_isNumberOf_16 ?_
    refine lv_lxor hx hb dX6_isNumberOf_19 ?_
    refine W.lcmp hx hb dX6_isNumberOf_20 ?_
    refine lv_if_gt (tgt := 28) hx hb dX6_isNumberOf_21 (by decide) (fun hc => ?_) (fun hc => ?_)
    · have hv9 := hv5.2.1 hc
      refine lv_iconst (v := 0) hx hb dX6_isNumberOf_28 (by decide) ?_
      exact sj_retI hC hD.2 hH hr rfl hv9 ⟨(Nat.le_of_ble_eq_true rfl), (Nat.le_of_ble_eq_true rfl)⟩ dX6_isNumberOf_29
    · have hv10 := hv5.2.2 hc
      refine lv_iconst (v := 1) hx hb dX6_isNumberOf_24 (by decide) ?_
      refine lv_goto (tgt := 29) hx hb dX6_isNumberOf_25 (by decide) ?_
      exact sj_retI hC hD.2 hH hr rfl hv10 ⟨(Nat.le_of_ble_eq_true rfl), (Nat.le_of_ble_eq_true rfl)⟩ dX6_isNumberOf_29
section SJL_X6_isNumberOf
variable {p : Program} {l : Launch} {e : Env} {R : Room} {s : State} {m : MethodId} {args : Array Value} {below : List Frame} {meth : Method} {c : Code} {H : Heap} {locs : List Loc} {cells slots : Nat} {Q : State → Prop} {cc : ByteArray} {pc : Nat} {ls : Array Slot} {rest : List Value} {G : sj_G} {nL : Nat} {w : sj_W}
theorem cl_X6_229 {rmM : Room} {QcM : Array Value → State → Outcome → State → Prop} {QX : String → sj_W → Prop} {b0 : Int32} {b1 : Int64} {Qi : Int32 → sj_W → Prop} (hC : sj_C G p l s m args c cc RX6 nL) (hD : sj_D meth c) (hH : sj_H G s w H locs) (hv : vc_X6_isNumberOf b0 b1 w Qi) (hR : rm_X6_isNumberOf.frames + 1 ≤ R.frames ∧ 8 + (3 + 11) + rm_X6_isNumberOf.locals ≤ R.locals) (hf : cells + 0 ≤ R.cells ∧ slots + 0 ≤ R.slots) (hfM : cells + 0 ≤ rmM.cells ∧ slots + 0 ≤ rmM.slots) (hls : ls.size = nL) (hW : (rest.map fun v => v.category).sum ≤ 8) (hdg : decode cc pc = .ok (.invokestatic 229, 3)) (kk : ∀ (r : Int32) (w1 : sj_W) (H : Heap) (locs : List Loc), sj_H G s w1 H locs → Qi r w1 → W p l e R s m args below meth c H locs (cells + 0) (slots + 0) (sj_MQ G below QcM QX args s rmM) (F0 m (pc + 3) ls (.int r :: rest))) : W p l e R s m args below meth c H locs cells slots (sj_MQ G below QcM QX args s rmM) (F0 m pc ls (.long b1 :: .int b0 :: rest)) :=
  sj_cI hD hH (sj_runS (n := 2) hC hH (As := [.int b0, .long b1]) (wk_X6_isNumberOf G l hC.2.2.2.2.2.2 b0 b1 w Qi QX hv) mb_209 mb_210 mb_1 mb_211 (by decide +kernel) hR hf rfl hls hW hdg) hfM kk
end SJL_X6_isNumberOf
abbrev rm_X6_wantNumber : Room := { frames := 6, cells := 1, slots := 6, locals := 82 }
def vc_X6_wantNumber (a1 : Int32) (a2 : Int64) (w : sj_W) (Q : sj_W → Prop) (QX : String → sj_W → Prop) : Prop := vc_X6_isNumberOf a1 a2 w (fun r1 w2 => ((¬ r1 = 0 → Q w2) ∧ (r1 = 0 → QX "java/lang/IllegalArgumentException" w2)))
set_option maxHeartbeats 4000000 in
set_option maxRecDepth 100000 in
theorem wk_X6_wantNumber (G : sj_G) (l : Launch) (hlt : l.stackTraces = false) (a1 : Int32) (a2 : Int64) (w : sj_W) (Q : sj_W → Prop) (QX : String → sj_W → Prop) (hv : vc_X6_wantNumber a1 a2 w Q QX) : sj_MV G l yX6_wantNumber (sj_ws yX6_wantNumber cX6_wantNumber 3 none) rm_X6_wantNumber [.int a1, .long a2] w Q QX := by
  refine sj_of (by decide +kernel) (Nat.le_of_ble_eq_true rfl) hlt ?_
  intro p e s m args below meth c ls hC hD hr hin hH hl
  have hx := hC.1
  have hb := hC.2.1
  have hl : lv_has ls 3 [(0, .int a1), (1, .long a2)] := hl
  refine lv_iload_n hx hb dX6_wantNumber_0 rfl (lv_at hl 0 rfl) ?_
  refine lv_lload_n hx hb dX6_wantNumber_1 rfl (lv_at hl 1 rfl) ?_
  refine cl_X6_229 hC hD hH hv ⟨Nat.le_of_ble_eq_true rfl, Nat.le_of_ble_eq_true rfl⟩ ⟨(Nat.le_of_ble_eq_true rfl), (Nat.le_of_ble_eq_true rfl)⟩ ⟨(Nat.le_of_ble_eq_true rfl), (Nat.le_of_ble_eq_true rfl)⟩ hl.1 (Nat.le_of_ble_eq_true rfl) dX6_wantNumber_2 (fun r1 w2 H locs hH hv3 => ?_)
  refine lv_if_ne (tgt := 18) hx hb dX6_wantNumber_5 (by decide) (fun hc => ?_) (fun hc => ?_)
  · have hv4 := hv3.1 hc
    exact sj_retV hC hD.2 hH hr hv4 ⟨(Nat.le_of_ble_eq_true rfl), (Nat.le_of_ble_eq_true rfl)⟩ dX6_wantNumber_18
  · have hv5 := hv3.2 hc
    exact th_X6_233_69 hC hD hH hl.1 dX6_wantNumber_8 dX6_wantNumber_11 dX6_wantNumber_12 dX6_wantNumber_14 dX6_wantNumber_17 ⟨Nat.le_of_ble_eq_true rfl, Nat.le_of_ble_eq_true rfl⟩ ⟨(Nat.le_of_ble_eq_true rfl), (Nat.le_of_ble_eq_true rfl)⟩ ⟨(Nat.le_of_ble_eq_true rfl), (Nat.le_of_ble_eq_true rfl)⟩ hv5
section SJL_X6_wantNumber
variable {p : Program} {l : Launch} {e : Env} {R : Room} {s : State} {m : MethodId} {args : Array Value} {below : List Frame} {meth : Method} {c : Code} {H : Heap} {locs : List Loc} {cells slots : Nat} {Q : State → Prop} {cc : ByteArray} {pc : Nat} {ls : Array Slot} {rest : List Value} {G : sj_G} {nL : Nat} {w : sj_W}
theorem cl_X6_38 {rmM : Room} {QcM : Array Value → State → Outcome → State → Prop} {QX : String → sj_W → Prop} {b0 : Int32} {b1 : Int64} {Qi : sj_W → Prop} (hC : sj_C G p l s m args c cc RX6 nL) (hD : sj_D meth c) (hH : sj_H G s w H locs) (hv : vc_X6_wantNumber b0 b1 w Qi QX) (hR : rm_X6_wantNumber.frames + 1 ≤ R.frames ∧ 8 + (3 + 11) + rm_X6_wantNumber.locals ≤ R.locals) (hf : cells + 1 ≤ R.cells ∧ slots + 6 ≤ R.slots) (hfM : cells + 1 ≤ rmM.cells ∧ slots + 6 ≤ rmM.slots) (hls : ls.size = nL) (hW : (rest.map fun v => v.category).sum ≤ 8) (hdg : decode cc pc = .ok (.invokestatic 38, 3)) (kk : ∀ (w1 : sj_W) (H : Heap) (locs : List Loc), sj_H G s w1 H locs → Qi w1 → W p l e R s m args below meth c H locs (cells + 1) (slots + 6) (sj_MQ G below QcM QX args s rmM) (F0 m (pc + 3) ls rest)) : W p l e R s m args below meth c H locs cells slots (sj_MQ G below QcM QX args s rmM) (F0 m pc ls (.long b1 :: .int b0 :: rest)) :=
  sj_cV hD hH (sj_runS (n := 2) hC hH (As := [.int b0, .long b1]) (wk_X6_wantNumber G l hC.2.2.2.2.2.2 b0 b1 w Qi QX hv) mb_206 mb_207 mb_1 mb_208 (by decide +kernel) hR hf rfl hls hW hdg) hfM kk
end SJL_X6_wantNumber
abbrev rm_X6_wantRow : Room := { frames := 6, cells := 1, slots := 6, locals := 82 }
def vc_X6_wantRow (a1 : Int32) (w : sj_W) (Q : sj_W → Prop) (QX : String → sj_W → Prop) : Prop := ((a1 < 0 → QX "java/lang/IndexOutOfBoundsException" w) ∧ (¬ a1 < 0 → ((a1 < 4 → Q w) ∧ (¬ a1 < 4 → QX "java/lang/IndexOutOfBoundsException" w))))
set_option maxHeartbeats 4000000 in
set_option maxRecDepth 100000 in
theorem wk_X6_wantRow (G : sj_G) (l : Launch) (hlt : l.stackTraces = false) (a1 : Int32) (w : sj_W) (Q : sj_W → Prop) (QX : String → sj_W → Prop) (hv : vc_X6_wantRow a1 w Q QX) : sj_MV G l yX6_wantRow (sj_ws yX6_wantRow cX6_wantRow 1 none) rm_X6_wantRow [.int a1] w Q QX := by
  refine sj_of (by decide +kernel) (Nat.le_of_ble_eq_true rfl) hlt ?_
  intro p e s m args below meth c ls hC hD hr hin hH hl
  have hx := hC.1
  have hb := hC.2.1
  have hl : lv_has ls 1 [(0, .int a1)] := hl
  refine lv_iload_n hx hb dX6_wantRow_0 rfl (lv_at hl 0 rfl) ?_
  refine lv_if_lt (tgt := 9) hx hb dX6_wantRow_1 (by decide) (fun hc => ?_) (fun hc => ?_)
  · have hv1 := hv.1 hc
    exact th_X6_235_76 hC hD hH hl.1 dX6_wantRow_9 dX6_wantRow_12 dX6_wantRow_13 dX6_wantRow_15 dX6_wantRow_18 ⟨Nat.le_of_ble_eq_true rfl, Nat.le_of_ble_eq_true rfl⟩ ⟨(Nat.le_of_ble_eq_true rfl), (Nat.le_of_ble_eq_true rfl)⟩ ⟨(Nat.le_of_ble_eq_true rfl), (Nat.le_of_ble_eq_true rfl)⟩ hv1
  · have hv2 := hv.2 hc
    refine lv_iload_n hx hb dX6_wantRow_4 rfl (lv_at hl 0 rfl) ?_
    refine lv_iconst (v := 4) hx hb dX6_wantRow_5 (by decide) ?_
    refine lv_icmp_lt (tgt := 19) hx hb dX6_wantRow_6 (by decide) (fun hc => ?_) (fun hc => ?_)
    · have hv3 := hv2.1 hc
      exact sj_retV hC hD.2 hH hr hv3 ⟨(Nat.le_of_ble_eq_true rfl), (Nat.le_of_ble_eq_true rfl)⟩ dX6_wantRow_19
    · have hv4 := hv2.2 hc
      exact th_X6_235_76 hC hD hH hl.1 dX6_wantRow_9 dX6_wantRow_12 dX6_wantRow_13 dX6_wantRow_15 dX6_wantRow_18 ⟨Nat.le_of_ble_eq_true rfl, Nat.le_of_ble_eq_true rfl⟩ ⟨(Nat.le_of_ble_eq_true rfl), (Nat.le_of_ble_eq_true rfl)⟩ ⟨(Nat.le_of_ble_eq_true rfl), (Nat.le_of_ble_eq_true rfl)⟩ hv4
section SJL_X6_wantRow
variable {p : Program} {l : Launch} {e : Env} {R : Room} {s : State} {m : MethodId} {args : Array Value} {below : List Frame} {meth : Method} {c : Code} {H : Heap} {locs : List Loc} {cells slots : Nat} {Q : State → Prop} {cc : ByteArray} {pc : Nat} {ls : Array Slot} {rest : List Value} {G : sj_G} {nL : Nat} {w : sj_W}
theorem cl_X6_93 {rmM : Room} {QcM : Array Value → State → Outcome → State → Prop} {QX : String → sj_W → Prop} {b0 : Int32} {Qi : sj_W → Prop} (hC : sj_C G p l s m args c cc RX6 nL) (hD : sj_D meth c) (hH : sj_H G s w H locs) (hv : vc_X6_wantRow b0 w Qi QX) (hR : rm_X6_wantRow.frames + 1 ≤ R.frames ∧ 8 + (1 + 11) + rm_X6_wantRow.locals ≤ R.locals) (hf : cells + 1 ≤ R.cells ∧ slots + 6 ≤ R.slots) (hfM : cells + 1 ≤ rmM.cells ∧ slots + 6 ≤ rmM.slots) (hls : ls.size = nL) (hW : (rest.map fun v => v.category).sum ≤ 8) (hdg : decode cc pc = .ok (.invokestatic 93, 3)) (kk : ∀ (w1 : sj_W) (H : Heap) (locs : List Loc), sj_H G s w1 H locs → Qi w1 → W p l e R s m args below meth c H locs (cells + 1) (slots + 6) (sj_MQ G below QcM QX args s rmM) (F0 m (pc + 3) ls rest)) : W p l e R s m args below meth c H locs cells slots (sj_MQ G below QcM QX args s rmM) (F0 m pc ls (.int b0 :: rest)) :=
  sj_cV hD hH (sj_runS (n := 1) hC hH (As := [.int b0]) (wk_X6_wantRow G l hC.2.2.2.2.2.2 b0 w Qi QX hv) mb_220 mb_221 mb_1 mb_222 (by decide +kernel) hR hf rfl hls hW hdg) hfM kk
end SJL_X6_wantRow
abbrev rm_X6_rowOf : Room := { frames := 7, cells := 1, slots := 6, locals := 102 }
def vc_X6_rowOf (self : Nat) (a1 : Int32) (a2 : Int32) (w : sj_W) (Q : Nat → sj_W → Prop) (QX : String → sj_W → Prop) : Prop := vc_X6_wantRow a2 w (fun w2 => sj_T w2 self = 5 ∧ sj_A w2 32 self ≠ 0 ∧ (sj_T w2 (sj_A w2 32 self) = 10 ∨ sj_T w2 (sj_A w2 32 self) = 11 ∨ sj_T w2 (sj_A w2 32 self) = 12) ∧ vp_in ((a1 * 4) + a2) (sj_N w2 (sj_A w2 32 self)) ∧ (sj_r w2 (sj_A w2 32 self) ((a1 * 4) + a2).toNatClampNeg) ≠ 0 ∧ Q (sj_r w2 (sj_A w2 32 self) ((a1 * 4) + a2).toNatClampNeg) w2) QX
set_option maxHeartbeats 4000000 in
set_option maxRecDepth 100000 in
theorem wk_X6_rowOf (G : sj_G) (l : Launch) (hlt : l.stackTraces = false) (self : Nat) (a1 : Int32) (a2 : Int32) (w : sj_W) (Q : Nat → sj_W → Prop) (QX : String → sj_W → Prop) (hv : vc_X6_rowOf self a1 a2 w Q QX) : sj_MR G l yX6_rowOf (sj_ws yX6_rowOf cX6_rowOf 3 (some (.object "Spanjudge$Row"))) rm_X6_rowOf [.ref self, .int a1, .int a2] w Q QX := by
  refine sj_of (by decide +kernel) (Nat.le_of_ble_eq_true rfl) hlt ?_
  intro p e s m args below meth c ls hC hD hr hin hH hl
  have hx := hC.1
  have hb := hC.2.1
  have hl : lv_has ls 3 [(0, .ref self), (1, .int a1), (2, .int a2)] := hl
  refine lv_iload_n hx hb dX6_rowOf_0 rfl (lv_at hl 2 rfl) ?_
  refine cl_X6_93 hC hD hH hv ⟨Nat.le_of_ble_eq_true rfl, Nat.le_of_ble_eq_true rfl⟩ ⟨(Nat.le_of_ble_eq_true rfl), (Nat.le_of_ble_eq_true rfl)⟩ ⟨(Nat.le_of_ble_eq_true rfl), (Nat.le_of_ble_eq_true rfl)⟩ hl.1 (Nat.le_of_ble_eq_true rfl) dX6_rowOf_1 (fun w2 H locs hH hv3 => ?_)
  refine lv_aload_n hx hb dX6_rowOf_4 rfl (lv_at hl 0 rfl) ?_
  refine gf_X6_11 hC hH hv3.1 hv3.2.1 dX6_rowOf_5 ?_
  refine lv_iload_n hx hb dX6_rowOf_8 rfl (lv_at hl 1 rfl) ?_
  refine lv_iconst (v := 4) hx hb dX6_rowOf_9 (by decide) ?_
  refine lv_imul hx hb dX6_rowOf_10 ?_
  refine lv_iload_n hx hb dX6_rowOf_11 rfl (lv_at hl 2 rfl) ?_
  refine lv_iadd hx hb dX6_rowOf_12 ?_
  refine sj_aald hC hH hv3.2.2.1 hv3.2.2.2.1 hv3.2.2.2.2.1 dX6_rowOf_13 ?_
  exact sj_retR (Or.inl ⟨_, rfl⟩) hC hD.2 hH hr hv3.2.2.2.2.2 ⟨(Nat.le_of_ble_eq_true rfl), (Nat.le_of_ble_eq_true rfl)⟩ dX6_rowOf_14
section SJL_X6_rowOf
variable {p : Program} {l : Launch} {e : Env} {R : Room} {s : State} {m : MethodId} {args : Array Value} {below : List Frame} {meth : Method} {c : Code} {H : Heap} {locs : List Loc} {cells slots : Nat} {Q : State → Prop} {cc : ByteArray} {pc : Nat} {ls : Array Slot} {rest : List Value} {G : sj_G} {nL : Nat} {w : sj_W}
theorem cl_X6_42 {rmM : Room} {QcM : Array Value → State → Outcome → State → Prop} {QX : String → sj_W → Prop} {b : Nat} {b0 : Int32} {b1 : Int32} {Qi : Nat → sj_W → Prop} (hC : sj_C G p l s m args c cc RX6 nL) (hD : sj_D meth c) (hH : sj_H G s w H locs) (hv : vc_X6_rowOf b b0 b1 w Qi QX) (hT : sj_T w b = 5) (hR : rm_X6_rowOf.frames + 1 ≤ R.frames ∧ 8 + (3 + 11) + rm_X6_rowOf.locals ≤ R.locals) (hf : cells + 1 ≤ R.cells ∧ slots + 6 ≤ R.slots) (hfM : cells + 1 ≤ rmM.cells ∧ slots + 6 ≤ rmM.slots) (hls : ls.size = nL) (hW : (rest.map fun v => v.category).sum ≤ 8) (hdg : decode cc pc = .ok (.invokevirtual 42, 3)) (kk : ∀ (r : Nat) (w1 : sj_W) (H : Heap) (locs : List Loc), sj_H G s w1 H locs → Qi r w1 → W p l e R s m args below meth c H locs (cells + 1) (slots + 6) (sj_MQ G below QcM QX args s rmM) (F0 m (pc + 3) ls (.ref r :: rest))) : W p l e R s m args below meth c H locs cells slots (sj_MQ G below QcM QX args s rmM) (F0 m pc ls (.int b1 :: .int b0 :: .ref b :: rest)) :=
  sj_cR hD hH (sj_runV (n := 2) hC hH (As := [.int b0, .int b1]) (wk_X6_rowOf G l hC.2.2.2.2.2.2 b b0 b1 w Qi QX hv) (ci := 4) rfl (by decide) hT mb_216 mb_218 mb_s1 mb_1 mb_219 (by decide +kernel) hR hf rfl hls hW hdg) hfM kk
end SJL_X6_rowOf
abbrev rm_X6_append : Room := { frames := 8, cells := 4, slots := 24, locals := 124 }
def vc_X6_append (self : Nat) (a1 : Int32) (a2 : Int32) (a3 : Int64) (w : sj_W) (Q : Int32 → sj_W → Prop) (QX : String → sj_W → Prop) : Prop := vc_X6_kindOf a1 w (fun r1 w2 => vc_X6_wantNumber r1 a3 w2 (fun w5 => sj_T w5 self = 5 ∧ vc_X6_rowOf self r1 a2 w5 (fun r7 w8 => sj_T w8 r7 = 2 ∧ (((sj_I w8 9 r7) < 32 → sj_T w8 r7 = 2 ∧ sj_A w8 8 r7 ≠ 0 ∧ sj_T w8 r7 = 2 ∧ sj_T w8 (sj_A w8 8 r7) = 8 ∧ vp_in (sj_I w8 9 r7) (sj_N w8 (sj_A w8 8 r7)) ∧ ∀ w11 : sj_W, w11 = sj_sl w8 (sj_A w8 8 r7) (sj_I w8 9 r7).toNatClampNeg a3 → sj_T w11 r7 = 2 ∧ sj_T w11 r7 = 2 ∧ ∀ w13 : sj_W, w13 = sj_sI w11 9 r7 ((sj_I w11 9 r7) + 1) → sj_T w13 r7 = 2 ∧ Q (sj_I w13 9 r7) w13) ∧ (¬ (sj_I w8 9 r7) < 32 → QX "java/lang/IllegalStateException" w8))) QX) QX) QX
set_option maxHeartbeats 4000000 in
set_option maxRecDepth 100000 in
theorem wk_X6_append (G : sj_G) (l : Launch) (hlt : l.stackTraces = false) (self : Nat) (a1 : Int32) (a2 : Int32) (a3 : Int64) (w : sj_W) (Q : Int32 → sj_W → Prop) (QX : String → sj_W → Prop) (hv : vc_X6_append self a1 a2 a3 w Q QX) : sj_MI G l yX6_append (sj_ws yX6_append cX6_append 7 (some .int)) rm_X6_append [.ref self, .int a1, .int a2, .long a3] w Q QX := by
  refine sj_of (by decide +kernel) (Nat.le_of_ble_eq_true rfl) hlt ?_
  intro p e s m args below meth c ls hC hD hr hin hH hl
  have hx := hC.1
  have hb := hC.2.1
  have hl : lv_has ls 7 [(0, .ref self), (1, .int a1), (2, .int a2), (3, .long a3)] := hl
  refine lv_iload_n hx hb dX6_append_0 rfl (lv_at hl 1 rfl) ?_
  refine cl_X6_34 hC hD hH hv ⟨Nat.le_of_ble_eq_true rfl, Nat.le_of_ble_eq_true rfl⟩ ⟨(Nat.le_of_ble_eq_true rfl), (Nat.le_of_ble_eq_true rfl)⟩ ⟨(Nat.le_of_ble_eq_true rfl), (Nat.le_of_ble_eq_true rfl)⟩ hl.1 (Nat.le_of_ble_eq_true rfl) dX6_append_1 (fun r1 w2 H locs hH hv3 => ?_)
  refine lv_istore (lv' := [(5, .int r1), (0, .ref self), (1, .int a1), (2, .int a2), (3, .long a3)]) hx hb dX6_append_4 hl (by decide) rfl (fun ls hl => ?_)
  refine lv_iload hx hb dX6_append_6 (lv_at hl 0 rfl) ?_
  refine lv_lload_n hx hb dX6_append_8 rfl (lv_at hl 4 rfl) ?_
  refine cl_X6_38 hC hD hH hv3 ⟨Nat.le_of_ble_eq_true rfl, Nat.le_of_ble_eq_true rfl⟩ ⟨(Nat.le_of_ble_eq_true rfl), (Nat.le_of_ble_eq_true rfl)⟩ ⟨(Nat.le_of_ble_eq_true rfl), (Nat.le_of_ble_eq_true rfl)⟩ hl.1 (Nat.le_of_ble_eq_true rfl) dX6_append_9 (fun w5 H locs hH hv6 => ?_)
  refine lv_aload_n hx hb dX6_append_12 rfl (lv_at hl 1 rfl) ?_
  refine lv_iload hx hb dX6_append_13 (lv_at hl 0 rfl) ?_
  refine lv_iload_n hx hb dX6_append_15 rfl (lv_at hl 3 rfl) ?_
  refine cl_X6_42 hC hD hH hv6.2 hv6.1 ⟨Nat.le_of_ble_eq_true rfl, Nat.le_of_ble_eq_true rfl⟩ ⟨(Nat.le_of_ble_eq_true rfl), (Nat.le_of_ble_eq_true rfl)⟩ ⟨(Nat.le_of_ble_eq_true rfl), (Nat.le_of_ble_eq_true rfl)⟩ hl.1 (Nat.le_of_ble_eq_true rfl) dX6_append_16 (fun r7 w8 H locs hH hv9 => ?_)
  refine lv_astore (lv' := [(6, .ref r7), (5, .int r1), (0, .ref self), (1, .int a1), (2, .int a2), (3, .long a3)]) hx hb dX6_append_19 hl (by decide) rfl (fun ls hl => ?_)
  refine lv_aload hx hb dX6_append_21 (lv_at hl 0 rfl) ?_
  refine gf_X6_46 hC hH hv9.1 dX6_append_23 ?_
  refine lv_bipush (v := 32) hx hb dX6_append_26 (by decide) ?_
  refine lv_icmp_lt (tgt := 41) hx hb dX6_append_28 (by decide) (fun hc => ?_) (fun hc => ?_)
  · have hv10 := hv9.2.1 hc
    refine lv_aload hx hb dX6_append_41 (lv_at hl 0 rfl) ?_
    refine gf_X6_57 hC hH hv10.1 hv10.2.1 dX6_append_43 ?_
    refine lv_aload hx hb dX6_append_46 (lv_at hl 0 rfl) ?_
    refine gf_X6_46 hC hH hv10.2.2.1 dX6_append_48 ?_
    refine lv_lload_n hx hb dX6_append_51 rfl (lv_at hl 5 rfl) ?_
    refine sj_last hC hH hv10.2.2.2.1 hv10.2.2.2.2.1 dX6_append_52 (fun w11 H locs e12 hH => ?_)
    refine lv_aload hx hb dX6_append_53 (lv_at hl 0 rfl) ?_
    refine lv_dup hx hb dX6_append_55 rfl ?_
    refine gf_X6_46 hC hH (hv10.2.2.2.2.2 w11 e12).1 dX6_append_56 ?_
    refine lv_iconst (v := 1) hx hb dX6_append_59 (by decide) ?_
    refine lv_iadd hx hb dX6_append_60 ?_
    refine pf_X6_46 hC hH (hv10.2.2.2.2.2 w11 e12).2.1 dX6_append_61 (fun w13 H locs e14 hH => ?_)
    refine lv_aload hx hb dX6_append_64 (lv_at hl 0 rfl) ?_
    refine gf_X6_46 hC hH ((hv10.2.2.2.2.2 w11 e12).2.2 w13 e14).1 dX6_append_66 ?_
    exact sj_retI hC hD.2 hH hr rfl ((hv10.2.2.2.2.2 w11 e12).2.2 w13 e14).2 ⟨(Nat.le_of_ble_eq_true rfl), (Nat.le_of_ble_eq_true rfl)⟩ dX6_append_69
  · have hv15 := hv9.2.2 hc
    exact th_X6_52_54 hC hD hH hl.1 dX6_append_31 dX6_append_34 dX6_append_35 dX6_append_37 dX6_append_40 ⟨Nat.le_of_ble_eq_true rfl, Nat.le_of_ble_eq_true rfl⟩ ⟨(Nat.le_of_ble_eq_true rfl), (Nat.le_of_ble_eq_true rfl)⟩ ⟨(Nat.le_of_ble_eq_true rfl), (Nat.le_of_ble_eq_true rfl)⟩ hv15
section SJL_X6_append
variable {p : Program} {l : Launch} {e : Env} {R : Room} {s : State} {m : MethodId} {args : Array Value} {below : List Frame} {meth : Method} {c : Code} {H : Heap} {locs : List Loc} {cells slots : Nat} {Q : State → Prop} {cc : ByteArray} {pc : Nat} {ls : Array Slot} {rest : List Value} {G : sj_G} {nL : Nat} {w : sj_W}
theorem cx_L_7 {QX : String → sj_W → Prop} {b : Nat} {b0 : Int32} {b1 : Int32} {b2 : Int64} {Qi : Int32 → sj_W → Prop} (hC : sj_C G p l s m args c cc RL nL) (hH : sj_H G s w H locs) (hv : vc_X6_append b b0 b1 b2 w Qi QX) (hT : sj_T w b = 5) (hR : rm_X6_append.frames + 1 ≤ R.frames ∧ 8 + (7 + 11) + rm_X6_append.locals ≤ R.locals) (hf : cells + 4 ≤ R.cells ∧ slots + 24 ≤ R.slots) (hls : ls.size = nL) (hW : (rest.map fun v => v.category).sum ≤ 8) (hdg : decode cc pc = .ok (.invokevirtual 7, 3)) (kx : ∀ (E : String) (ce : Cell) (q9 : Addr) (w1 : sj_W) (H1 : Heap) (locs1 : List Loc), sj_H G s w1 H1 locs1 → QX E w1 → H1[q9]? = some ce → ce.vm = .none → s.vm.findClass E = some ce.cls → vx_W p l e R s m args below meth c H1 locs1 (cells + 4) (slots + 24) Q (F0 m pc ls rest) q9) (kk : ∀ (r : Int32) (w1 : sj_W) (H : Heap) (locs : List Loc), sj_H G s w1 H locs → Qi r w1 → W p l e R s m args below meth c H locs (cells + 4) (slots + 24) Q (F0 m (pc + 3) ls (.int r :: rest))) : W p l e R s m args below meth c H locs cells slots Q (F0 m pc ls (.long b2 :: .int b1 :: .int b0 :: .ref b :: rest)) :=
  sj_xI hH (sj_runV (n := 3) hC hH (As := [.int b0, .int b1, .long b2]) (wk_X6_append G l hC.2.2.2.2.2.2 b b0 b1 b2 w Qi QX hv) (ci := 4) rfl (by decide) hT mb_131 mb_132 mb_133 mb_1 mb_134 (by decide +kernel) hR hf rfl hls hW hdg) kx kk
end SJL_X6_append
abbrev rm_X6_wantQuestion : Room := { frames := 6, cells := 1, slots := 6, locals := 82 }
def vc_X6_wantQuestion (a1 : Int32) (w : sj_W) (Q : sj_W → Prop) (QX : String → sj_W → Prop) : Prop := ((a1 = 101 → Q w) ∧ (¬ a1 = 101 → ((a1 = 99 → Q w) ∧ (¬ a1 = 99 → ((a1 = 117 → Q w) ∧ (¬ a1 = 117 → ((a1 = 109 → Q w) ∧ (¬ a1 = 109 → QX "java/lang/IllegalArgumentException" w))))))))
set_option maxHeartbeats 4000000 in
set_option maxRecDepth 100000 in
theorem wk_X6_wantQuestion (G : sj_G) (l : Launch) (hlt : l.stackTraces = false) (a1 : Int32) (w : sj_W) (Q : sj_W → Prop) (QX : String → sj_W → Prop) (hv : vc_X6_wantQuestion a1 w Q QX) : sj_MV G l yX6_wantQuestion (sj_ws yX6_wantQuestion cX6_wantQuestion 1 none) rm_X6_wantQuestion [.int a1] w Q QX := by
  refine sj_of (by decide +kernel) (Nat.le_of_ble_eq_true rfl) hlt ?_
  intro p e s m args below meth c ls hC hD hr hin hH hl
  have hx := hC.1
  have hb := hC.2.1
  have hl : lv_has ls 1 [(0, .int a1)] := hl
  refine lv_iload_n hx hb dX6_wantQuestion_0 rfl (lv_at hl 0 rfl) ?_
  refine lv_bipush (v := 101) hx hb dX6_wantQuestion_1 (by decide) ?_
  refine lv_icmp_eq (tgt := 34) hx hb dX6_wantQuestion_3 (by decide) (fun hc => ?_) (fun hc => ?_)
  · have hv1 := hv.1 hc
    exact sj_retV hC hD.2 hH hr hv1 ⟨(Nat.le_of_ble_eq_true rfl), (Nat.le_of_ble_eq_true rfl)⟩ dX6_wantQuestion_34
  · have hv2 := hv.2 hc
    refine lv_iload_n hx hb dX6_wantQuestion_6 rfl (lv_at hl 0 rfl) ?_
    refine lv_bipush (v := 99) hx hb dX6_wantQuestion_7 (by decide) ?_
    refine lv_icmp_eq (tgt := 34) hx hb dX6_wantQuestion_9 (by decide) (fun hc => ?_) (fun hc => ?_)
    · have hv3 := hv2.1 hc
      exact sj_retV hC hD.2 hH hr hv3 ⟨(Nat.le_of_ble_eq_true rfl), (Nat.le_of_ble_eq_true rfl)⟩ dX6_wantQuestion_34
    · have hv4 := hv2.2 hc
      refine lv_iload_n hx hb dX6_wantQuestion_12 rfl (lv_at hl 0 rfl) ?_
      refine lv_bipush (v := 117) hx hb dX6_wantQuestion_13 (by decide) ?_
      refine lv_icmp_eq (tgt := 34) hx hb dX6_wantQuestion_15 (by decide) (fun hc => ?_) (fun hc => ?_)
      · have hv5 := hv4.1 hc
        exact sj_retV hC hD.2 hH hr hv5 ⟨(Nat.le_of_ble_eq_true rfl), (Nat.le_of_ble_eq_true rfl)⟩ dX6_wantQuestion_34
      · have hv6 := hv4.2 hc
        refine lv_iload_n hx hb dX6_wantQuestion_18 rfl (lv_at hl 0 rfl) ?_
        refine lv_bipush (v := 109) hx hb dX6_wantQuestion_19 (by decide) ?_
        refine lv_icmp_eq (tgt := 34) hx hb dX6_wantQuestion_21 (by decide) (fun hc => ?_) (fun hc => ?_)
        · have hv7 := hv6.1 hc
          exact sj_retV hC hD.2 hH hr hv7 ⟨(Nat.le_of_ble_eq_true rfl), (Nat.le_of_ble_eq_true rfl)⟩ dX6_wantQuestion_34
        · have hv8 := hv6.2 hc
          exact th_X6_227_69 hC hD hH hl.1 dX6_wantQuestion_24 dX6_wantQuestion_27 dX6_wantQuestion_28 dX6_wantQuestion_30 dX6_wantQuestion_33 ⟨Nat.le_of_ble_eq_true rfl, Nat.le_of_ble_eq_true rfl⟩ ⟨(Nat.le_of_ble_eq_true rfl), (Nat.le_of_ble_eq_true rfl)⟩ ⟨(Nat.le_of_ble_eq_true rfl), (Nat.le_of_ble_eq_true rfl)⟩ hv8
section SJL_X6_wantQuestion
variable {p : Program} {l : Launch} {e : Env} {R : Room} {s : State} {m : MethodId} {args : Array Value} {below : List Frame} {meth : Method} {c : Code} {H : Heap} {locs : List Loc} {cells slots : Nat} {Q : State → Prop} {cc : ByteArray} {pc : Nat} {ls : Array Slot} {rest : List Value} {G : sj_G} {nL : Nat} {w : sj_W}
theorem cl_X6_112 {rmM : Room} {QcM : Array Value → State → Outcome → State → Prop} {QX : String → sj_W → Prop} {b0 : Int32} {Qi : sj_W → Prop} (hC : sj_C G p l s m args c cc RX6 nL) (hD : sj_D meth c) (hH : sj_H G s w H locs) (hv : vc_X6_wantQuestion b0 w Qi QX) (hR : rm_X6_wantQuestion.frames + 1 ≤ R.frames ∧ 8 + (1 + 11) + rm_X6_wantQuestion.locals ≤ R.locals) (hf : cells + 1 ≤ R.cells ∧ slots + 6 ≤ R.slots) (hfM : cells + 1 ≤ rmM.cells ∧ slots + 6 ≤ rmM.slots) (hls : ls.size = nL) (hW : (rest.map fun v => v.category).sum ≤ 8) (hdg : decode cc pc = .ok (.invokestatic 112, 3)) (kk : ∀ (w1 : sj_W) (H : Heap) (locs : List Loc), sj_H G s w1 H locs → Qi w1 → W p l e R s m args below meth c H locs (cells + 1) (slots + 6) (sj_MQ G below QcM QX args s rmM) (F0 m (pc + 3) ls rest)) : W p l e R s m args below meth c H locs cells slots (sj_MQ G below QcM QX args s rmM) (F0 m pc ls (.int b0 :: rest)) :=
  sj_cV hD hH (sj_runS (n := 1) hC hH (As := [.int b0]) (wk_X6_wantQuestion G l hC.2.2.2.2.2.2 b0 w Qi QX hv) mb_365 mb_366 mb_1 mb_367 (by decide +kernel) hR hf rfl hls hW hdg) hfM kk
end SJL_X6_wantQuestion
abbrev rm_X6_spanOf : Room := { frames := 6, cells := 1, slots := 6, locals := 82 }
def vc_X6_spanOf (self : Nat) (a1 : Int32) (w : sj_W) (Q : Nat → sj_W → Prop) (QX : String → sj_W → Prop) : Prop := ((a1 < 0 → QX "java/lang/IndexOutOfBoundsException" w) ∧ (¬ a1 < 0 → ((a1 < 12 → sj_T w self = 5 ∧ sj_A w 33 self ≠ 0 ∧ (sj_T w (sj_A w 33 self) = 10 ∨ sj_T w (sj_A w 33 self) = 11 ∨ sj_T w (sj_A w 33 self) = 12) ∧ vp_in a1 (sj_N w (sj_A w 33 self)) ∧ (sj_r w (sj_A w 33 self) a1.toNatClampNeg) ≠ 0 ∧ Q (sj_r w (sj_A w 33 self) a1.toNatClampNeg) w) ∧ (¬ a1 < 12 → QX "java/lang/IndexOutOfBoundsException" w))))
set_option maxHeartbeats 4000000 in
set_option maxRecDepth 100000 in
theorem wk_X6_spanOf (G : sj_G) (l : Launch) (hlt : l.stackTraces = false) (self : Nat) (a1 : Int32) (w : sj_W) (Q : Nat → sj_W → Prop) (QX : String → sj_W → Prop) (hv : vc_X6_spanOf self a1 w Q QX) : sj_MR G l yX6_spanOf (sj_ws yX6_spanOf cX6_spanOf 2 (some (.object "Spanjudge$Span"))) rm_X6_spanOf [.ref self, .int a1] w Q QX := by
  refine sj_of (by decide +kernel) (Nat.le_of_ble_eq_true rfl) hlt ?_
  intro p e s m args below meth c ls hC hD hr hin hH hl
  have hx := hC.1
  have hb := hC.2.1
  have hl : lv_has ls 2 [(0, .ref self), (1, .int a1)] := hl
  refine lv_iload_n hx hb dX6_spanOf_0 rfl (lv_at hl 1 rfl) ?_
  refine lv_if_lt (tgt := 10) hx hb dX6_spanOf_1 (by decide) (fun hc => ?_) (fun hc => ?_)
  · have hv1 := hv.1 hc
    exact th_X6_239_76 hC hD hH hl.1 dX6_spanOf_10 dX6_spanOf_13 dX6_spanOf_14 dX6_spanOf_16 dX6_spanOf_19 ⟨Nat.le_of_ble_eq_true rfl, Nat.le_of_ble_eq_true rfl⟩ ⟨(Nat.le_of_ble_eq_true rfl), (Nat.le_of_ble_eq_true rfl)⟩ ⟨(Nat.le_of_ble_eq_true rfl), (Nat.le_of_ble_eq_true rfl)⟩ hv1
  · have hv2 := hv.2 hc
    refine lv_iload_n hx hb dX6_spanOf_4 rfl (lv_at hl 1 rfl) ?_
    refine lv_bipush (v := 12) hx hb dX6_spanOf_5 (by decide) ?_
    refine lv_icmp_lt (tgt := 20) hx hb dX6_spanOf_7 (by decide) (fun hc => ?_) (fun hc => ?_)
    · have hv3 := hv2.1 hc
      refine lv_aload_n hx hb dX6_spanOf_20 rfl (lv_at hl 0 rfl) ?_
      refine gf_X6_17 hC hH hv3.1 hv3.2.1 dX6_spanOf_21 ?_
      refine lv_iload_n hx hb dX6_spanOf_24 rfl (lv_at hl 1 rfl) ?_
      refine sj_aald hC hH hv3.2.2.1 hv3.2.2.2.1 hv3.2.2.2.2.1 dX6_spanOf_25 ?_
      exact sj_retR (Or.inl ⟨_, rfl⟩) hC hD.2 hH hr hv3.2.2.2.2.2 ⟨(Nat.le_of_ble_eq_true rfl), (Nat.le_of_ble_eq_true rfl)⟩ dX6_spanOf_26
    · have hv4 := hv2.2 hc
      exact th_X6_239_76 hC hD hH hl.1 dX6_spanOf_10 dX6_spanOf_13 dX6_spanOf_14 dX6_spanOf_16 dX6_spanOf_19 ⟨Nat.le_of_ble_eq_true rfl, Nat.le_of_ble_eq_true rfl⟩ ⟨(Nat.le_of_ble_eq_true rfl), (Nat.le_of_ble_eq_true rfl)⟩ ⟨(Nat.le_of_ble_eq_true rfl), (Nat.le_of_ble_eq_true rfl)⟩ hv4
section SJL_X6_spanOf
variable {p : Program} {l : Launch} {e : Env} {R : Room} {s : State} {m : MethodId} {args : Array Value} {below : List Frame} {meth : Method} {c : Code} {H : Heap} {locs : List Loc} {cells slots : Nat} {Q : State → Prop} {cc : ByteArray} {pc : Nat} {ls : Array Slot} {rest : List Value} {G : sj_G} {nL : Nat} {w : sj_W}
theorem cl_X6_89 {rmM : Room} {QcM : Array Value → State → Outcome → State → Prop} {QX : String → sj_W → Prop} {b : Nat} {b0 : Int32} {Qi : Nat → sj_W → Prop} (hC : sj_C G p l s m args c cc RX6 nL) (hD : sj_D meth c) (hH : sj_H G s w H locs) (hv : vc_X6_spanOf b b0 w Qi QX) (hT : sj_T w b = 5) (hR : rm_X6_spanOf.frames + 1 ≤ R.frames ∧ 8 + (2 + 11) + rm_X6_spanOf.locals ≤ R.locals) (hf : cells + 1 ≤ R.cells ∧ slots + 6 ≤ R.slots) (hfM : cells + 1 ≤ rmM.cells ∧ slots + 6 ≤ rmM.slots) (hls : ls.size = nL) (hW : (rest.map fun v => v.category).sum ≤ 8) (hdg : decode cc pc = .ok (.invokevirtual 89, 3)) (kk : ∀ (r : Nat) (w1 : sj_W) (H : Heap) (locs : List Loc), sj_H G s w1 H locs → Qi r w1 → W p l e R s m args below meth c H locs (cells + 1) (slots + 6) (sj_MQ G below QcM QX args s rmM) (F0 m (pc + 3) ls (.ref r :: rest))) : W p l e R s m args below meth c H locs cells slots (sj_MQ G below QcM QX args s rmM) (F0 m pc ls (.int b0 :: .ref b :: rest)) :=
  sj_cR hD hH (sj_runV (n := 1) hC hH (As := [.int b0]) (wk_X6_spanOf G l hC.2.2.2.2.2.2 b b0 w Qi QX hv) (ci := 4) rfl (by decide) hT mb_334 mb_336 mb_s2 mb_1 mb_337 (by decide +kernel) hR hf rfl hls hW hdg) hfM kk
end SJL_X6_spanOf
abbrev rm_X6_isFitting : Room := { frames := 0, cells := 0, slots := 0, locals := 0 }
def vc_X6_isFitting (self : Nat) (a1 : Int32) (a2 : Nat) (w : sj_W) (Q : Int32 → sj_W → Prop) : Prop := sj_T w a2 = 3 ∧ sj_T w self = 5 ∧ sj_A w 32 self ≠ 0 ∧ sj_T w a2 = 3 ∧ (sj_T w (sj_A w 32 self) = 10 ∨ sj_T w (sj_A w 32 self) = 11 ∨ sj_T w (sj_A w 32 self) = 12) ∧ vp_in ((a1 * 4) + (sj_I w 16 a2)) (sj_N w (sj_A w 32 self)) ∧ (sj_r w (sj_A w 32 self) ((a1 * 4) + (sj_I w 16 a2)).toNatClampNeg) ≠ 0 ∧ sj_T w (sj_r w (sj_A w 32 self) ((a1 * 4) + (sj_I w 16 a2)).toNatClampNeg) = 2 ∧ (((sj_I w 9 (sj_r w (sj_A w 32 self) ((a1 * 4) + (sj_I w 16 a2)).toNatClampNeg)) < (sj_I w 18 a2) → Q 0 w) ∧ (¬ (sj_I w 9 (sj_r w (sj_A w 32 self) ((a1 * 4) + (sj_I w 16 a2)).toNatClampNeg)) < (sj_I w 18 a2) → Q 1 w))
set_option maxHeartbeats 4000000 in
set_option maxRecDepth 100000 in
theorem wk_X6_isFitting (G : sj_G) (l : Launch) (hlt : l.stackTraces = false) (self : Nat) (a1 : Int32) (a2 : Nat) (w : sj_W) (Q : Int32 → sj_W → Prop) (QX : String → sj_W → Prop) (hv : vc_X6_isFitting self a1 a2 w Q) : sj_MI G l yX6_isFitting (sj_ws yX6_isFitting cX6_isFitting 3 (some .boolean)) rm_X6_isFitting [.ref self, .int a1, .ref a2] w Q QX := by
  refine sj_of (by decide +kernel) (Nat.le_of_ble_eq_true rfl) hlt ?_
  intro p e s m args below meth c ls hC hD hr hin hH hl
  have hx := hC.1
  have hb := hC.2.1
  have hl : lv_has ls 3 [(0, .ref self), (1, .int a1), (2, .ref a2)] := hl
  refine lv_aload_n hx hb dX6_isFitting_0 rfl (lv_at hl 2 rfl) ?_
  refine gf_X6_103 hC hH hv.1 dX6_isFitting_1 ?_
  refine lv_aload_n hx hb dX6_isFitting_4 rfl (lv_at hl 0 rfl) ?_
  refine gf_X6_11 hC hH hv.2.1 hv.2.2.1 dX6_isFitting_5 ?_
  refine lv_iload_n hx hb dX6_isFitting_8 rfl (lv_at hl 1 rfl) ?_
  refine lv_iconst (v := 4) hx hb dX6_isFitting_9 (by decide) ?_
  refine lv_imul hx hb dX6_isFitting_10 ?_
  refine lv_aload_n hx hb dX6_isFitting_11 rfl (lv_at hl 2 rfl) ?_
  refine gf_X6_97 hC hH hv.2.2.2.1 dX6_isFitting_12 ?_
  refine lv_iadd hx hb dX6_isFitting_15 ?_
  refine sj_aald hC hH hv.2.2.2.2.1 hv.2.2.2.2.2.1 hv.2.2.2.2.2.2.1 dX6_isFitting_16 ?_
  refine gf_X6_46 hC hH hv.2.2.2.2.2.2.2.1 dX6_isFitting_17 ?_
  refine lv_icmp_gt (tgt := 27) hx hb dX6_isFitting_20 (by decide) (fun hc => ?_) (fun hc => ?_)
  · have hv1 := hv.2.2.2.2.2.2.2.2.1 hc
    refine lv_iconst (v := 0) hx hb dX6_isFitting_27 (by decide) ?_
    exact sj_retI hC hD.2 hH hr rfl hv1 ⟨(Nat.le_of_ble_eq_true rfl), (Nat.le_of_ble_eq_true rfl)⟩ dX6_isFitting_28
  · have hv2 := hv.2.2.2.2.2.2.2.2.2 hc
    refine lv_iconst (v := 1) hx hb dX6_isFitting_23 (by decide) ?_
    refine lv_goto (tgt := 28) hx hb dX6_isFitting_24 (by decide) ?_
    exact sj_retI hC hD.2 hH hr rfl hv2 ⟨(Nat.le_of_ble_eq_true rfl), (Nat.le_of_ble_eq_true rfl)⟩ dX6_isFitting_28
section SJL_X6_isFitting
variable {p : Program} {l : Launch} {e : Env} {R : Room} {s : State} {m : MethodId} {args : Array Value} {below : List Frame} {meth : Method} {c : Code} {H : Heap} {locs : List Loc} {cells slots : Nat} {Q : State → Prop} {cc : ByteArray} {pc : Nat} {ls : Array Slot} {rest : List Value} {G : sj_G} {nL : Nat} {w : sj_W}
theorem cl_X6_108 {rmM : Room} {QcM : Array Value → State → Outcome → State → Prop} {QX : String → sj_W → Prop} {b : Nat} {b0 : Int32} {b1 : Nat} {Qi : Int32 → sj_W → Prop} (hC : sj_C G p l s m args c cc RX6 nL) (hD : sj_D meth c) (hH : sj_H G s w H locs) (hv : vc_X6_isFitting b b0 b1 w Qi) (hT : sj_T w b = 5) (hR : rm_X6_isFitting.frames + 1 ≤ R.frames ∧ 8 + (3 + 11) + rm_X6_isFitting.locals ≤ R.locals) (hf : cells + 0 ≤ R.cells ∧ slots + 0 ≤ R.slots) (hfM : cells + 0 ≤ rmM.cells ∧ slots + 0 ≤ rmM.slots) (hls : ls.size = nL) (hW : (rest.map fun v => v.category).sum ≤ 8) (hdg : decode cc pc = .ok (.invokevirtual 108, 3)) (kk : ∀ (r : Int32) (w1 : sj_W) (H : Heap) (locs : List Loc), sj_H G s w1 H locs → Qi r w1 → W p l e R s m args below meth c H locs (cells + 0) (slots + 0) (sj_MQ G below QcM QX args s rmM) (F0 m (pc + 3) ls (.int r :: rest))) : W p l e R s m args below meth c H locs cells slots (sj_MQ G below QcM QX args s rmM) (F0 m pc ls (.ref b1 :: .int b0 :: .ref b :: rest)) :=
  sj_cI hD hH (sj_runV (n := 2) hC hH (As := [.int b0, .ref b1]) (wk_X6_isFitting G l hC.2.2.2.2.2.2 b b0 b1 w Qi QX hv) (ci := 4) rfl (by decide) hT mb_354 mb_356 mb_s3 mb_1 mb_357 (by decide +kernel) hR hf rfl hls hW hdg) hfM kk
end SJL_X6_isFitting
abbrev rm_X4_init : Room := { frames := 1, cells := 0, slots := 0, locals := 12 }
def vc_X4_init (self : Nat) (a1 : Nat) (a2 : Int32) (a3 : Int32) (w : sj_W) (Q : sj_W → Prop) : Prop := sj_T w self = 4 ∧ a1 ≠ 0 ∧ ∀ w1 : sj_W, w1 = sj_sA w 24 self a1 → sj_T w1 self = 4 ∧ ∀ w3 : sj_W, w3 = sj_sI w1 25 self a2 → sj_T w3 self = 4 ∧ ∀ w5 : sj_W, w5 = sj_sI w3 26 self a3 → Q w5
set_option maxHeartbeats 4000000 in
set_option maxRecDepth 100000 in
theorem wk_X4_init (G : sj_G) (l : Launch) (hlt : l.stackTraces = false) (self : Nat) (a1 : Nat) (a2 : Int32) (a3 : Int32) (w : sj_W) (Q : sj_W → Prop) (QX : String → sj_W → Prop) (hv : vc_X4_init self a1 a2 a3 w Q) : sj_MV G l yX4_init (sj_ws yX4_init cX4_init 4 none) rm_X4_init [.ref self, .ref a1, .int a2, .int a3] w Q QX := by
  refine sj_of (by decide +kernel) (Nat.le_of_ble_eq_true rfl) hlt ?_
  intro p e s m args below meth c ls hC hD hr hin hH hl
  have hx := hC.1
  have hb := hC.2.1
  have hl : lv_has ls 4 [(0, .ref self), (1, .ref a1), (2, .int a2), (3, .int a3)] := hl
  refine lv_aload_n hx hb dX4_init_0 rfl (lv_at hl 0 rfl) ?_
  refine W.objInit hx hb hC.2.2.2.1 (hC.2.2.2.2.1 _ mb_383) (hC.2.2.2.2.1 _ mb_22) (hC.2.2.2.2.1 _ mb_23) rfl (by rw [hC.2.2.1]; exact hl.1) rfl dX4_init_1 (Nat.le_of_ble_eq_true rfl) (Nat.le_of_ble_eq_true rfl) ?_
  refine W.eq (g2 := F0 m 4 ls []) rfl ?_
  refine lv_aload_n hx hb dX4_init_4 rfl (lv_at hl 0 rfl) ?_
  refine lv_aload_n hx hb dX4_init_5 rfl (lv_at hl 1 rfl) ?_
  refine pf_X4_7 hC hH hv.1 hin hv.2.1 dX4_init_6 (fun w1 H locs e2 hH => ?_)
  refine lv_aload_n hx hb dX4_init_9 rfl (lv_at hl 0 rfl) ?_
  refine lv_iload_n hx hb dX4_init_10 rfl (lv_at hl 2 rfl) ?_
  refine pf_X4_13 hC hH (hv.2.2 w1 e2).1 hin dX4_init_11 (fun w3 H locs e4 hH => ?_)
  refine lv_aload_n hx hb dX4_init_14 rfl (lv_at hl 0 rfl) ?_
  refine lv_iload_n hx hb dX4_init_15 rfl (lv_at hl 3 rfl) ?_
  refine pf_X4_17 hC hH ((hv.2.2 w1 e2).2 w3 e4).1 hin dX4_init_16 (fun w5 H locs e6 hH => ?_)
  exact sj_retV hC hD.2 hH hr (((hv.2.2 w1 e2).2 w3 e4).2 w5 e6) ⟨(Nat.le_of_ble_eq_true rfl), (Nat.le_of_ble_eq_true rfl)⟩ dX4_init_19
section SJL_X4_init
variable {p : Program} {l : Launch} {e : Env} {R : Room} {s : State} {m : MethodId} {args : Array Value} {below : List Frame} {meth : Method} {c : Code} {H : Heap} {locs : List Loc} {cells slots : Nat} {Q : State → Prop} {cc : ByteArray} {pc : Nat} {ls : Array Slot} {rest : List Value} {G : sj_G} {nL : Nat} {w : sj_W}
theorem cl_X6_126 {rmM : Room} {QcM : Array Value → State → Outcome → State → Prop} {QX : String → sj_W → Prop} {b : Nat} {b0 : Nat} {b1 : Int32} {b2 : Int32} {Qi : sj_W → Prop} (hC : sj_C G p l s m args c cc RX6 nL) (hD : sj_D meth c) (hH : sj_H G s w H locs) (hv : vc_X4_init b b0 b1 b2 w Qi) (hR : rm_X4_init.frames + 1 ≤ R.frames ∧ 8 + (4 + 11) + rm_X4_init.locals ≤ R.locals) (hf : cells + 0 ≤ R.cells ∧ slots + 0 ≤ R.slots) (hfM : cells + 0 ≤ rmM.cells ∧ slots + 0 ≤ rmM.slots) (hls : ls.size = nL) (hW : (rest.map fun v => v.category).sum ≤ 8) (hdg : decode cc pc = .ok (.invokespecial 126, 3)) (kk : ∀ (w1 : sj_W) (H : Heap) (locs : List Loc), sj_H G s w1 H locs → Qi w1 → W p l e R s m args below meth c H locs (cells + 0) (slots + 0) (sj_MQ G below QcM QX args s rmM) (F0 m (pc + 3) ls rest)) : W p l e R s m args below meth c H locs cells slots (sj_MQ G below QcM QX args s rmM) (F0 m pc ls (.int b2 :: .int b1 :: .ref b0 :: .ref b :: rest)) :=
  sj_cV hD hH (sj_runIN (n := 3) hC hH (As := [.ref b0, .int b1, .int b2]) (wk_X4_init G l hC.2.2.2.2.2.2 b b0 b1 b2 w Qi QX hv) mb_380 mb_381 mb_12 mb_382 rfl (by decide +kernel) hR hf rfl hls hW hdg) hfM kk
theorem cl_X4_34 {rmM : Room} {QcM : Array Value → State → Outcome → State → Prop} {QX : String → sj_W → Prop} {b : Nat} {b0 : Nat} {b1 : Int32} {b2 : Int32} {Qi : sj_W → Prop} (hC : sj_C G p l s m args c cc RX4 nL) (hD : sj_D meth c) (hH : sj_H G s w H locs) (hv : vc_X4_init b b0 b1 b2 w Qi) (hR : rm_X4_init.frames + 1 ≤ R.frames ∧ 8 + (4 + 11) + rm_X4_init.locals ≤ R.locals) (hf : cells + 0 ≤ R.cells ∧ slots + 0 ≤ R.slots) (hfM : cells + 0 ≤ rmM.cells ∧ slots + 0 ≤ rmM.slots) (hls : ls.size = nL) (hW : (rest.map fun v => v.category).sum ≤ 8) (hdg : decode cc pc = .ok (.invokespecial 34, 3)) (kk : ∀ (w1 : sj_W) (H : Heap) (locs : List Loc), sj_H G s w1 H locs → Qi w1 → W p l e R s m args below meth c H locs (cells + 0) (slots + 0) (sj_MQ G below QcM QX args s rmM) (F0 m (pc + 3) ls rest)) : W p l e R s m args below meth c H locs cells slots (sj_MQ G below QcM QX args s rmM) (F0 m pc ls (.int b2 :: .int b1 :: .ref b0 :: .ref b :: rest)) :=
  sj_cV hD hH (sj_runI (n := 3) hC hH (As := [.ref b0, .int b1, .int b2]) (wk_X4_init G l hC.2.2.2.2.2.2 b b0 b1 b2 w Qi QX hv) mb_637 mb_381 mb_12 mb_382 rfl (by decide +kernel) hR hf rfl hls hW hdg) hfM kk
end SJL_X4_init
abbrev rm_X6_wordOf : Room := { frames := 2, cells := 1, slots := 3, locals := 35 }
def vc_X6_wordOf (self : Nat) (a1 : Int32) (a2 : Nat) (w : sj_W) (Q : Nat → sj_W → Prop) : Prop := ∀ q1 : Nat, q1 ≠ 0 → sj_T w q1 = 0 → ∀ w2 : sj_W, w2 = sj_nw w q1 4 0 → sj_T w2 self = 5 ∧ sj_A w2 32 self ≠ 0 ∧ sj_T w2 a2 = 3 ∧ (sj_T w2 (sj_A w2 32 self) = 10 ∨ sj_T w2 (sj_A w2 32 self) = 11 ∨ sj_T w2 (sj_A w2 32 self) = 12) ∧ vp_in ((a1 * 4) + (sj_I w2 16 a2)) (sj_N w2 (sj_A w2 32 self)) ∧ (sj_r w2 (sj_A w2 32 self) ((a1 * 4) + (sj_I w2 16 a2)).toNatClampNeg) ≠ 0 ∧ sj_T w2 (sj_r w2 (sj_A w2 32 self) ((a1 * 4) + (sj_I w2 16 a2)).toNatClampNeg) = 2 ∧ sj_A w2 8 (sj_r w2 (sj_A w2 32 self) ((a1 * 4) + (sj_I w2 16 a2)).toNatClampNeg) ≠ 0 ∧ sj_T w2 a2 = 3 ∧ sj_T w2 a2 = 3 ∧ vc_X4_init q1 (sj_A w2 8 (sj_r w2 (sj_A w2 32 self) ((a1 * 4) + (sj_I w2 16 a2)).toNatClampNeg)) (sj_I w2 17 a2) (sj_I w2 18 a2) w2 (fun w7 => Q q1 w7)
set_option maxHeartbeats 4000000 in
set_option maxRecDepth 100000 in
theorem wk_X6_wordOf (G : sj_G) (l : Launch) (hlt : l.stackTraces = false) (self : Nat) (a1 : Int32) (a2 : Nat) (w : sj_W) (Q : Nat → sj_W → Prop) (QX : String → sj_W → Prop) (hv : vc_X6_wordOf self a1 a2 w Q) : sj_MR G l yX6_wordOf (sj_ws yX6_wordOf cX6_wordOf 3 (some (.object "Spanjudge$Word"))) rm_X6_wordOf [.ref self, .int a1, .ref a2] w Q QX := by
  refine sj_of (by decide +kernel) (Nat.le_of_ble_eq_true rfl) hlt ?_
  intro p e s m args below meth c ls hC hD hr hin hH hl
  have hx := hC.1
  have hb := hC.2.1
  have hl : lv_has ls 3 [(0, .ref self), (1, .int a1), (2, .ref a2)] := hl
  refine nw_X6_124 hC hH (Nat.le_of_ble_eq_true rfl) (Nat.le_of_ble_eq_true rfl) dX6_wordOf_0 (fun q1 w2 H h4 h5 e3 hH => ?_)
  refine lv_dup hx hb dX6_wordOf_3 rfl ?_
  refine lv_aload_n hx hb dX6_wordOf_4 rfl (lv_at hl 0 rfl) ?_
  refine gf_X6_11 hC hH (hv q1 h4 h5 w2 e3).1 (hv q1 h4 h5 w2 e3).2.1 dX6_wordOf_5 ?_
  refine lv_iload_n hx hb dX6_wordOf_8 rfl (lv_at hl 1 rfl) ?_
  refine lv_iconst (v := 4) hx hb dX6_wordOf_9 (by decide) ?_
  refine lv_imul hx hb dX6_wordOf_10 ?_
  refine lv_aload_n hx hb dX6_wordOf_11 rfl (lv_at hl 2 rfl) ?_
  refine gf_X6_97 hC hH (hv q1 h4 h5 w2 e3).2.2.1 dX6_wordOf_12 ?_
  refine lv_iadd hx hb dX6_wordOf_15 ?_
  refine sj_aald hC hH (hv q1 h4 h5 w2 e3).2.2.2.1 (hv q1 h4 h5 w2 e3).2.2.2.2.1 (hv q1 h4 h5 w2 e3).2.2.2.2.2.1 dX6_wordOf_16 ?_
  refine gf_X6_57 hC hH (hv q1 h4 h5 w2 e3).2.2.2.2.2.2.1 (hv q1 h4 h5 w2 e3).2.2.2.2.2.2.2.1 dX6_wordOf_17 ?_
  refine lv_aload_n hx hb dX6_wordOf_20 rfl (lv_at hl 2 rfl) ?_
  refine gf_X6_100 hC hH (hv q1 h4 h5 w2 e3).2.2.2.2.2.2.2.2.1 dX6_wordOf_21 ?_
  refine lv_aload_n hx hb dX6_wordOf_24 rfl (lv_at hl 2 rfl) ?_
  refine gf_X6_103 hC hH (hv q1 h4 h5 w2 e3).2.2.2.2.2.2.2.2.2.1 dX6_wordOf_25 ?_
  refine cl_X6_126 hC hD hH (hv q1 h4 h5 w2 e3).2.2.2.2.2.2.2.2.2.2 ⟨Nat.le_of_ble_eq_true rfl, Nat.le_of_ble_eq_true rfl⟩ ⟨(Nat.le_of_ble_eq_true rfl), (Nat.le_of_ble_eq_true rfl)⟩ ⟨(Nat.le_of_ble_eq_true rfl), (Nat.le_of_ble_eq_true rfl)⟩ hl.1 (Nat.le_of_ble_eq_true rfl) dX6_wordOf_28 (fun w7 H locs hH hv8 => ?_)
  exact sj_retR (Or.inl ⟨_, rfl⟩) hC hD.2 hH hr hv8 ⟨(Nat.le_of_ble_eq_true rfl), (Nat.le_of_ble_eq_true rfl)⟩ dX6_wordOf_31
section SJL_X6_wordOf
variable {p : Program} {l : Launch} {e : Env} {R : Room} {s : State} {m : MethodId} {args : Array Value} {below : List Frame} {meth : Method} {c : Code} {H : Heap} {locs : List Loc} {cells slots : Nat} {Q : State → Prop} {cc : ByteArray} {pc : Nat} {ls : Array Slot} {rest : List Value} {G : sj_G} {nL : Nat} {w : sj_W}
theorem cl_X6_137 {rmM : Room} {QcM : Array Value → State → Outcome → State → Prop} {QX : String → sj_W → Prop} {b : Nat} {b0 : Int32} {b1 : Nat} {Qi : Nat → sj_W → Prop} (hC : sj_C G p l s m args c cc RX6 nL) (hD : sj_D meth c) (hH : sj_H G s w H locs) (hv : vc_X6_wordOf b b0 b1 w Qi) (hT : sj_T w b = 5) (hR : rm_X6_wordOf.frames + 1 ≤ R.frames ∧ 8 + (3 + 11) + rm_X6_wordOf.locals ≤ R.locals) (hf : cells + 1 ≤ R.cells ∧ slots + 3 ≤ R.slots) (hfM : cells + 1 ≤ rmM.cells ∧ slots + 3 ≤ rmM.slots) (hls : ls.size = nL) (hW : (rest.map fun v => v.category).sum ≤ 8) (hdg : decode cc pc = .ok (.invokevirtual 137, 3)) (kk : ∀ (r : Nat) (w1 : sj_W) (H : Heap) (locs : List Loc), sj_H G s w1 H locs → Qi r w1 → W p l e R s m args below meth c H locs (cells + 1) (slots + 3) (sj_MQ G below QcM QX args s rmM) (F0 m (pc + 3) ls (.ref r :: rest))) : W p l e R s m args below meth c H locs cells slots (sj_MQ G below QcM QX args s rmM) (F0 m pc ls (.ref b1 :: .int b0 :: .ref b :: rest)) :=
  sj_cR hD hH (sj_runV (n := 2) hC hH (As := [.int b0, .ref b1]) (wk_X6_wordOf G l hC.2.2.2.2.2.2 b b0 b1 w Qi QX hv) (ci := 4) rfl (by decide) hT mb_374 mb_376 mb_s5 mb_1 mb_377 (by decide +kernel) hR hf rfl hls hW hdg) hfM kk
end SJL_X6_wordOf
abbrev rm_X6_fittingWord : Room := { frames := 6, cells := 1, slots := 6, locals := 82 }
def vc_X6_fittingWord (self : Nat) (a1 : Int32) (a2 : Nat) (w : sj_W) (Q : Nat → sj_W → Prop) (QX : String → sj_W → Prop) : Prop := sj_T w self = 5 ∧ vc_X6_isFitting self a1 a2 w (fun r1 w2 => ((¬ r1 = 0 → sj_T w2 self = 5 ∧ vc_X6_wordOf self a1 a2 w2 (fun r5 w6 => Q r5 w6)) ∧ (r1 = 0 → QX "java/lang/IllegalStateException" w2)))
set_option maxHeartbeats 4000000 in
set_option maxRecDepth 100000 in
theorem wk_X6_fittingWord (G : sj_G) (l : Launch) (hlt : l.stackTraces = false) (self : Nat) (a1 : Int32) (a2 : Nat) (w : sj_W) (Q : Nat → sj_W → Prop) (QX : String → sj_W → Prop) (hv : vc_X6_fittingWord self a1 a2 w Q QX) : sj_MR G l yX6_fittingWord (sj_ws yX6_fittingWord cX6_fittingWord 3 (some (.object "Spanjudge$Word"))) rm_X6_fittingWord [.ref self, .int a1, .ref a2] w Q QX := by
  refine sj_of (by decide +kernel) (Nat.le_of_ble_eq_true rfl) hlt ?_
  intro p e s m args below meth c ls hC hD hr hin hH hl
  have hx := hC.1
  have hb := hC.2.1
  have hl : lv_has ls 3 [(0, .ref self), (1, .int a1), (2, .ref a2)] := hl
  refine lv_aload_n hx hb dX6_fittingWord_0 rfl (lv_at hl 0 rfl) ?_
  refine lv_iload_n hx hb dX6_fittingWord_1 rfl (lv_at hl 1 rfl) ?_
  refine lv_aload_n hx hb dX6_fittingWord_2 rfl (lv_at hl 2 rfl) ?_
  refine cl_X6_108 hC hD hH hv.2 hv.1 ⟨Nat.le_of_ble_eq_true rfl, Nat.le_of_ble_eq_true rfl⟩ ⟨(Nat.le_of_ble_eq_true rfl), (Nat.le_of_ble_eq_true rfl)⟩ ⟨(Nat.le_of_ble_eq_true rfl), (Nat.le_of_ble_eq_true rfl)⟩ hl.1 (Nat.le_of_ble_eq_true rfl) dX6_fittingWord_3 (fun r1 w2 H locs hH hv3 => ?_)
  refine lv_if_ne (tgt := 19) hx hb dX6_fittingWord_6 (by decide) (fun hc => ?_) (fun hc => ?_)
  · have hv4 := hv3.1 hc
    refine lv_aload_n hx hb dX6_fittingWord_19 rfl (lv_at hl 0 rfl) ?_
    refine lv_iload_n hx hb dX6_fittingWord_20 rfl (lv_at hl 1 rfl) ?_
    refine lv_aload_n hx hb dX6_fittingWord_21 rfl (lv_at hl 2 rfl) ?_
    refine cl_X6_137 hC hD hH hv4.2 hv4.1 ⟨Nat.le_of_ble_eq_true rfl, Nat.le_of_ble_eq_true rfl⟩ ⟨(Nat.le_of_ble_eq_true rfl), (Nat.le_of_ble_eq_true rfl)⟩ ⟨(Nat.le_of_ble_eq_true rfl), (Nat.le_of_ble_eq_true rfl)⟩ hl.1 (Nat.le_of_ble_eq_true rfl) dX6_fittingWord_22 (fun r5 w6 H locs hH hv7 => ?_)
    exact sj_retR (Or.inl ⟨_, rfl⟩) hC hD.2 hH hr hv7 ⟨(Nat.le_of_ble_eq_true rfl), (Nat.le_of_ble_eq_true rfl)⟩ dX6_fittingWord_25
  · have hv8 := hv3.2 hc
    exact th_X6_241_54 hC hD hH hl.1 dX6_fittingWord_9 dX6_fittingWord_12 dX6_fittingWord_13 dX6_fittingWord_15 dX6_fittingWord_18 ⟨Nat.le_of_ble_eq_true rfl, Nat.le_of_ble_eq_true rfl⟩ ⟨(Nat.le_of_ble_eq_true rfl), (Nat.le_of_ble_eq_true rfl)⟩ ⟨(Nat.le_of_ble_eq_true rfl), (Nat.le_of_ble_eq_true rfl)⟩ hv8
section SJL_X6_fittingWord
variable {p : Program} {l : Launch} {e : Env} {R : Room} {s : State} {m : MethodId} {args : Array Value} {below : List Frame} {meth : Method} {c : Code} {H : Heap} {locs : List Loc} {cells slots : Nat} {Q : State → Prop} {cc : ByteArray} {pc : Nat} {ls : Array Slot} {rest : List Value} {G : sj_G} {nL : Nat} {w : sj_W}
theorem cl_X6_116 {rmM : Room} {QcM : Array Value → State → Outcome → State → Prop} {QX : String → sj_W → Prop} {b : Nat} {b0 : Int32} {b1 : Nat} {Qi : Nat → sj_W → Prop} (hC : sj_C G p l s m args c cc RX6 nL) (hD : sj_D meth c) (hH : sj_H G s w H locs) (hv : vc_X6_fittingWord b b0 b1 w Qi QX) (hT : sj_T w b = 5) (hR : rm_X6_fittingWord.frames + 1 ≤ R.frames ∧ 8 + (3 + 11) + rm_X6_fittingWord.locals ≤ R.locals) (hf : cells + 1 ≤ R.cells ∧ slots + 6 ≤ R.slots) (hfM : cells + 1 ≤ rmM.cells ∧ slots + 6 ≤ rmM.slots) (hls : ls.size = nL) (hW : (rest.map fun v => v.category).sum ≤ 8) (hdg : decode cc pc = .ok (.invokevirtual 116, 3)) (kk : ∀ (r : Nat) (w1 : sj_W) (H : Heap) (locs : List Loc), sj_H G s w1 H locs → Qi r w1 → W p l e R s m args below meth c H locs (cells + 1) (slots + 6) (sj_MQ G below QcM QX args s rmM) (F0 m (pc + 3) ls (.ref r :: rest))) : W p l e R s m args below meth c H locs cells slots (sj_MQ G below QcM QX args s rmM) (F0 m pc ls (.ref b1 :: .int b0 :: .ref b :: rest)) :=
  sj_cR hD hH (sj_runV (n := 2) hC hH (As := [.int b0, .ref b1]) (wk_X6_fittingWord G l hC.2.2.2.2.2.2 b b0 b1 w Qi QX hv) (ci := 4) rfl (by decide) hT mb_369 mb_371 mb_s4 mb_1 mb_372 (by decide +kernel) hR hf rfl hls hW hdg) hfM kk
end SJL_X6_fittingWord
abbrev rm_X4_size : Room := { frames := 0, cells := 0, slots := 0, locals := 0 }
def vc_X4_size (self : Nat) (w : sj_W) (Q : Int32 → sj_W → Prop) : Prop := sj_T w self = 4 ∧ sj_T w self = 4 ∧ Q ((sj_I w 26 self) - (sj_I w 25 self)) w
set_option maxHeartbeats 4000000 in
set_option maxRecDepth 100000 in
theorem wk_X4_size (G : sj_G) (l : Launch) (hlt : l.stackTraces = false) (self : Nat) (w : sj_W) (Q : Int32 → sj_W → Prop) (QX : String → sj_W → Prop) (hv : vc_X4_size self w Q) : sj_MI G l yX4_size (sj_ws yX4_size cX4_size 1 (some .int)) rm_X4_size [.ref self] w Q QX := by
  refine sj_of (by decide +kernel) (Nat.le_of_ble_eq_true rfl) hlt ?_
  intro p e s m args below meth c ls hC hD hr hin hH hl
  have hx := hC.1
  have hb := hC.2.1
  have hl : lv_has ls 1 [(0, .ref self)] := hl
  refine lv_aload_n hx hb dX4_size_0 rfl (lv_at hl 0 rfl) ?_
  refine gf_X4_17 hC hH hv.1 dX4_size_1 ?_
  refine lv_aload_n hx hb dX4_size_4 rfl (lv_at hl 0 rfl) ?_
  refine gf_X4_13 hC hH hv.2.1 dX4_size_5 ?_
  refine lv_isub hx hb dX4_size_8 ?_
  exact sj_retI hC hD.2 hH hr rfl hv.2.2 ⟨(Nat.le_of_ble_eq_true rfl), (Nat.le_of_ble_eq_true rfl)⟩ dX4_size_9
section SJL_X4_size
variable {p : Program} {l : Launch} {e : Env} {R : Room} {s : State} {m : MethodId} {args : Array Value} {below : List Frame} {meth : Method} {c : Code} {H : Heap} {locs : List Loc} {cells slots : Nat} {Q : State → Prop} {cc : ByteArray} {pc : Nat} {ls : Array Slot} {rest : List Value} {G : sj_G} {nL : Nat} {w : sj_W}
theorem cl_X6_168 {rmM : Room} {QcM : Array Value → State → Outcome → State → Prop} {QX : String → sj_W → Prop} {b : Nat} {Qi : Int32 → sj_W → Prop} (hC : sj_C G p l s m args c cc RX6 nL) (hD : sj_D meth c) (hH : sj_H G s w H locs) (hv : vc_X4_size b w Qi) (hT : sj_T w b = 4) (hR : rm_X4_size.frames + 1 ≤ R.frames ∧ 8 + (1 + 11) + rm_X4_size.locals ≤ R.locals) (hf : cells + 0 ≤ R.cells ∧ slots + 0 ≤ R.slots) (hfM : cells + 0 ≤ rmM.cells ∧ slots + 0 ≤ rmM.slots) (hls : ls.size = nL) (hW : (rest.map fun v => v.category).sum ≤ 8) (hdg : decode cc pc = .ok (.invokevirtual 168, 3)) (kk : ∀ (r : Int32) (w1 : sj_W) (H : Heap) (locs : List Loc), sj_H G s w1 H locs → Qi r w1 → W p l e R s m args below meth c H locs (cells + 0) (slots + 0) (sj_MQ G below QcM QX args s rmM) (F0 m (pc + 3) ls (.int r :: rest))) : W p l e R s m args below meth c H locs cells slots (sj_MQ G below QcM QX args s rmM) (F0 m pc ls (.ref b :: rest)) :=
  sj_cI hD hH (sj_runVN (n := 0) hC hH (As := []) (wk_X4_size G l hC.2.2.2.2.2.2 b w Qi QX hv) (ci := 3) rfl (by decide) hT mb_400 mb_402 mb_s6 mb_12 mb_403 (by decide +kernel) hR hf rfl hls hW hdg) hfM kk
theorem cl_X4_20 {rmM : Room} {QcM : Array Value → State → Outcome → State → Prop} {QX : String → sj_W → Prop} {b : Nat} {Qi : Int32 → sj_W → Prop} (hC : sj_C G p l s m args c cc RX4 nL) (hD : sj_D meth c) (hH : sj_H G s w H locs) (hv : vc_X4_size b w Qi) (hT : sj_T w b = 4) (hR : rm_X4_size.frames + 1 ≤ R.frames ∧ 8 + (1 + 11) + rm_X4_size.locals ≤ R.locals) (hf : cells + 0 ≤ R.cells ∧ slots + 0 ≤ R.slots) (hfM : cells + 0 ≤ rmM.cells ∧ slots + 0 ≤ rmM.slots) (hls : ls.size = nL) (hW : (rest.map fun v => v.category).sum ≤ 8) (hdg : decode cc pc = .ok (.invokevirtual 20, 3)) (kk : ∀ (r : Int32) (w1 : sj_W) (H : Heap) (locs : List Loc), sj_H G s w1 H locs → Qi r w1 → W p l e R s m args below meth c H locs (cells + 0) (slots + 0) (sj_MQ G below QcM QX args s rmM) (F0 m (pc + 3) ls (.int r :: rest))) : W p l e R s m args below meth c H locs cells slots (sj_MQ G below QcM QX args s rmM) (F0 m pc ls (.ref b :: rest)) :=
  sj_cI hD hH (sj_runV (n := 0) hC hH (As := []) (wk_X4_size G l hC.2.2.2.2.2.2 b w Qi QX hv) (ci := 3) rfl (by decide) hT mb_633 mb_402 mb_s6 mb_12 mb_403 (by decide +kernel) hR hf rfl hls hW hdg) hfM kk
theorem cl_X5_41 {rmM : Room} {QcM : Array Value → State → Outcome → State → Prop} {QX : String → sj_W → Prop} {b : Nat} {Qi : Int32 → sj_W → Prop} (hC : sj_C G p l s m args c cc RX5 nL) (hD : sj_D meth c) (hH : sj_H G s w H locs) (hv : vc_X4_size b w Qi) (hT : sj_T w b = 4) (hR : rm_X4_size.frames + 1 ≤ R.frames ∧ 8 + (1 + 11) + rm_X4_size.locals ≤ R.locals) (hf : cells + 0 ≤ R.cells ∧ slots + 0 ≤ R.slots) (hfM : cells + 0 ≤ rmM.cells ∧ slots + 0 ≤ rmM.slots) (hls : ls.size = nL) (hW : (rest.map fun v => v.category).sum ≤ 8) (hdg : decode cc pc = .ok (.invokevirtual 41, 3)) (kk : ∀ (r : Int32) (w1 : sj_W) (H : Heap) (locs : List Loc), sj_H G s w1 H locs → Qi r w1 → W p l e R s m args below meth c H locs (cells + 0) (slots + 0) (sj_MQ G below QcM QX args s rmM) (F0 m (pc + 3) ls (.int r :: rest))) : W p l e R s m args below meth c H locs cells slots (sj_MQ G below QcM QX args s rmM) (F0 m pc ls (.ref b :: rest)) :=
  sj_cI hD hH (sj_runVN (n := 0) hC hH (As := []) (wk_X4_size G l hC.2.2.2.2.2.2 b w Qi QX hv) (ci := 3) rfl (by decide) hT mb_642 mb_402 mb_s6 mb_12 mb_403 (by decide +kernel) hR hf rfl hls hW hdg) hfM kk
end SJL_X4_size
abbrev rm_X4_at : Room := { frames := 0, cells := 0, slots := 0, locals := 0 }
def vc_X4_at (self : Nat) (a1 : Int32) (w : sj_W) (Q : Int64 → sj_W → Prop) : Prop := sj_T w self = 4 ∧ sj_A w 24 self ≠ 0 ∧ sj_T w self = 4 ∧ sj_T w (sj_A w 24 self) = 8 ∧ vp_in ((sj_I w 25 self) + a1) (sj_N w (sj_A w 24 self)) ∧ Q (sj_l w (sj_A w 24 self) ((sj_I w 25 self) + a1).toNatClampNeg) w
set_option maxHeartbeats 4000000 in
set_option maxRecDepth 100000 in
theorem wk_X4_at (G : sj_G) (l : Launch) (hlt : l.stackTraces = false) (self : Nat) (a1 : Int32) (w : sj_W) (Q : Int64 → sj_W → Prop) (QX : String → sj_W → Prop) (hv : vc_X4_at self a1 w Q) : sj_ML G l yX4_at (sj_ws yX4_at cX4_at 2 (some .long)) rm_X4_at [.ref self, .int a1] w Q QX := by
  refine sj_of (by decide +kernel) (Nat.le_of_ble_eq_true rfl) hlt ?_
  intro p e s m args below meth c ls hC hD hr hin hH hl
  have hx := hC.1
  have hb := hC.2.1
  have hl : lv_has ls 2 [(0, .ref self), (1, .int a1)] := hl
  refine lv_aload_n hx hb dX4_at_0 rfl (lv_at hl 0 rfl) ?_
  refine gf_X4_7 hC hH hv.1 hv.2.1 dX4_at_1 ?_
  refine lv_aload_n hx hb dX4_at_4 rfl (lv_at hl 0 rfl) ?_
  refine gf_X4_13 hC hH hv.2.2.1 dX4_at_5 ?_
  refine lv_iload_n hx hb dX4_at_8 rfl (lv_at hl 1 rfl) ?_
  refine lv_iadd hx hb dX4_at_9 ?_
  refine sj_lald hC hH hv.2.2.2.1 hv.2.2.2.2.1 dX4_at_10 ?_
  exact sj_retL hC hD.2 hH hr hv.2.2.2.2.2 ⟨(Nat.le_of_ble_eq_true rfl), (Nat.le_of_ble_eq_true rfl)⟩ dX4_at_11
section SJL_X4_at
variable {p : Program} {l : Launch} {e : Env} {R : Room} {s : State} {m : MethodId} {args : Array Value} {below : List Frame} {meth : Method} {c : Code} {H : Heap} {locs : List Loc} {cells slots : Nat} {Q : State → Prop} {cc : ByteArray} {pc : Nat} {ls : Array Slot} {rest : List Value} {G : sj_G} {nL : Nat} {w : sj_W}
theorem cl_X6_261 {rmM : Room} {QcM : Array Value → State → Outcome → State → Prop} {QX : String → sj_W → Prop} {b : Nat} {b0 : Int32} {Qi : Int64 → sj_W → Prop} (hC : sj_C G p l s m args c cc RX6 nL) (hD : sj_D meth c) (hH : sj_H G s w H locs) (hv : vc_X4_at b b0 w Qi) (hT : sj_T w b = 4) (hR : rm_X4_at.frames + 1 ≤ R.frames ∧ 8 + (2 + 11) + rm_X4_at.locals ≤ R.locals) (hf : cells + 0 ≤ R.cells ∧ slots + 0 ≤ R.slots) (hfM : cells + 0 ≤ rmM.cells ∧ slots + 0 ≤ rmM.slots) (hls : ls.size = nL) (hW : (rest.map fun v => v.category).sum ≤ 8) (hdg : decode cc pc = .ok (.invokevirtual 261, 3)) (kk : ∀ (r : Int64) (w1 : sj_W) (H : Heap) (locs : List Loc), sj_H G s w1 H locs → Qi r w1 → W p l e R s m args below meth c H locs (cells + 0) (slots + 0) (sj_MQ G below QcM QX args s rmM) (F0 m (pc + 3) ls (.long r :: rest))) : W p l e R s m args below meth c H locs cells slots (sj_MQ G below QcM QX args s rmM) (F0 m pc ls (.int b0 :: .ref b :: rest)) :=
  sj_cL hD hH (sj_runVN (n := 1) hC hH (As := [.int b0]) (wk_X4_at G l hC.2.2.2.2.2.2 b b0 w Qi QX hv) (ci := 3) rfl (by decide) hT mb_410 mb_412 mb_s7 mb_12 mb_413 (by decide +kernel) hR hf rfl hls hW hdg) hfM kk
theorem cl_X4_24 {rmM : Room} {QcM : Array Value → State → Outcome → State → Prop} {QX : String → sj_W → Prop} {b : Nat} {b0 : Int32} {Qi : Int64 → sj_W → Prop} (hC : sj_C G p l s m args c cc RX4 nL) (hD : sj_D meth c) (hH : sj_H G s w H locs) (hv : vc_X4_at b b0 w Qi) (hT : sj_T w b = 4) (hR : rm_X4_at.frames + 1 ≤ R.frames ∧ 8 + (2 + 11) + rm_X4_at.locals ≤ R.locals) (hf : cells + 0 ≤ R.cells ∧ slots + 0 ≤ R.slots) (hfM : cells + 0 ≤ rmM.cells ∧ slots + 0 ≤ rmM.slots) (hls : ls.size = nL) (hW : (rest.map fun v => v.category).sum ≤ 8) (hdg : decode cc pc = .ok (.invokevirtual 24, 3)) (kk : ∀ (r : Int64) (w1 : sj_W) (H : Heap) (locs : List Loc), sj_H G s w1 H locs → Qi r w1 → W p l e R s m args below meth c H locs (cells + 0) (slots + 0) (sj_MQ G below QcM QX args s rmM) (F0 m (pc + 3) ls (.long r :: rest))) : W p l e R s m args below meth c H locs cells slots (sj_MQ G below QcM QX args s rmM) (F0 m pc ls (.int b0 :: .ref b :: rest)) :=
  sj_cL hD hH (sj_runV (n := 1) hC hH (As := [.int b0]) (wk_X4_at G l hC.2.2.2.2.2.2 b b0 w Qi QX hv) (ci := 3) rfl (by decide) hT mb_634 mb_412 mb_s7 mb_12 mb_413 (by decide +kernel) hR hf rfl hls hW hdg) hfM kk
theorem cl_X5_45 {rmM : Room} {QcM : Array Value → State → Outcome → State → Prop} {QX : String → sj_W → Prop} {b : Nat} {b0 : Int32} {Qi : Int64 → sj_W → Prop} (hC : sj_C G p l s m args c cc RX5 nL) (hD : sj_D meth c) (hH : sj_H G s w H locs) (hv : vc_X4_at b b0 w Qi) (hT : sj_T w b = 4) (hR : rm_X4_at.frames + 1 ≤ R.frames ∧ 8 + (2 + 11) + rm_X4_at.locals ≤ R.locals) (hf : cells + 0 ≤ R.cells ∧ slots + 0 ≤ R.slots) (hfM : cells + 0 ≤ rmM.cells ∧ slots + 0 ≤ rmM.slots) (hls : ls.size = nL) (hW : (rest.map fun v => v.category).sum ≤ 8) (hdg : decode cc pc = .ok (.invokevirtual 45, 3)) (kk : ∀ (r : Int64) (w1 : sj_W) (H : Heap) (locs : List Loc), sj_H G s w1 H locs → Qi r w1 → W p l e R s m args below meth c H locs (cells + 0) (slots + 0) (sj_MQ G below QcM QX args s rmM) (F0 m (pc + 3) ls (.long r :: rest))) : W p l e R s m args below meth c H locs cells slots (sj_MQ G below QcM QX args s rmM) (F0 m pc ls (.int b0 :: .ref b :: rest)) :=
  sj_cL hD hH (sj_runVN (n := 1) hC hH (As := [.int b0]) (wk_X4_at G l hC.2.2.2.2.2.2 b b0 w Qi QX hv) (ci := 3) rfl (by decide) hT mb_643 mb_412 mb_s7 mb_12 mb_413 (by decide +kernel) hR hf rfl hls hW hdg) hfM kk
end SJL_X4_at
abbrev rm_X6_alike : Room := { frames := 1, cells := 0, slots := 0, locals := 21 }
def vb_X6_alike_14 (f0 : Nat) (f1 : Nat) (f2 : Int32) (Q : Int32 → sj_W → Prop) (E : Int32 → sj_W → Prop) (K : Int32 → sj_W → Prop) (v3 : Int32) (w : sj_W) : Prop := ((f2 ≤ v3 → E v3 w) ∧ (¬ f2 ≤ v3 → sj_T w f0 = 4 ∧ vc_X4_at f0 v3 w (fun r9 w10 => sj_T w10 f1 = 4 ∧ vc_X4_at f1 v3 w10 (fun r12 w13 => ((¬ (lg_cmp r9 r12) = 0 → E v3 w13) ∧ ((lg_cmp r9 r12) = 0 → K (v3 + 1) w13))))))
def vc_X6_alike (a1 : Nat) (a2 : Nat) (w : sj_W) (Q : Int32 → sj_W → Prop) : Prop := sj_T w a1 = 4 ∧ vc_X4_size a1 w (fun r1 w2 => sj_T w2 a2 = 4 ∧ vc_X4_size a2 w2 (fun r4 w5 => sj_lp1 (vb_X6_alike_14 a1 a2 (if r4 < r1 then r4 else r1) Q (fun z3_14 w_14 => Q z3_14 w_14)) 64 0 w5))
set_option maxHeartbeats 4000000 in
set_option maxRecDepth 100000 in
theorem wl_X6_alike_14 {p : Program} {l : Launch} {e : Env} {s : State} {m : MethodId} {args : Array Value} {below : List Frame} {meth : Method} {c : Code} {G : sj_G} {f0 : Nat} {f1 : Nat} {f2 : Int32} {Q : Int32 → sj_W → Prop} {QX : String → sj_W → Prop} {E : Int32 → sj_W → Prop} (hC : sj_C G p l s m args c cX6_alike RX6 4) (hD : sj_D meth c) (hr : meth.sig.returnType = (some .int)) (hin : meth.name = "alike") (hE : ∀ (v3 : Int32) (w : sj_W) (H : Heap) (locs : List Loc) (ls : Array Slot), lv_has ls 4 [(3, .int v3)] → sj_H G s w H locs → E v3 w → W p l e rm_X6_alike s m args below meth c H locs 0 0 (sj_MQ G below (va_Qi Q (sj_B G) (sj_F G)) QX args s rm_X6_alike) (F0 m 39 ls [])) : ∀ (n : Nat) (v3 : Int32) (w : sj_W) (H : Heap) (locs : List Loc) (ls : Array Slot), lv_has ls 4 [(0, .ref f0), (1, .ref f1), (2, .int f2), (3, .int v3)] → sj_H G s w H locs → sj_lp1 (vb_X6_alike_14 f0 f1 f2 Q E) n v3 w → W p l e rm_X6_alike s m args below meth c H locs 0 0 (sj_MQ G below (va_Qi Q (sj_B G) (sj_F G)) QX args s rm_X6_alike) (F0 m 14 ls []) := by
  have hx := hC.1
  have hb := hC.2.1
  intro n
  induction n with
  | zero =>
    intro v3 w H locs ls _ _ hv
    exact hv.elim
  | succ n ih =>
    intro v3 w H locs ls hl hH hv
    have hv : vb_X6_alike_14 f0 f1 f2 Q E (sj_lp1 (vb_X6_alike_14 f0 f1 f2 Q E) n) v3 w := hv
    have hc1 : rm_X6_alike.cells = 0 := rfl
    have hc2 : rm_X6_alike.slots = 0 := rfl
    refine lv_iload_n hx hb dX6_alike_14 rfl (lv_at hl 3 rfl) ?_
    refine lv_iload_n hx hb dX6_alike_15 rfl (lv_at hl 2 rfl) ?_
    refine lv_icmp_ge (tgt := 39) hx hb dX6_alike_16 (by decide) (fun hc => ?_) (fun hc => ?_)
    · have hv7 := hv.1 hc
      exact hE v3 w _ _ _ (lv_sub hl [3] rfl) hH hv7
    · have hv8 := hv.2 hc
      refine lv_aload_n hx hb dX6_alike_19 rfl (lv_at hl 0 rfl) ?_
      refine lv_iload_n hx hb dX6_alike_20 rfl (lv_at hl 3 rfl) ?_
      refine cl_X6_261 hC hD hH hv8.2 hv8.1 ⟨Nat.le_of_ble_eq_true rfl, Nat.le_of_ble_eq_true rfl⟩ ⟨(Nat.le_of_ble_eq_true rfl), (Nat.le_of_ble_eq_true rfl)⟩ ⟨(Nat.le_of_ble_eq_true rfl), (Nat.le_of_ble_eq_true rfl)⟩ hl.1 (Nat.le_of_ble_eq_true rfl) dX6_alike_21 (fun r9 w10 H locs hH hv11 => ?_)
      refine lv_aload_n hx hb dX6_alike_24 rfl (lv_at hl 1 rfl) ?_
      refine lv_iload_n hx hb dX6_alike_25 rfl (lv_at hl 3 rfl) ?_
      refine cl_X6_261 hC hD hH hv11.2 hv11.1 ⟨Nat.le_of_ble_eq_true rfl, Nat.le_of_ble_eq_true rfl⟩ ⟨(Nat.le_of_ble_eq_true rfl), (Nat.le_of_ble_eq_true rfl)⟩ ⟨(Nat.le_of_ble_eq_true rfl), (Nat.le_of_ble_eq_true rfl)⟩ hl.1 (Nat.le_of_ble_eq_true rfl) dX6_alike_26 (fun r12 w13 H locs hH hv14 => ?_)
      refine W.lcmp hx hb dX6_alike_29 ?_
      refine lv_if_ne (tgt := 39) hx hb dX6_alike_30 (by decide) (fun hc => ?_) (fun hc => ?_)
      · have hv15 := hv14.1 hc
        exact hE v3 w13 _ _ _ (lv_sub hl [3] rfl) hH hv15
      · have hv16 := hv14.2 hc
        refine lv_iinc (v := (v3 + 1)) (lv' := [(3, .int (v3 + 1)), (0, .ref f0), (1, .ref f1), (2, .int f2)]) hx hb dX6_alike_33 hl (k := 3) rfl rfl (by decide) rfl (fun ls hl => ?_)
        refine lv_goto (tgt := 14) hx hb dX6_alike_36 (by decide) ?_
        exact ih (v3 + 1) w13 _ _ _ (lv_sub hl [1, 2, 3, 0] rfl) hH hv16
set_option maxHeartbeats 4000000 in
set_option maxRecDepth 100000 in
theorem wk_X6_alike (G : sj_G) (l : Launch) (hlt : l.stackTraces = false) (a1 : Nat) (a2 : Nat) (w : sj_W) (Q : Int32 → sj_W → Prop) (QX : String → sj_W → Prop) (hv : vc_X6_alike a1 a2 w Q) : sj_MI G l yX6_alike (sj_ws yX6_alike cX6_alike 4 (some .int)) rm_X6_alike [.ref a1, .ref a2] w Q QX := by
  refine sj_of (by decide +kernel) (Nat.le_of_ble_eq_true rfl) hlt ?_
  intro p e s m args below meth c ls hC hD hr hin hH hl
  have hx := hC.1
  have hb := hC.2.1
  have hl : lv_has ls 4 [(0, .ref a1), (1, .ref a2)] := hl
  refine lv_aload_n hx hb dX6_alike_0 rfl (lv_at hl 0 rfl) ?_
  refine cl_X6_168 hC hD hH hv.2 hv.1 ⟨Nat.le_of_ble_eq_true rfl, Nat.le_of_ble_eq_true rfl⟩ ⟨(Nat.le_of_ble_eq_true rfl), (Nat.le_of_ble_eq_true rfl)⟩ ⟨(Nat.le_of_ble_eq_true rfl), (Nat.le_of_ble_eq_true rfl)⟩ hl.1 (Nat.le_of_ble_eq_true rfl) dX6_alike_1 (fun r1 w2 H locs hH hv3 => ?_)
  refine lv_aload_n hx hb dX6_alike_4 rfl (lv_at hl 1 rfl) ?_
  refine cl_X6_168 hC hD hH hv3.2 hv3.1 ⟨Nat.le_of_ble_eq_true rfl, Nat.le_of_ble_eq_true rfl⟩ ⟨(Nat.le_of_ble_eq_true rfl), (Nat.le_of_ble_eq_true rfl)⟩ ⟨(Nat.le_of_ble_eq_true rfl), (Nat.le_of_ble_eq_true rfl)⟩ hl.1 (Nat.le_of_ble_eq_true rfl) dX6_alike_5 (fun r4 w5 H locs hH hv6 => ?_)
  refine va_mmin hx hb (hC.2.2.1.trans hl.1.symm) hC.2.2.2.1 (hC.2.2.2.2.1 _ mb_407) (hC.2.2.2.2.1 _ mb_408) (hC.2.2.2.2.1 _ mb_13) (hC.2.2.2.2.1 _ mb_409) (Nat.le_of_ble_eq_true rfl) (Nat.le_of_ble_eq_true rfl) (Nat.le_of_ble_eq_true rfl) (Nat.le_of_ble_eq_true rfl) dX6_alike_8 ?_
  refine lv_istore_n (lv' := [(2, .int (if r4 < r1 then r4 else r1)), (0, .ref a1), (1, .ref a2)]) hx hb dX6_alike_11 rfl hl (by decide) rfl (fun ls hl => ?_)
  refine lv_iconst (v := 0) hx hb dX6_alike_12 (by decide) ?_
  refine lv_istore_n (lv' := [(3, .int 0), (2, .int (if r4 < r1 then r4 else r1)), (0, .ref a1), (1, .ref a2)]) hx hb dX6_alike_13 rfl hl (by decide) rfl (fun ls hl => ?_)
  refine wl_X6_alike_14 hC hD hr hin (fun z3_14 w_14 H locs ls hl hH hv17 => ?_) 64 0 w5 _ _ _ (lv_sub hl [2, 3, 1, 0] rfl) hH hv6
  refine lv_iload_n hx hb dX6_alike_39 rfl (lv_at hl 0 rfl) ?_
  exact sj_retI hC hD.2 hH hr rfl hv17 ⟨(Nat.le_of_ble_eq_true rfl), (Nat.le_of_ble_eq_true rfl)⟩ dX6_alike_40
section SJL_X6_alike
variable {p : Program} {l : Launch} {e : Env} {R : Room} {s : State} {m : MethodId} {args : Array Value} {below : List Frame} {meth : Method} {c : Code} {H : Heap} {locs : List Loc} {cells slots : Nat} {Q : State → Prop} {cc : ByteArray} {pc : Nat} {ls : Array Slot} {rest : List Value} {G : sj_G} {nL : Nat} {w : sj_W}
theorem cl_X6_129 {rmM : Room} {QcM : Array Value → State → Outcome → State → Prop} {QX : String → sj_W → Prop} {b0 : Nat} {b1 : Nat} {Qi : Int32 → sj_W → Prop} (hC : sj_C G p l s m args c cc RX6 nL) (hD : sj_D meth c) (hH : sj_H G s w H locs) (hv : vc_X6_alike b0 b1 w Qi) (hR : rm_X6_alike.frames + 1 ≤ R.frames ∧ 8 + (4 + 11) + rm_X6_alike.locals ≤ R.locals) (hf : cells + 0 ≤ R.cells ∧ slots + 0 ≤ R.slots) (hfM : cells + 0 ≤ rmM.cells ∧ slots + 0 ≤ rmM.slots) (hls : ls.size = nL) (hW : (rest.map fun v => v.category).sum ≤ 8) (hdg : decode cc pc = .ok (.invokestatic 129, 3)) (kk : ∀ (r : Int32) (w1 : sj_W) (H : Heap) (locs : List Loc), sj_H G s w1 H locs → Qi r w1 → W p l e R s m args below meth c H locs (cells + 0) (slots + 0) (sj_MQ G below QcM QX args s rmM) (F0 m (pc + 3) ls (.int r :: rest))) : W p l e R s m args below meth c H locs cells slots (sj_MQ G below QcM QX args s rmM) (F0 m pc ls (.ref b1 :: .ref b0 :: rest)) :=
  sj_cI hD hH (sj_runS (n := 2) hC hH (As := [.ref b0, .ref b1]) (wk_X6_alike G l hC.2.2.2.2.2.2 b0 b1 w Qi QX hv) mb_404 mb_405 mb_1 mb_406 (by decide +kernel) hR hf rfl hls hW hdg) hfM kk
theorem cl_X5_56 {rmM : Room} {QcM : Array Value → State → Outcome → State → Prop} {QX : String → sj_W → Prop} {b0 : Nat} {b1 : Nat} {Qi : Int32 → sj_W → Prop} (hC : sj_C G p l s m args c cc RX5 nL) (hD : sj_D meth c) (hH : sj_H G s w H locs) (hv : vc_X6_alike b0 b1 w Qi) (hR : rm_X6_alike.frames + 1 ≤ R.frames ∧ 8 + (4 + 11) + rm_X6_alike.locals ≤ R.locals) (hf : cells + 0 ≤ R.cells ∧ slots + 0 ≤ R.slots) (hfM : cells + 0 ≤ rmM.cells ∧ slots + 0 ≤ rmM.slots) (hls : ls.size = nL) (hW : (rest.map fun v => v.category).sum ≤ 8) (hdg : decode cc pc = .ok (.invokestatic 56, 3)) (kk : ∀ (r : Int32) (w1 : sj_W) (H : Heap) (locs : List Loc), sj_H G s w1 H locs → Qi r w1 → W p l e R s m args below meth c H locs (cells + 0) (slots + 0) (sj_MQ G below QcM QX args s rmM) (F0 m (pc + 3) ls (.int r :: rest))) : W p l e R s m args below meth c H locs cells slots (sj_MQ G below QcM QX args s rmM) (F0 m pc ls (.ref b1 :: .ref b0 :: rest)) :=
  sj_cI hD hH (sj_runSN (n := 2) hC hH (As := [.ref b0, .ref b1]) (wk_X6_alike G l hC.2.2.2.2.2.2 b0 b1 w Qi QX hv) mb_649 mb_405 mb_1 mb_406 (by decide +kernel) hR hf rfl hls hW hdg) hfM kk
end SJL_X6_alike
abbrev rm_X6_isSame : Room := { frames := 2, cells := 0, slots := 0, locals := 44 }
def vc_X6_isSame (a1 : Nat) (a2 : Nat) (w : sj_W) (Q : Int32 → sj_W → Prop) : Prop := sj_T w a1 = 4 ∧ vc_X4_size a1 w (fun r1 w2 => sj_T w2 a2 = 4 ∧ vc_X4_size a2 w2 (fun r4 w5 => ((¬ r1 = r4 → Q 0 w5) ∧ (r1 = r4 → vc_X6_alike a1 a2 w5 (fun r9 w10 => sj_T w10 a1 = 4 ∧ vc_X4_size a1 w10 (fun r12 w13 => ((¬ r9 = r12 → Q 0 w13) ∧ (r9 = r12 → Q 1 w13))))))))
set_option maxHeartbeats 4000000 in
set_option maxRecDepth 100000 in
theorem wk_X6_isSame (G : sj_G) (l : Launch) (hlt : l.stackTraces = false) (a1 : Nat) (a2 : Nat) (w : sj_W) (Q : Int32 → sj_W → Prop) (QX : String → sj_W → Prop) (hv : vc_X6_isSame a1 a2 w Q) : sj_MI G l yX6_isSame (sj_ws yX6_isSame cX6_isSame 2 (some .boolean)) rm_X6_isSame [.ref a1, .ref a2] w Q QX := by
  refine sj_of (by decide +kernel) (Nat.le_of_ble_eq_true rfl) hlt ?_
  intro p e s m args below meth c ls hC hD hr hin hH hl
  have hx := hC.1
  have hb := hC.2.1
  have hl : lv_has ls 2 [(0, .ref a1), (1, .ref a2)] := hl
  refine lv_aload_n hx hb dX6_isSame_0 rfl (lv_at hl 0 rfl) ?_
  refine cl_X6_168 hC hD hH hv.2 hv.1 ⟨Nat.le_of_ble_eq_true rfl, Nat.le_of_ble_eq_true rfl⟩ ⟨(Nat.le_of_ble_eq_true rfl), (Nat.le_of_ble_eq_true rfl)⟩ ⟨(Nat.le_of_ble_eq_true rfl), (Nat.le_of_ble_eq_true rfl)⟩ hl.1 (Nat.le_of_ble_eq_true rfl) dX6_isSame_1 (fun r1 w2 H locs hH hv3 => ?_)
  refine lv_aload_n hx hb dX6_isSame_4 rfl (lv_at hl 1 rfl) ?_
  refine cl_X6_168 hC hD hH hv3.2 hv3.1 ⟨Nat.le_of_ble_eq_true rfl, Nat.le_of_ble_eq_true rfl⟩ ⟨(Nat.le_of_ble_eq_true rfl), (Nat.le_of_ble_eq_true rfl)⟩ ⟨(Nat.le_of_ble_eq_true rfl), (Nat.le_of_ble_eq_true rfl)⟩ hl.1 (Nat.le_of_ble_eq_true rfl) dX6_isSame_5 (fun r4 w5 H locs hH hv6 => ?_)
  refine lv_icmp_ne (tgt := 27) hx hb dX6_isSame_8 (by decide) (fun hc => ?_) (fun hc => ?_)
  · have hv7 := hv6.1 hc
    refine lv_iconst (v := 0) hx hb dX6_isSame_27 (by decide) ?_
    exact sj_retI hC hD.2 hH hr rfl hv7 ⟨(Nat.le_of_ble_eq_true rfl), (Nat.le_of_ble_eq_true rfl)⟩ dX6_isSame_28
  · have hv8 := hv6.2 hc
    refine lv_aload_n hx hb dX6_isSame_11 rfl (lv_at hl 0 rfl) ?_
    refine lv_aload_n hx hb dX6_isSame_12 rfl (lv_at hl 1 rfl) ?_
    refine cl_X6_129 hC hD hH hv8 ⟨Nat.le_of_ble_eq_true rfl, Nat.le_of_ble_eq_true rfl⟩ ⟨(Nat.le_of_ble_eq_true rfl), (Nat.le_of_ble_eq_true rfl)⟩ ⟨(Nat.le_of_ble_eq_true rfl), (Nat.le_of_ble_eq_true rfl)⟩ hl.1 (Nat.le_of_ble_eq_true rfl) dX6_isSame_13 (fun r9 w10 H locs hH hv11 => ?_)
    refine lv_aload_n hx hb dX6_isSame_16 rfl (lv_at hl 0 rfl) ?_
    refine cl_X6_168 hC hD hH hv11.2 hv11.1 ⟨Nat.le_of_ble_eq_true rfl, Nat.le_of_ble_eq_true rfl⟩ ⟨(Nat.le_of_ble_eq_true rfl), (Nat.le_of_ble_eq_true rfl)⟩ ⟨(Nat.le_of_ble_eq_true rfl), (Nat.le_of_ble_eq_true rfl)⟩ hl.1 (Nat.le_of_ble_eq_true rfl) dX6_isSame_17 (fun r12 w13 H locs hH hv14 => ?_)
    refine lv_icmp_ne (tgt := 27) hx hb dX6_isSame_20 (by decide) (fun hc => ?_) (fun hc => ?_)
    · have hv15 := hv14.1 hc
      refine lv_iconst (v := 0) hx hb dX6_isSame_27 (by decide) ?_
      exact sj_retI hC hD.2 hH hr rfl hv15 ⟨(Nat.le_of_ble_eq_true rfl), (Nat.le_of_ble_eq_true rfl)⟩ dX6_isSame_28
    · have hv16 := hv14.2 hc
      refine lv_iconst (v := 1) hx hb dX6_isSame_23 (by decide) ?_
      refine lv_goto (tgt := 28) hx hb dX6_isSame_24 (by decide) ?_
      exact sj_retI hC hD.2 hH hr rfl hv16 ⟨(Nat.le_of_ble_eq_true rfl), (Nat.le_of_ble_eq_true rfl)⟩ dX6_isSame_28
section SJL_X6_isSame
variable {p : Program} {l : Launch} {e : Env} {R : Room} {s : State} {m : MethodId} {args : Array Value} {below : List Frame} {meth : Method} {c : Code} {H : Heap} {locs : List Loc} {cells slots : Nat} {Q : State → Prop} {cc : ByteArray} {pc : Nat} {ls : Array Slot} {rest : List Value} {G : sj_G} {nL : Nat} {w : sj_W}
theorem cl_X6_243 {rmM : Room} {QcM : Array Value → State → Outcome → State → Prop} {QX : String → sj_W → Prop} {b0 : Nat} {b1 : Nat} {Qi : Int32 → sj_W → Prop} (hC : sj_C G p l s m args c cc RX6 nL) (hD : sj_D meth c) (hH : sj_H G s w H locs) (hv : vc_X6_isSame b0 b1 w Qi) (hR : rm_X6_isSame.frames + 1 ≤ R.frames ∧ 8 + (2 + 11) + rm_X6_isSame.locals ≤ R.locals) (hf : cells + 0 ≤ R.cells ∧ slots + 0 ≤ R.slots) (hfM : cells + 0 ≤ rmM.cells ∧ slots + 0 ≤ rmM.slots) (hls : ls.size = nL) (hW : (rest.map fun v => v.category).sum ≤ 8) (hdg : decode cc pc = .ok (.invokestatic 243, 3)) (kk : ∀ (r : Int32) (w1 : sj_W) (H : Heap) (locs : List Loc), sj_H G s w1 H locs → Qi r w1 → W p l e R s m args below meth c H locs (cells + 0) (slots + 0) (sj_MQ G below QcM QX args s rmM) (F0 m (pc + 3) ls (.int r :: rest))) : W p l e R s m args below meth c H locs cells slots (sj_MQ G below QcM QX args s rmM) (F0 m pc ls (.ref b1 :: .ref b0 :: rest)) :=
  sj_cI hD hH (sj_runS (n := 2) hC hH (As := [.ref b0, .ref b1]) (wk_X6_isSame G l hC.2.2.2.2.2.2 b0 b1 w Qi QX hv) mb_397 mb_398 mb_1 mb_399 (by decide +kernel) hR hf rfl hls hW hdg) hfM kk
theorem cl_X5_49 {rmM : Room} {QcM : Array Value → State → Outcome → State → Prop} {QX : String → sj_W → Prop} {b0 : Nat} {b1 : Nat} {Qi : Int32 → sj_W → Prop} (hC : sj_C G p l s m args c cc RX5 nL) (hD : sj_D meth c) (hH : sj_H G s w H locs) (hv : vc_X6_isSame b0 b1 w Qi) (hR : rm_X6_isSame.frames + 1 ≤ R.frames ∧ 8 + (2 + 11) + rm_X6_isSame.locals ≤ R.locals) (hf : cells + 0 ≤ R.cells ∧ slots + 0 ≤ R.slots) (hfM : cells + 0 ≤ rmM.cells ∧ slots + 0 ≤ rmM.slots) (hls : ls.size = nL) (hW : (rest.map fun v => v.category).sum ≤ 8) (hdg : decode cc pc = .ok (.invokestatic 49, 3)) (kk : ∀ (r : Int32) (w1 : sj_W) (H : Heap) (locs : List Loc), sj_H G s w1 H locs → Qi r w1 → W p l e R s m args below meth c H locs (cells + 0) (slots + 0) (sj_MQ G below QcM QX args s rmM) (F0 m (pc + 3) ls (.int r :: rest))) : W p l e R s m args below meth c H locs cells slots (sj_MQ G below QcM QX args s rmM) (F0 m pc ls (.ref b1 :: .ref b0 :: rest)) :=
  sj_cI hD hH (sj_runSN (n := 2) hC hH (As := [.ref b0, .ref b1]) (wk_X6_isSame G l hC.2.2.2.2.2.2 b0 b1 w Qi QX hv) mb_644 mb_398 mb_1 mb_399 (by decide +kernel) hR hf rfl hls hW hdg) hfM kk
end SJL_X6_isSame
abbrev rm_X6_compareNumbers : Room := { frames := 0, cells := 0, slots := 0, locals := 0 }
def vc_X6_compareNumbers (a1 : Int64) (a2 : Int64) (a3 : Int32) (w : sj_W) (Q : Int32 → sj_W → Prop) : Prop := sj_jn1 (fun (E1 : Int64 → sj_W → Prop) => ((a3 = 0 → E1 a1 w) ∧ (¬ a3 = 0 → E1 (a1 ^^^ (-9223372036854775808)) w))) (fun (y0_14 : Int64) (w_14 : sj_W) => sj_jn1 (fun (E9 : Int64 → sj_W → Prop) => ((a3 = 0 → E9 a2 w_14) ∧ (¬ a3 = 0 → E9 (a2 ^^^ (-9223372036854775808)) w_14))) (fun (y0_30 : Int64) (w_30 : sj_W) => ((¬ (lg_cmp y0_14 y0_30) = 0 → ((0 ≤ (lg_cmp y0_14 y0_30) → Q 1 w_30) ∧ (¬ 0 ≤ (lg_cmp y0_14 y0_30) → Q (-1) w_30))) ∧ ((lg_cmp y0_14 y0_30) = 0 → Q 0 w_30))))
set_option maxHeartbeats 4000000 in
set_option maxRecDepth 100000 in
theorem wk_X6_compareNumbers (G : sj_G) (l : Launch) (hlt : l.stackTraces = false) (a1 : Int64) (a2 : Int64) (a3 : Int32) (w : sj_W) (Q : Int32 → sj_W → Prop) (QX : String → sj_W → Prop) (hv : vc_X6_compareNumbers a1 a2 a3 w Q) : sj_MI G l yX6_compareNumbers (sj_ws yX6_compareNumbers cX6_compareNumbers 9 (some .int)) rm_X6_compareNumbers [.long a1, .long a2, .int a3] w Q QX := by
  refine sj_of (by decide +kernel) (Nat.le_of_ble_eq_true rfl) hlt ?_
  intro p e s m args below meth c ls hC hD hr hin hH hl
  have hx := hC.1
  have hb := hC.2.1
  have hl : lv_has ls 9 [(0, .long a1), (2, .long a2), (4, .int a3)] := hl
  refine lv_iload hx hb dX6_compareNumbers_0 (lv_at hl 2 rfl) ?_
  obtain ⟨E1, hE2, hv5⟩ := sj_jn1_e hv
  have hJ3 : ∀ (y0_14 : Int64) (w_14 : sj_W) (H : Heap) (locs : List Loc) (ls : Array Slot), lv_has ls 9 [(2, .long a2), (4, .int a3)] → sj_H G s w_14 H locs → E1 y0_14 w_14 → W p l e rm_X6_compareNumbers s m args below meth c H locs 0 0 (sj_MQ G below (va_Qi Q (sj_B G) (sj_F G)) QX args s rm_X6_compareNumbers) (F0 m 14 ls [.long y0_14]) := by
    intro y0_14 w_14 H locs ls hl hH hv6
    rw [hE2] at hv6
    refine lv_lstore (lv' := [(5, .long y0_14), (2, .long a2), (4, .int a3)]) hx hb dX6_compareNumbers_14 hl (by decide) rfl (fun ls hl => ?_)
    refine lv_iload hx hb dX6_compareNumbers_16 (lv_at hl 2 rfl) ?_
    obtain ⟨E9, hE10, hv13⟩ := sj_jn1_e hv6
    have hJ11 : ∀ (y0_30 : Int64) (w_30 : sj_W) (H : Heap) (locs : List Loc) (ls : Array Slot), lv_has ls 9 [(5, .long y0_14)] → sj_H G s w_30 H locs → E9 y0_30 w_30 → W p l e rm_X6_compareNumbers s m args below meth c H locs 0 0 (sj_MQ G below (va_Qi Q (sj_B G) (sj_F G)) QX args s rm_X6_compareNumbers) (F0 m 30 ls [.long y0_30]) := by
      intro y0_30 w_30 H locs ls hl hH hv14
      rw [hE10] at hv14
      refine lv_lstore (lv' := [(7, .long y0_30), (5, .long y0_14)]) hx hb dX6_compareNumbers_30 hl (by decide) rfl (fun ls hl => ?_)
      refine lv_lload hx hb dX6_compareNumbers_32 (lv_at hl 1 rfl) ?_
      refine lv_lload hx hb dX6_compareNumbers_34 (lv_at hl 0 rfl) ?_
      refine W.lcmp hx hb dX6_compareNumbers_36 ?_
      refine lv_if_ne (tgt := 42) hx hb dX6_compareNumbers_37 (by decide) (fun hc => ?_) (fun hc => ?_)
      · have hv17 := hv14.1 hc
        refine lv_lload hx hb dX6_compareNumbers_42 (lv_at hl 1 rfl) ?_
        refine lv_lload hx hb dX6_compareNumbers_44 (lv_at hl 0 rfl) ?_
        refine W.lcmp hx hb dX6_compareNumbers_46 ?_
        refine lv_if_ge (tgt := 54) hx hb dX6_compareNumbers_47 (by decide) (fun hc => ?_) (fun hc => ?_)
        · have hv18 := hv17.1 hc
          refine lv_iconst (v := 1) hx hb dX6_compareNumbers_54 (by decide) ?_
          exact sj_retI hC hD.2 hH hr rfl hv18 ⟨(Nat.le_of_ble_eq_true rfl), (Nat.le_of_ble_eq_true rfl)⟩ dX6_compareNumbers_55
        · have hv19 := hv17.2 hc
          refine lv_iconst (v := (-1)) hx hb dX6_compareNumbers_50 (by decide) ?_
          refine lv_goto (tgt := 55) hx hb dX6_compareNumbers_51 (by decide) ?_
          exact sj_retI hC hD.2 hH hr rfl hv19 ⟨(Nat.le_of_ble_eq_true rfl), (Nat.le_of_ble_eq_true rfl)⟩ dX6_compareNumbers_55
      · have hv20 := hv14.2 hc
        refine lv_iconst (v := 0) hx hb dX6_compareNumbers_40 (by decide) ?_
        exact sj_retI hC hD.2 hH hr rfl hv20 ⟨(Nat.le_of_ble_eq_true rfl), (Nat.le_of_ble_eq_true rfl)⟩ dX6_compareNumbers_41
    clear hE10
    refine lv_if_eq (tgt := 29) hx hb dX6_compareNumbers_18 (by decide) (fun hc => ?_) (fun hc => ?_)
    · have hv15 := hv13.1 hc
      refine lv_lload_n hx hb dX6_compareNumbers_29 rfl (lv_at hl 1 rfl) ?_
      exact hJ11 a2 w_14 _ _ _ (lv_sub hl [0] rfl) hH hv15
    · have hv16 := hv13.2 hc
      refine lv_lload_n hx hb dX6_compareNumbers_21 rfl (lv_at hl 1 rfl) ?_
      refine lv_ldc2 (v := (-9223372036854775808)) hx hb hC.2.2.2.1 (hC.2.2.2.2.1 _ mb_420) dX6_compareNumbers_22 ?_
      refine lv_lxor hx hb dX6_compareNumbers_25 ?_
      refine lv_goto (tgt := 30) hx hb dX6_compareNumbers_26 (by decide) ?_
      exact hJ11 (a2 ^^^ (-9223372036854775808)) w_14 _ _ _ (lv_sub hl [0] rfl) hH hv16
  clear hE2
  refine lv_if_eq (tgt := 13) hx hb dX6_compareNumbers_2 (by decide) (fun hc => ?_) (fun hc => ?_)
  · have hv7 := hv5.1 hc
    refine lv_lload_n hx hb dX6_compareNumbers_13 rfl (lv_at hl 0 rfl) ?_
    exact hJ3 a1 w _ _ _ (lv_sub hl [1, 2] rfl) hH hv7
  · have hv8 := hv5.2 hc
    refine lv_lload_n hx hb dX6_compareNumbers_5 rfl (lv_at hl 0 rfl) ?_
    refine lv_ldc2 (v := (-9223372036854775808)) hx hb hC.2.2.2.1 (hC.2.2.2.2.1 _ mb_420) dX6_compareNumbers_6 ?_
    refine lv_lxor hx hb dX6_compareNumbers_9 ?_
    refine lv_goto (tgt := 14) hx hb dX6_compareNumbers_10 (by decide) ?_
    exact hJ3 (a1 ^^^ (-9223372036854775808)) w _ _ _ (lv_sub hl [1, 2] rfl) hH hv8
section SJL_X6_compareNumbers
variable {p : Program} {l : Launch} {e : Env} {R : Room} {s : State} {m : MethodId} {args : Array Value} {below : List Frame} {meth : Method} {c : Code} {H : Heap} {locs : List Loc} {cells slots : Nat} {Q : State → Prop} {cc : ByteArray} {pc : Nat} {ls : Array Slot} {rest : List Value} {G : sj_G} {nL : Nat} {w : sj_W}
theorem cl_X6_265 {rmM : Room} {QcM : Array Value → State → Outcome → State → Prop} {QX : String → sj_W → Prop} {b0 : Int64} {b1 : Int64} {b2 : Int32} {Qi : Int32 → sj_W → Prop} (hC : sj_C G p l s m args c cc RX6 nL) (hD : sj_D meth c) (hH : sj_H G s w H locs) (hv : vc_X6_compareNumbers b0 b1 b2 w Qi) (hR : rm_X6_compareNumbers.frames + 1 ≤ R.frames ∧ 8 + (9 + 11) + rm_X6_compareNumbers.locals ≤ R.locals) (hf : cells + 0 ≤ R.cells ∧ slots + 0 ≤ R.slots) (hfM : cells + 0 ≤ rmM.cells ∧ slots + 0 ≤ rmM.slots) (hls : ls.size = nL) (hW : (rest.map fun v => v.category).sum ≤ 8) (hdg : decode cc pc = .ok (.invokestatic 265, 3)) (kk : ∀ (r : Int32) (w1 : sj_W) (H : Heap) (locs : List Loc), sj_H G s w1 H locs → Qi r w1 → W p l e R s m args below meth c H locs (cells + 0) (slots + 0) (sj_MQ G below QcM QX args s rmM) (F0 m (pc + 3) ls (.int r :: rest))) : W p l e R s m args below meth c H locs cells slots (sj_MQ G below QcM QX args s rmM) (F0 m pc ls (.int b2 :: .long b1 :: .long b0 :: rest)) :=
  sj_cI hD hH (sj_runS (n := 3) hC hH (As := [.long b0, .long b1, .int b2]) (wk_X6_compareNumbers G l hC.2.2.2.2.2.2 b0 b1 b2 w Qi QX hv) mb_417 mb_418 mb_1 mb_419 (by decide +kernel) hR hf rfl hls hW hdg) hfM kk
theorem cl_X0_42 {rmM : Room} {QcM : Array Value → State → Outcome → State → Prop} {QX : String → sj_W → Prop} {b0 : Int64} {b1 : Int64} {b2 : Int32} {Qi : Int32 → sj_W → Prop} (hC : sj_C G p l s m args c cc RX0 nL) (hD : sj_D meth c) (hH : sj_H G s w H locs) (hv : vc_X6_compareNumbers b0 b1 b2 w Qi) (hR : rm_X6_compareNumbers.frames + 1 ≤ R.frames ∧ 8 + (9 + 11) + rm_X6_compareNumbers.locals ≤ R.locals) (hf : cells + 0 ≤ R.cells ∧ slots + 0 ≤ R.slots) (hfM : cells + 0 ≤ rmM.cells ∧ slots + 0 ≤ rmM.slots) (hls : ls.size = nL) (hW : (rest.map fun v => v.category).sum ≤ 8) (hdg : decode cc pc = .ok (.invokestatic 42, 3)) (kk : ∀ (r : Int32) (w1 : sj_W) (H : Heap) (locs : List Loc), sj_H G s w1 H locs → Qi r w1 → W p l e R s m args below meth c H locs (cells + 0) (slots + 0) (sj_MQ G below QcM QX args s rmM) (F0 m (pc + 3) ls (.int r :: rest))) : W p l e R s m args below meth c H locs cells slots (sj_MQ G below QcM QX args s rmM) (F0 m pc ls (.int b2 :: .long b1 :: .long b0 :: rest)) :=
  sj_cI hD hH (sj_runSN (n := 3) hC hH (As := [.long b0, .long b1, .int b2]) (wk_X6_compareNumbers G l hC.2.2.2.2.2.2 b0 b1 b2 w Qi QX hv) mb_493 mb_418 mb_1 mb_419 (by decide +kernel) hR hf rfl hls hW hdg) hfM kk
theorem cl_X5_59 {rmM : Room} {QcM : Array Value → State → Outcome → State → Prop} {QX : String → sj_W → Prop} {b0 : Int64} {b1 : Int64} {b2 : Int32} {Qi : Int32 → sj_W → Prop} (hC : sj_C G p l s m args c cc RX5 nL) (hD : sj_D meth c) (hH : sj_H G s w H locs) (hv : vc_X6_compareNumbers b0 b1 b2 w Qi) (hR : rm_X6_compareNumbers.frames + 1 ≤ R.frames ∧ 8 + (9 + 11) + rm_X6_compareNumbers.locals ≤ R.locals) (hf : cells + 0 ≤ R.cells ∧ slots + 0 ≤ R.slots) (hfM : cells + 0 ≤ rmM.cells ∧ slots + 0 ≤ rmM.slots) (hls : ls.size = nL) (hW : (rest.map fun v => v.category).sum ≤ 8) (hdg : decode cc pc = .ok (.invokestatic 59, 3)) (kk : ∀ (r : Int32) (w1 : sj_W) (H : Heap) (locs : List Loc), sj_H G s w1 H locs → Qi r w1 → W p l e R s m args below meth c H locs (cells + 0) (slots + 0) (sj_MQ G below QcM QX args s rmM) (F0 m (pc + 3) ls (.int r :: rest))) : W p l e R s m args below meth c H locs cells slots (sj_MQ G below QcM QX args s rmM) (F0 m pc ls (.int b2 :: .long b1 :: .long b0 :: rest)) :=
  sj_cI hD hH (sj_runSN (n := 3) hC hH (As := [.long b0, .long b1, .int b2]) (wk_X6_compareNumbers G l hC.2.2.2.2.2.2 b0 b1 b2 w Qi QX hv) mb_650 mb_418 mb_1 mb_419 (by decide +kernel) hR hf rfl hls hW hdg) hfM kk
theorem cl_X1_23 {rmM : Room} {QcM : Array Value → State → Outcome → State → Prop} {QX : String → sj_W → Prop} {b0 : Int64} {b1 : Int64} {b2 : Int32} {Qi : Int32 → sj_W → Prop} (hC : sj_C G p l s m args c cc RX1 nL) (hD : sj_D meth c) (hH : sj_H G s w H locs) (hv : vc_X6_compareNumbers b0 b1 b2 w Qi) (hR : rm_X6_compareNumbers.frames + 1 ≤ R.frames ∧ 8 + (9 + 11) + rm_X6_compareNumbers.locals ≤ R.locals) (hf : cells + 0 ≤ R.cells ∧ slots + 0 ≤ R.slots) (hfM : cells + 0 ≤ rmM.cells ∧ slots + 0 ≤ rmM.slots) (hls : ls.size = nL) (hW : (rest.map fun v => v.category).sum ≤ 8) (hdg : decode cc pc = .ok (.invokestatic 23, 3)) (kk : ∀ (r : Int32) (w1 : sj_W) (H : Heap) (locs : List Loc), sj_H G s w1 H locs → Qi r w1 → W p l e R s m args below meth c H locs (cells + 0) (slots + 0) (sj_MQ G below QcM QX args s rmM) (F0 m (pc + 3) ls (.int r :: rest))) : W p l e R s m args below meth c H locs cells slots (sj_MQ G below QcM QX args s rmM) (F0 m pc ls (.int b2 :: .long b1 :: .long b0 :: rest)) :=
  sj_cI hD hH (sj_runSN (n := 3) hC hH (As := [.long b0, .long b1, .int b2]) (wk_X6_compareNumbers G l hC.2.2.2.2.2.2 b0 b1 b2 w Qi QX hv) mb_571 mb_418 mb_1 mb_419 (by decide +kernel) hR hf rfl hls hW hdg) hfM kk
end SJL_X6_compareNumbers
abbrev rm_X6_compareWords : Room := { frames := 2, cells := 0, slots := 0, locals := 44 }
def vc_X6_compareWords (a1 : Nat) (a2 : Nat) (a3 : Int32) (w : sj_W) (Q : Int32 → sj_W → Prop) : Prop := vc_X6_alike a1 a2 w (fun r1 w2 => sj_T w2 a1 = 4 ∧ vc_X4_size a1 w2 (fun r4 w5 => ((r4 ≤ r1 → sj_T w5 a1 = 4 ∧ vc_X4_size a1 w5 (fun r8 w9 => sj_T w9 a2 = 4 ∧ vc_X4_size a2 w9 (fun r11 w12 => vc_X6_compareNumbers (r8.toInt64) (r11.toInt64) 0 w12 (fun r14 w15 => Q r14 w15)))) ∧ (¬ r4 ≤ r1 → sj_T w5 a2 = 4 ∧ vc_X4_size a2 w5 (fun r18 w19 => ((r18 ≤ r1 → sj_T w19 a1 = 4 ∧ vc_X4_size a1 w19 (fun r22 w23 => sj_T w23 a2 = 4 ∧ vc_X4_size a2 w23 (fun r25 w26 => vc_X6_compareNumbers (r22.toInt64) (r25.toInt64) 0 w26 (fun r28 w29 => Q r28 w29)))) ∧ (¬ r18 ≤ r1 → sj_T w19 a1 = 4 ∧ vc_X4_at a1 r1 w19 (fun r32 w33 => sj_T w33 a2 = 4 ∧ vc_X4_at a2 r1 w33 (fun r35 w36 => vc_X6_compareNumbers r32 r35 a3 w36 (fun r38 w39 => Q r38 w39))))))))))
set_option maxHeartbeats 4000000 in
set_option maxRecDepth 100000 in
theorem wk_X6_compareWords (G : sj_G) (l : Launch) (hlt : l.stackTraces = false) (a1 : Nat) (a2 : Nat) (a3 : Int32) (w : sj_W) (Q : Int32 → sj_W → Prop) (QX : String → sj_W → Prop) (hv : vc_X6_compareWords a1 a2 a3 w Q) : sj_MI G l yX6_compareWords (sj_ws yX6_compareWords cX6_compareWords 4 (some .int)) rm_X6_compareWords [.ref a1, .ref a2, .int a3] w Q QX := by
  refine sj_of (by decide +kernel) (Nat.le_of_ble_eq_true rfl) hlt ?_
  intro p e s m args below meth c ls hC hD hr hin hH hl
  have hx := hC.1
  have hb := hC.2.1
  have hl : lv_has ls 4 [(0, .ref a1), (1, .ref a2), (2, .int a3)] := hl
  refine lv_aload_n hx hb dX6_compareWords_0 rfl (lv_at hl 0 rfl) ?_
  refine lv_aload_n hx hb dX6_compareWords_1 rfl (lv_at hl 1 rfl) ?_
  refine cl_X6_129 hC hD hH hv ⟨Nat.le_of_ble_eq_true rfl, Nat.le_of_ble_eq_true rfl⟩ ⟨(Nat.le_of_ble_eq_true rfl), (Nat.le_of_ble_eq_true rfl)⟩ ⟨(Nat.le_of_ble_eq_true rfl), (Nat.le_of_ble_eq_true rfl)⟩ hl.1 (Nat.le_of_ble_eq_true rfl) dX6_compareWords_2 (fun r1 w2 H locs hH hv3 => ?_)
  refine lv_istore_n (lv' := [(3, .int r1), (0, .ref a1), (1, .ref a2), (2, .int a3)]) hx hb dX6_compareWords_5 rfl hl (by decide) rfl (fun ls hl => ?_)
  refine lv_iload_n hx hb dX6_compareWords_6 rfl (lv_at hl 0 rfl) ?_
  refine lv_aload_n hx hb dX6_compareWords_7 rfl (lv_at hl 1 rfl) ?_
  refine cl_X6_168 hC hD hH hv3.2 hv3.1 ⟨Nat.le_of_ble_eq_true rfl, Nat.le_of_ble_eq_true rfl⟩ ⟨(Nat.le_of_ble_eq_true rfl), (Nat.le_of_ble_eq_true rfl)⟩ ⟨(Nat.le_of_ble_eq_true rfl), (Nat.le_of_ble_eq_true rfl)⟩ hl.1 (Nat.le_of_ble_eq_true rfl) dX6_compareWords_8 (fun r4 w5 H locs hH hv6 => ?_)
  refine lv_icmp_ge (tgt := 37) hx hb dX6_compareWords_11 (by decide) (fun hc => ?_) (fun hc => ?_)
  · have hv7 := hv6.1 hc
    refine lv_aload_n hx hb dX6_compareWords_37 rfl (lv_at hl 1 rfl) ?_
    refine cl_X6_168 hC hD hH hv7.2 hv7.1 ⟨Nat.le_of_ble_eq_true rfl, Nat.le_of_ble_eq_true rfl⟩ ⟨(Nat.le_of_ble_eq_true rfl), (Nat.le_of_ble_eq_true rfl)⟩ ⟨(Nat.le_of_ble_eq_true rfl), (Nat.le_of_ble_eq_true rfl)⟩ hl.1 (Nat.le_of_ble_eq_true rfl) dX6_compareWords_38 (fun r8 w9 H locs hH hv10 => ?_)
    refine lv_i2l hx hb dX6_compareWords_41 rfl ?_
    refine lv_aload_n hx hb dX6_compareWords_42 rfl (lv_at hl 2 rfl) ?_
    refine cl_X6_168 hC hD hH hv10.2 hv10.1 ⟨Nat.le_of_ble_eq_true rfl, Nat.le_of_ble_eq_true rfl⟩ ⟨(Nat.le_of_ble_eq_true rfl), (Nat.le_of_ble_eq_true rfl)⟩ ⟨(Nat.le_of_ble_eq_true rfl), (Nat.le_of_ble_eq_true rfl)⟩ hl.1 (Nat.le_of_ble_eq_true rfl) dX6_compareWords_43 (fun r11 w12 H locs hH hv13 => ?_)
    refine lv_i2l hx hb dX6_compareWords_46 rfl ?_
    refine lv_iconst (v := 0) hx hb dX6_compareWords_47 (by decide) ?_
    refine cl_X6_265 hC hD hH hv13 ⟨Nat.le_of_ble_eq_true rfl, Nat.le_of_ble_eq_true rfl⟩ ⟨(Nat.le_of_ble_eq_true rfl), (Nat.le_of_ble_eq_true rfl)⟩ ⟨(Nat.le_of_ble_eq_true rfl), (Nat.le_of_ble_eq_true rfl)⟩ hl.1 (Nat.le_of_ble_eq_true rfl) dX6_compareWords_48 (fun r14 w15 H locs hH hv16 => ?_)
    exact sj_retI hC hD.2 hH hr rfl hv16 ⟨(Nat.le_of_ble_eq_true rfl), (Nat.le_of_ble_eq_true rfl)⟩ dX6_compareWords_51
  · have hv17 := hv6.2 hc
    refine lv_iload_n hx hb dX6_compareWords_14 rfl (lv_at hl 0 rfl) ?_
    refine lv_aload_n hx hb dX6_compareWords_15 rfl (lv_at hl 2 rfl) ?_
    refine cl_X6_168 hC hD hH hv17.2 hv17.1 ⟨Nat.le_of_ble_eq_true rfl, Nat.le_of_ble_eq_true rfl⟩ ⟨(Nat.le_of_ble_eq_true rfl), (Nat.le_of_ble_eq_true rfl)⟩ ⟨(Nat.le_of_ble_eq_true rfl), (Nat.le_of_ble_eq_true rfl)⟩ hl.1 (Nat.le_of_ble_eq_true rfl) dX6_compareWords_16 (fun r18 w19 H locs hH hv20 => ?_)
    refine lv_icmp_ge (tgt := 37) hx hb dX6_compareWords_19 (by decide) (fun hc => ?_) (fun hc => ?_)
    · have hv21 := hv20.1 hc
      refine lv_aload_n hx hb dX6_compareWords_37 rfl (lv_at hl 1 rfl) ?_
      refine cl_X6_168 hC hD hH hv21.2 hv21.1 ⟨Nat.le_of_ble_eq_true rfl, Nat.le_of_ble_eq_true rfl⟩ ⟨(Nat.le_of_ble_eq_true rfl), (Nat.le_of_ble_eq_true rfl)⟩ ⟨(Nat.le_of_ble_eq_true rfl), (Nat.le_of_ble_eq_true rfl)⟩ hl.1 (Nat.le_of_ble_eq_true rfl) dX6_compareWords_38 (fun r22 w23 H locs hH hv24 => ?_)
      refine lv_i2l hx hb dX6_compareWords_41 rfl ?_
      refine lv_aload_n hx hb dX6_compareWords_42 rfl (lv_at hl 2 rfl) ?_
      refine cl_X6_168 hC hD hH hv24.2 hv24.1 ⟨Nat.le_of_ble_eq_true rfl, Nat.le_of_ble_eq_true rfl⟩ ⟨(Nat.le_of_ble_eq_true rfl), (Nat.le_of_ble_eq_true rfl)⟩ ⟨(Nat.le_of_ble_eq_true rfl), (Nat.le_of_ble_eq_true rfl)⟩ hl.1 (Nat.le_of_ble_eq_true rfl) dX6_compareWords_43 (fun r25 w26 H locs hH hv27 => ?_)
      refine lv_i2l hx hb dX6_compareWords_46 rfl ?_
      refine lv_iconst (v := 0) hx hb dX6_compareWords_47 (by decide) ?_
      refine cl_X6_265 hC hD hH hv27 ⟨Nat.le_of_ble_eq_true rfl, Nat.le_of_ble_eq_true rfl⟩ ⟨(Nat.le_of_ble_eq_true rfl), (Nat.le_of_ble_eq_true rfl)⟩ ⟨(Nat.le_of_ble_eq_true rfl), (Nat.le_of_ble_eq_true rfl)⟩ hl.1 (Nat.le_of_ble_eq_true rfl) dX6_compareWords_48 (fun r28 w29 H locs hH hv30 => ?_)
      exact sj_retI hC hD.2 hH hr rfl hv30 ⟨(Nat.le_of_ble_eq_true rfl), (Nat.le_of_ble_eq_true rfl)⟩ dX6_compareWords_51
    · have hv31 := hv20.2 hc
      refine lv_aload_n hx hb dX6_compareWords_22 rfl (lv_at hl 1 rfl) ?_
      refine lv_iload_n hx hb dX6_compareWords_23 rfl (lv_at hl 0 rfl) ?_
      refine cl_X6_261 hC hD hH hv31.2 hv31.1 ⟨Nat.le_of_ble_eq_true rfl, Nat.le_of_ble_eq_true rfl⟩ ⟨(Nat.le_of_ble_eq_true rfl), (Nat.le_of_ble_eq_true rfl)⟩ ⟨(Nat.le_of_ble_eq_true rfl), (Nat.le_of_ble_eq_true rfl)⟩ hl.1 (Nat.le_of_ble_eq_true rfl) dX6_compareWords_24 (fun r32 w33 H locs hH hv34 => ?_)
      refine lv_aload_n hx hb dX6_compareWords_27 rfl (lv_at hl 2 rfl) ?_
      refine lv_iload_n hx hb dX6_compareWords_28 rfl (lv_at hl 0 rfl) ?_
      refine cl_X6_261 hC hD hH hv34.2 hv34.1 ⟨Nat.le_of_ble_eq_true rfl, Nat.le_of_ble_eq_true rfl⟩ ⟨(Nat.le_of_ble_eq_true rfl), (Nat.le_of_ble_eq_true rfl)⟩ ⟨(Nat.le_of_ble_eq_true rfl), (Nat.le_of_ble_eq_true rfl)⟩ hl.1 (Nat.le_of_ble_eq_true rfl) dX6_compareWords_29 (fun r35 w36 H locs hH hv37 => ?_)
      refine lv_iload_n hx hb dX6_compareWords_32 rfl (lv_at hl 3 rfl) ?_
      refine cl_X6_265 hC hD hH hv37 ⟨Nat.le_of_ble_eq_true rfl, Nat.le_of_ble_eq_true rfl⟩ ⟨(Nat.le_of_ble_eq_true rfl), (Nat.le_of_ble_eq_true rfl)⟩ ⟨(Nat.le_of_ble_eq_true rfl), (Nat.le_of_ble_eq_true rfl)⟩ hl.1 (Nat.le_of_ble_eq_true rfl) dX6_compareWords_33 (fun r38 w39 H locs hH hv40 => ?_)
      exact sj_retI hC hD.2 hH hr rfl hv40 ⟨(Nat.le_of_ble_eq_true rfl), (Nat.le_of_ble_eq_true rfl)⟩ dX6_compareWords_36
section SJL_X6_compareWords
variable {p : Program} {l : Launch} {e : Env} {R : Room} {s : State} {m : MethodId} {args : Array Value} {below : List Frame} {meth : Method} {c : Code} {H : Heap} {locs : List Loc} {cells slots : Nat} {Q : State → Prop} {cc : ByteArray} {pc : Nat} {ls : Array Slot} {rest : List Value} {G : sj_G} {nL : Nat} {w : sj_W}
theorem cl_X6_140 {rmM : Room} {QcM : Array Value → State → Outcome → State → Prop} {QX : String → sj_W → Prop} {b0 : Nat} {b1 : Nat} {b2 : Int32} {Qi : Int32 → sj_W → Prop} (hC : sj_C G p l s m args c cc RX6 nL) (hD : sj_D meth c) (hH : sj_H G s w H locs) (hv : vc_X6_compareWords b0 b1 b2 w Qi) (hR : rm_X6_compareWords.frames + 1 ≤ R.frames ∧ 8 + (4 + 11) + rm_X6_compareWords.locals ≤ R.locals) (hf : cells + 0 ≤ R.cells ∧ slots + 0 ≤ R.slots) (hfM : cells + 0 ≤ rmM.cells ∧ slots + 0 ≤ rmM.slots) (hls : ls.size = nL) (hW : (rest.map fun v => v.category).sum ≤ 8) (hdg : decode cc pc = .ok (.invokestatic 140, 3)) (kk : ∀ (r : Int32) (w1 : sj_W) (H : Heap) (locs : List Loc), sj_H G s w1 H locs → Qi r w1 → W p l e R s m args below meth c H locs (cells + 0) (slots + 0) (sj_MQ G below QcM QX args s rmM) (F0 m (pc + 3) ls (.int r :: rest))) : W p l e R s m args below meth c H locs cells slots (sj_MQ G below QcM QX args s rmM) (F0 m pc ls (.int b2 :: .ref b1 :: .ref b0 :: rest)) :=
  sj_cI hD hH (sj_runS (n := 3) hC hH (As := [.ref b0, .ref b1, .int b2]) (wk_X6_compareWords G l hC.2.2.2.2.2.2 b0 b1 b2 w Qi QX hv) mb_414 mb_415 mb_1 mb_416 (by decide +kernel) hR hf rfl hls hW hdg) hfM kk
theorem cl_X5_52 {rmM : Room} {QcM : Array Value → State → Outcome → State → Prop} {QX : String → sj_W → Prop} {b0 : Nat} {b1 : Nat} {b2 : Int32} {Qi : Int32 → sj_W → Prop} (hC : sj_C G p l s m args c cc RX5 nL) (hD : sj_D meth c) (hH : sj_H G s w H locs) (hv : vc_X6_compareWords b0 b1 b2 w Qi) (hR : rm_X6_compareWords.frames + 1 ≤ R.frames ∧ 8 + (4 + 11) + rm_X6_compareWords.locals ≤ R.locals) (hf : cells + 0 ≤ R.cells ∧ slots + 0 ≤ R.slots) (hfM : cells + 0 ≤ rmM.cells ∧ slots + 0 ≤ rmM.slots) (hls : ls.size = nL) (hW : (rest.map fun v => v.category).sum ≤ 8) (hdg : decode cc pc = .ok (.invokestatic 52, 3)) (kk : ∀ (r : Int32) (w1 : sj_W) (H : Heap) (locs : List Loc), sj_H G s w1 H locs → Qi r w1 → W p l e R s m args below meth c H locs (cells + 0) (slots + 0) (sj_MQ G below QcM QX args s rmM) (F0 m (pc + 3) ls (.int r :: rest))) : W p l e R s m args below meth c H locs cells slots (sj_MQ G below QcM QX args s rmM) (F0 m pc ls (.int b2 :: .ref b1 :: .ref b0 :: rest)) :=
  sj_cI hD hH (sj_runSN (n := 3) hC hH (As := [.ref b0, .ref b1, .int b2]) (wk_X6_compareWords G l hC.2.2.2.2.2.2 b0 b1 b2 w Qi QX hv) mb_645 mb_415 mb_1 mb_416 (by decide +kernel) hR hf rfl hls hW hdg) hfM kk
end SJL_X6_compareWords
abbrev rm_X6_mismatch : Room := { frames := 2, cells := 0, slots := 0, locals := 44 }
def vc_X6_mismatch (a1 : Nat) (a2 : Nat) (w : sj_W) (Q : Int32 → sj_W → Prop) : Prop := vc_X6_alike a1 a2 w (fun r1 w2 => sj_T w2 a1 = 4 ∧ vc_X4_size a1 w2 (fun r4 w5 => ((¬ r1 = r4 → Q r1 w5) ∧ (r1 = r4 → sj_T w5 a2 = 4 ∧ vc_X4_size a2 w5 (fun r9 w10 => ((¬ r1 = r9 → Q r1 w10) ∧ (r1 = r9 → Q (-1) w10)))))))
set_option maxHeartbeats 4000000 in
set_option maxRecDepth 100000 in
theorem wk_X6_mismatch (G : sj_G) (l : Launch) (hlt : l.stackTraces = false) (a1 : Nat) (a2 : Nat) (w : sj_W) (Q : Int32 → sj_W → Prop) (QX : String → sj_W → Prop) (hv : vc_X6_mismatch a1 a2 w Q) : sj_MI G l yX6_mismatch (sj_ws yX6_mismatch cX6_mismatch 3 (some .int)) rm_X6_mismatch [.ref a1, .ref a2] w Q QX := by
  refine sj_of (by decide +kernel) (Nat.le_of_ble_eq_true rfl) hlt ?_
  intro p e s m args below meth c ls hC hD hr hin hH hl
  have hx := hC.1
  have hb := hC.2.1
  have hl : lv_has ls 3 [(0, .ref a1), (1, .ref a2)] := hl
  refine lv_aload_n hx hb dX6_mismatch_0 rfl (lv_at hl 0 rfl) ?_
  refine lv_aload_n hx hb dX6_mismatch_1 rfl (lv_at hl 1 rfl) ?_
  refine cl_X6_129 hC hD hH hv ⟨Nat.le_of_ble_eq_true rfl, Nat.le_of_ble_eq_true rfl⟩ ⟨(Nat.le_of_ble_eq_true rfl), (Nat.le_of_ble_eq_true rfl)⟩ ⟨(Nat.le_of_ble_eq_true rfl), (Nat.le_of_ble_eq_true rfl)⟩ hl.1 (Nat.le_of_ble_eq_true rfl) dX6_mismatch_2 (fun r1 w2 H locs hH hv3 => ?_)
  refine lv_istore_n (lv' := [(2, .int r1), (0, .ref a1), (1, .ref a2)]) hx hb dX6_mismatch_5 rfl hl (by decide) rfl (fun ls hl => ?_)
  refine lv_iload_n hx hb dX6_mismatch_6 rfl (lv_at hl 0 rfl) ?_
  refine lv_aload_n hx hb dX6_mismatch_7 rfl (lv_at hl 1 rfl) ?_
  refine cl_X6_168 hC hD hH hv3.2 hv3.1 ⟨Nat.le_of_ble_eq_true rfl, Nat.le_of_ble_eq_true rfl⟩ ⟨(Nat.le_of_ble_eq_true rfl), (Nat.le_of_ble_eq_true rfl)⟩ ⟨(Nat.le_of_ble_eq_true rfl), (Nat.le_of_ble_eq_true rfl)⟩ hl.1 (Nat.le_of_ble_eq_true rfl) dX6_mismatch_8 (fun r4 w5 H locs hH hv6 => ?_)
  refine lv_icmp_ne (tgt := 26) hx hb dX6_mismatch_11 (by decide) (fun hc => ?_) (fun hc => ?_)
  · have hv7 := hv6.1 hc
    refine lv_iload_n hx hb dX6_mismatch_26 rfl (lv_at hl 0 rfl) ?_
    exact sj_retI hC hD.2 hH hr rfl hv7 ⟨(Nat.le_of_ble_eq_true rfl), (Nat.le_of_ble_eq_true rfl)⟩ dX6_mismatch_27
  · have hv8 := hv6.2 hc
    refine lv_iload_n hx hb dX6_mismatch_14 rfl (lv_at hl 0 rfl) ?_
    refine lv_aload_n hx hb dX6_mismatch_15 rfl (lv_at hl 2 rfl) ?_
    refine cl_X6_168 hC hD hH hv8.2 hv8.1 ⟨Nat.le_of_ble_eq_true rfl, Nat.le_of_ble_eq_true rfl⟩ ⟨(Nat.le_of_ble_eq_true rfl), (Nat.le_of_ble_eq_true rfl)⟩ ⟨(Nat.le_of_ble_eq_true rfl), (Nat.le_of_ble_eq_true rfl)⟩ hl.1 (Nat.le_of_ble_eq_true rfl) dX6_mismatch_16 (fun r9 w10 H locs hH hv11 => ?_)
    refine lv_icmp_ne (tgt := 26) hx hb dX6_mismatch_19 (by decide) (fun hc => ?_) (fun hc => ?_)
    · have hv12 := hv11.1 hc
      refine lv_iload_n hx hb dX6_mismatch_26 rfl (lv_at hl 0 rfl) ?_
      exact sj_retI hC hD.2 hH hr rfl hv12 ⟨(Nat.le_of_ble_eq_true rfl), (Nat.le_of_ble_eq_true rfl)⟩ dX6_mismatch_27
    · have hv13 := hv11.2 hc
      refine lv_iconst (v := (-1)) hx hb dX6_mismatch_22 (by decide) ?_
      refine lv_goto (tgt := 27) hx hb dX6_mismatch_23 (by decide) ?_
      exact sj_retI hC hD.2 hH hr rfl hv13 ⟨(Nat.le_of_ble_eq_true rfl), (Nat.le_of_ble_eq_true rfl)⟩ dX6_mismatch_27
section SJL_X6_mismatch
variable {p : Program} {l : Launch} {e : Env} {R : Room} {s : State} {m : MethodId} {args : Array Value} {below : List Frame} {meth : Method} {c : Code} {H : Heap} {locs : List Loc} {cells slots : Nat} {Q : State → Prop} {cc : ByteArray} {pc : Nat} {ls : Array Slot} {rest : List Value} {G : sj_G} {nL : Nat} {w : sj_W}
theorem cl_X6_269 {rmM : Room} {QcM : Array Value → State → Outcome → State → Prop} {QX : String → sj_W → Prop} {b0 : Nat} {b1 : Nat} {Qi : Int32 → sj_W → Prop} (hC : sj_C G p l s m args c cc RX6 nL) (hD : sj_D meth c) (hH : sj_H G s w H locs) (hv : vc_X6_mismatch b0 b1 w Qi) (hR : rm_X6_mismatch.frames + 1 ≤ R.frames ∧ 8 + (3 + 11) + rm_X6_mismatch.locals ≤ R.locals) (hf : cells + 0 ≤ R.cells ∧ slots + 0 ≤ R.slots) (hfM : cells + 0 ≤ rmM.cells ∧ slots + 0 ≤ rmM.slots) (hls : ls.size = nL) (hW : (rest.map fun v => v.category).sum ≤ 8) (hdg : decode cc pc = .ok (.invokestatic 269, 3)) (kk : ∀ (r : Int32) (w1 : sj_W) (H : Heap) (locs : List Loc), sj_H G s w1 H locs → Qi r w1 → W p l e R s m args below meth c H locs (cells + 0) (slots + 0) (sj_MQ G below QcM QX args s rmM) (F0 m (pc + 3) ls (.int r :: rest))) : W p l e R s m args below meth c H locs cells slots (sj_MQ G below QcM QX args s rmM) (F0 m pc ls (.ref b1 :: .ref b0 :: rest)) :=
  sj_cI hD hH (sj_runS (n := 2) hC hH (As := [.ref b0, .ref b1]) (wk_X6_mismatch G l hC.2.2.2.2.2.2 b0 b1 w Qi QX hv) mb_421 mb_422 mb_1 mb_423 (by decide +kernel) hR hf rfl hls hW hdg) hfM kk
theorem cl_X5_37 {rmM : Room} {QcM : Array Value → State → Outcome → State → Prop} {QX : String → sj_W → Prop} {b0 : Nat} {b1 : Nat} {Qi : Int32 → sj_W → Prop} (hC : sj_C G p l s m args c cc RX5 nL) (hD : sj_D meth c) (hH : sj_H G s w H locs) (hv : vc_X6_mismatch b0 b1 w Qi) (hR : rm_X6_mismatch.frames + 1 ≤ R.frames ∧ 8 + (3 + 11) + rm_X6_mismatch.locals ≤ R.locals) (hf : cells + 0 ≤ R.cells ∧ slots + 0 ≤ R.slots) (hfM : cells + 0 ≤ rmM.cells ∧ slots + 0 ≤ rmM.slots) (hls : ls.size = nL) (hW : (rest.map fun v => v.category).sum ≤ 8) (hdg : decode cc pc = .ok (.invokestatic 37, 3)) (kk : ∀ (r : Int32) (w1 : sj_W) (H : Heap) (locs : List Loc), sj_H G s w1 H locs → Qi r w1 → W p l e R s m args below meth c H locs (cells + 0) (slots + 0) (sj_MQ G below QcM QX args s rmM) (F0 m (pc + 3) ls (.int r :: rest))) : W p l e R s m args below meth c H locs cells slots (sj_MQ G below QcM QX args s rmM) (F0 m pc ls (.ref b1 :: .ref b0 :: rest)) :=
  sj_cI hD hH (sj_runSN (n := 2) hC hH (As := [.ref b0, .ref b1]) (wk_X6_mismatch G l hC.2.2.2.2.2.2 b0 b1 w Qi QX hv) mb_641 mb_422 mb_1 mb_423 (by decide +kernel) hR hf rfl hls hW hdg) hfM kk
end SJL_X6_mismatch
abbrev rm_X6_answer : Room := { frames := 3, cells := 0, slots := 0, locals := 67 }
def vc_X6_answer (a1 : Int32) (a2 : Nat) (a3 : Nat) (w : sj_W) (Q : Int32 → sj_W → Prop) : Prop := ((a1 = 99 → vc_X6_compareWords a2 a3 0 w (fun r2 w3 => Q r2 w3)) ∧ (a1 = 101 → vc_X6_isSame a2 a3 w (fun r6 w7 => ((r6 = 0 → Q 0 w7) ∧ (¬ r6 = 0 → Q 1 w7)))) ∧ (a1 = 117 → vc_X6_compareWords a2 a3 1 w (fun r12 w13 => Q r12 w13)) ∧ (¬ a1 = 99 ∧ ¬ a1 = 101 ∧ ¬ a1 = 117 → vc_X6_mismatch a2 a3 w (fun r16 w17 => Q r16 w17)))
set_option maxHeartbeats 4000000 in
set_option maxRecDepth 100000 in
theorem wk_X6_answer (G : sj_G) (l : Launch) (hlt : l.stackTraces = false) (a1 : Int32) (a2 : Nat) (a3 : Nat) (w : sj_W) (Q : Int32 → sj_W → Prop) (QX : String → sj_W → Prop) (hv : vc_X6_answer a1 a2 a3 w Q) : sj_MI G l yX6_answer (sj_ws yX6_answer cX6_answer 3 (some .int)) rm_X6_answer [.int a1, .ref a2, .ref a3] w Q QX := by
  refine sj_of (by decide +kernel) (Nat.le_of_ble_eq_true rfl) hlt ?_
  intro p e s m args below meth c ls hC hD hr hin hH hl
  have hx := hC.1
  have hb := hC.2.1
  have hl : lv_has ls 3 [(0, .int a1), (1, .ref a2), (2, .ref a3)] := hl
  refine lv_iload_n hx hb dX6_answer_0 rfl (lv_at hl 0 rfl) ?_
  by_cases hc0 : a1 = 99
  · have hv1 := hv.1 hc0
    refine lv_lookup (off := 49) (tgt := 50) hx hb dX6_answer_1 (by decide) (by rw [hc0]; decide) (by decide) ?_
    refine lv_aload_n hx hb dX6_answer_50 rfl (lv_at hl 1 rfl) ?_
    refine lv_aload_n hx hb dX6_answer_51 rfl (lv_at hl 2 rfl) ?_
    refine lv_iconst (v := 0) hx hb dX6_answer_52 (by decide) ?_
    refine cl_X6_140 hC hD hH hv1 ⟨Nat.le_of_ble_eq_true rfl, Nat.le_of_ble_eq_true rfl⟩ ⟨(Nat.le_of_ble_eq_true rfl), (Nat.le_of_ble_eq_true rfl)⟩ ⟨(Nat.le_of_ble_eq_true rfl), (Nat.le_of_ble_eq_true rfl)⟩ hl.1 (Nat.le_of_ble_eq_true rfl) dX6_answer_53 (fun r2 w3 H locs hH hv4 => ?_)
    exact sj_retI hC hD.2 hH hr rfl hv4 ⟨(Nat.le_of_ble_eq_true rfl), (Nat.le_of_ble_eq_true rfl)⟩ dX6_answer_56
  · skip
    by_cases hc1 : a1 = 101
    · have hv5 := hv.2.1 hc1
      refine lv_lookup (off := 35) (tgt := 36) hx hb dX6_answer_1 (by decide) (by rw [hc1]; decide) (by decide) ?_
      refine lv_aload_n hx hb dX6_answer_36 rfl (lv_at hl 1 rfl) ?_
      refine lv_aload_n hx hb dX6_answer_37 rfl (lv_at hl 2 rfl) ?_
      refine cl_X6_243 hC hD hH hv5 ⟨Nat.le_of_ble_eq_true rfl, Nat.le_of_ble_eq_true rfl⟩ ⟨(Nat.le_of_ble_eq_true rfl), (Nat.le_of_ble_eq_true rfl)⟩ ⟨(Nat.le_of_ble_eq_true rfl), (Nat.le_of_ble_eq_true rfl)⟩ hl.1 (Nat.le_of_ble_eq_true rfl) dX6_answer_38 (fun r6 w7 H locs hH hv8 => ?_)
      refine lv_if_eq (tgt := 48) hx hb dX6_answer_41 (by decide) (fun hc => ?_) (fun hc => ?_)
      · have hv9 := hv8.1 hc
        refine lv_iconst (v := 0) hx hb dX6_answer_48 (by decide) ?_
        exact sj_retI hC hD.2 hH hr rfl hv9 ⟨(Nat.le_of_ble_eq_true rfl), (Nat.le_of_ble_eq_true rfl)⟩ dX6_answer_49
      · have hv10 := hv8.2 hc
        refine lv_iconst (v := 1) hx hb dX6_answer_44 (by decide) ?_
        refine lv_goto (tgt := 49) hx hb dX6_answer_45 (by decide) ?_
        exact sj_retI hC hD.2 hH hr rfl hv10 ⟨(Nat.le_of_ble_eq_true rfl), (Nat.le_of_ble_eq_true rfl)⟩ dX6_answer_49
    · skip
      by_cases hc2 : a1 = 117
      · have hv11 := hv.2.2.1 hc2
        refine lv_lookup (off := 56) (tgt := 57) hx hb dX6_answer_1 (by decide) (by rw [hc2]; decide) (by decide) ?_
        refine lv_aload_n hx hb dX6_answer_57 rfl (lv_at hl 1 rfl) ?_
        refine lv_aload_n hx hb dX6_answer_58 rfl (lv_at hl 2 rfl) ?_
        refine lv_iconst (v := 1) hx hb dX6_answer_59 (by decide) ?_
        refine cl_X6_140 hC hD hH hv11 ⟨Nat.le_of_ble_eq_true rfl, Nat.le_of_ble_eq_true rfl⟩ ⟨(Nat.le_of_ble_eq_true rfl), (Nat.le_of_ble_eq_true rfl)⟩ ⟨(Nat.le_of_ble_eq_true rfl), (Nat.le_of_ble_eq_true rfl)⟩ hl.1 (Nat.le_of_ble_eq_true rfl) dX6_answer_60 (fun r12 w13 H locs hH hv14 => ?_)
        exact sj_retI hC hD.2 hH hr rfl hv14 ⟨(Nat.le_of_ble_eq_true rfl), (Nat.le_of_ble_eq_true rfl)⟩ dX6_answer_63
      · skip
        have hv15 := hv.2.2.2 ⟨hc0, hc1, hc2⟩
        refine lv_lookup (off := 63) (tgt := 64) hx hb dX6_answer_1 (by decide) (sj_off3 (sj_ne hc0 (by decide)) (sj_ne hc1 (by decide)) (sj_ne hc2 (by decide))) (by decide) ?_
        refine lv_aload_n hx hb dX6_answer_64 rfl (lv_at hl 1 rfl) ?_
        refine lv_aload_n hx hb dX6_answer_65 rfl (lv_at hl 2 rfl) ?_
        refine cl_X6_269 hC hD hH hv15 ⟨Nat.le_of_ble_eq_true rfl, Nat.le_of_ble_eq_true rfl⟩ ⟨(Nat.le_of_ble_eq_true rfl), (Nat.le_of_ble_eq_true rfl)⟩ ⟨(Nat.le_of_ble_eq_true rfl), (Nat.le_of_ble_eq_true rfl)⟩ hl.1 (Nat.le_of_ble_eq_true rfl) dX6_answer_66 (fun r16 w17 H locs hH hv18 => ?_)
        exact sj_retI hC hD.2 hH hr rfl hv18 ⟨(Nat.le_of_ble_eq_true rfl), (Nat.le_of_ble_eq_true rfl)⟩ dX6_answer_69
section SJL_X6_answer
variable {p : Program} {l : Launch} {e : Env} {R : Room} {s : State} {m : MethodId} {args : Array Value} {below : List Frame} {meth : Method} {c : Code} {H : Heap} {locs : List Loc} {cells slots : Nat} {Q : State → Prop} {cc : ByteArray} {pc : Nat} {ls : Array Slot} {rest : List Value} {G : sj_G} {nL : Nat} {w : sj_W}
theorem cl_X6_120 {rmM : Room} {QcM : Array Value → State → Outcome → State → Prop} {QX : String → sj_W → Prop} {b0 : Int32} {b1 : Nat} {b2 : Nat} {Qi : Int32 → sj_W → Prop} (hC : sj_C G p l s m args c cc RX6 nL) (hD : sj_D meth c) (hH : sj_H G s w H locs) (hv : vc_X6_answer b0 b1 b2 w Qi) (hR : rm_X6_answer.frames + 1 ≤ R.frames ∧ 8 + (3 + 11) + rm_X6_answer.locals ≤ R.locals) (hf : cells + 0 ≤ R.cells ∧ slots + 0 ≤ R.slots) (hfM : cells + 0 ≤ rmM.cells ∧ slots + 0 ≤ rmM.slots) (hls : ls.size = nL) (hW : (rest.map fun v => v.category).sum ≤ 8) (hdg : decode cc pc = .ok (.invokestatic 120, 3)) (kk : ∀ (r : Int32) (w1 : sj_W) (H : Heap) (locs : List Loc), sj_H G s w1 H locs → Qi r w1 → W p l e R s m args below meth c H locs (cells + 0) (slots + 0) (sj_MQ G below QcM QX args s rmM) (F0 m (pc + 3) ls (.int r :: rest))) : W p l e R s m args below meth c H locs cells slots (sj_MQ G below QcM QX args s rmM) (F0 m pc ls (.ref b2 :: .ref b1 :: .int b0 :: rest)) :=
  sj_cI hD hH (sj_runS (n := 3) hC hH (As := [.int b0, .ref b1, .ref b2]) (wk_X6_answer G l hC.2.2.2.2.2.2 b0 b1 b2 w Qi QX hv) mb_394 mb_395 mb_1 mb_396 (by decide +kernel) hR hf rfl hls hW hdg) hfM kk
end SJL_X6_answer
abbrev rm_X6_asks : Room := { frames := 7, cells := 6, slots := 36, locals := 104 }
def vc_X6_asks (self : Nat) (a1 : Int32) (a2 : Int32) (a3 : Int32) (a4 : Int32) (w : sj_W) (Q : Int32 → sj_W → Prop) (QX : String → sj_W → Prop) : Prop := vc_X6_kindOf a1 w (fun r1 w2 => vc_X6_wantQuestion a2 w2 (fun w5 => sj_T w5 self = 5 ∧ vc_X6_spanOf self a3 w5 (fun r7 w8 => sj_T w8 self = 5 ∧ vc_X6_spanOf self a4 w8 (fun r10 w11 => sj_T w11 self = 5 ∧ vc_X6_fittingWord self r1 r7 w11 (fun r13 w14 => sj_T w14 self = 5 ∧ vc_X6_fittingWord self r1 r10 w14 (fun r16 w17 => vc_X6_answer a2 r13 r16 w17 (fun r19 w20 => Q r19 w20)) QX) QX) QX) QX) QX) QX
set_option maxHeartbeats 4000000 in
set_option maxRecDepth 100000 in
theorem wk_X6_asks (G : sj_G) (l : Launch) (hlt : l.stackTraces = false) (self : Nat) (a1 : Int32) (a2 : Int32) (a3 : Int32) (a4 : Int32) (w : sj_W) (Q : Int32 → sj_W → Prop) (QX : String → sj_W → Prop) (hv : vc_X6_asks self a1 a2 a3 a4 w Q QX) : sj_MI G l yX6_asks (sj_ws yX6_asks cX6_asks 8 (some .int)) rm_X6_asks [.ref self, .int a1, .int a2, .int a3, .int a4] w Q QX := by
  refine sj_of (by decide +kernel) (Nat.le_of_ble_eq_true rfl) hlt ?_
  intro p e s m args below meth c ls hC hD hr hin hH hl
  have hx := hC.1
  have hb := hC.2.1
  have hl : lv_has ls 8 [(0, .ref self), (1, .int a1), (2, .int a2), (3, .int a3), (4, .int a4)] := hl
  refine lv_iload_n hx hb dX6_asks_0 rfl (lv_at hl 1 rfl) ?_
  refine cl_X6_34 hC hD hH hv ⟨Nat.le_of_ble_eq_true rfl, Nat.le_of_ble_eq_true rfl⟩ ⟨(Nat.le_of_ble_eq_true rfl), (Nat.le_of_ble_eq_true rfl)⟩ ⟨(Nat.le_of_ble_eq_true rfl), (Nat.le_of_ble_eq_true rfl)⟩ hl.1 (Nat.le_of_ble_eq_true rfl) dX6_asks_1 (fun r1 w2 H locs hH hv3 => ?_)
  refine lv_istore (lv' := [(5, .int r1), (0, .ref self), (1, .int a1), (2, .int a2), (3, .int a3), (4, .int a4)]) hx hb dX6_asks_4 hl (by decide) rfl (fun ls hl => ?_)
  refine lv_iload_n hx hb dX6_asks_6 rfl (lv_at hl 3 rfl) ?_
  refine cl_X6_112 hC hD hH hv3 ⟨Nat.le_of_ble_eq_true rfl, Nat.le_of_ble_eq_true rfl⟩ ⟨(Nat.le_of_ble_eq_true rfl), (Nat.le_of_ble_eq_true rfl)⟩ ⟨(Nat.le_of_ble_eq_true rfl), (Nat.le_of_ble_eq_true rfl)⟩ hl.1 (Nat.le_of_ble_eq_true rfl) dX6_asks_7 (fun w5 H locs hH hv6 => ?_)
  refine lv_aload_n hx hb dX6_asks_10 rfl (lv_at hl 1 rfl) ?_
  refine lv_iload_n hx hb dX6_asks_11 rfl (lv_at hl 4 rfl) ?_
  refine cl_X6_89 hC hD hH hv6.2 hv6.1 ⟨Nat.le_of_ble_eq_true rfl, Nat.le_of_ble_eq_true rfl⟩ ⟨(Nat.le_of_ble_eq_true rfl), (Nat.le_of_ble_eq_true rfl)⟩ ⟨(Nat.le_of_ble_eq_true rfl), (Nat.le_of_ble_eq_true rfl)⟩ hl.1 (Nat.le_of_ble_eq_true rfl) dX6_asks_12 (fun r7 w8 H locs hH hv9 => ?_)
  refine lv_astore (lv' := [(6, .ref r7), (5, .int r1), (0, .ref self), (1, .int a1), (2, .int a2), (3, .int a3), (4, .int a4)]) hx hb dX6_asks_15 hl (by decide) rfl (fun ls hl => ?_)
  refine lv_aload_n hx hb dX6_asks_17 rfl (lv_at hl 2 rfl) ?_
  refine lv_iload hx hb dX6_asks_18 (lv_at hl 6 rfl) ?_
  refine cl_X6_89 hC hD hH hv9.2 hv9.1 ⟨Nat.le_of_ble_eq_true rfl, Nat.le_of_ble_eq_true rfl⟩ ⟨(Nat.le_of_ble_eq_true rfl), (Nat.le_of_ble_eq_true rfl)⟩ ⟨(Nat.le_of_ble_eq_true rfl), (Nat.le_of_ble_eq_true rfl)⟩ hl.1 (Nat.le_of_ble_eq_true rfl) dX6_asks_20 (fun r10 w11 H locs hH hv12 => ?_)
  refine lv_astore (lv' := [(7, .ref r10), (6, .ref r7), (5, .int r1), (0, .ref self), (1, .int a1), (2, .int a2), (3, .int a3), (4, .int a4)]) hx hb dX6_asks_23 hl (by decide) rfl (fun ls hl => ?_)
  refine lv_iload_n hx hb dX6_asks_25 rfl (lv_at hl 5 rfl) ?_
  refine lv_aload_n hx hb dX6_asks_26 rfl (lv_at hl 3 rfl) ?_
  refine lv_iload hx hb dX6_asks_27 (lv_at hl 2 rfl) ?_
  refine lv_aload hx hb dX6_asks_29 (lv_at hl 1 rfl) ?_
  refine cl_X6_116 hC hD hH hv12.2 hv12.1 ⟨Nat.le_of_ble_eq_true rfl, Nat.le_of_ble_eq_true rfl⟩ ⟨(Nat.le_of_ble_eq_true rfl), (Nat.le_of_ble_eq_true rfl)⟩ ⟨(Nat.le_of_ble_eq_true rfl), (Nat.le_of_ble_eq_true rfl)⟩ hl.1 (Nat.le_of_ble_eq_true rfl) dX6_asks_31 (fun r13 w14 H locs hH hv15 => ?_)
  refine lv_aload_n hx hb dX6_asks_34 rfl (lv_at hl 3 rfl) ?_
  refine lv_iload hx hb dX6_asks_35 (lv_at hl 2 rfl) ?_
  refine lv_aload hx hb dX6_asks_37 (lv_at hl 0 rfl) ?_
  refine cl_X6_116 hC hD hH hv15.2 hv15.1 ⟨Nat.le_of_ble_eq_true rfl, Nat.le_of_ble_eq_true rfl⟩ ⟨(Nat.le_of_ble_eq_true rfl), (Nat.le_of_ble_eq_true rfl)⟩ ⟨(Nat.le_of_ble_eq_true rfl), (Nat.le_of_ble_eq_true rfl)⟩ hl.1 (Nat.le_of_ble_eq_true rfl) dX6_asks_39 (fun r16 w17 H locs hH hv18 => ?_)
  refine cl_X6_120 hC hD hH hv18 ⟨Nat.le_of_ble_eq_true rfl, Nat.le_of_ble_eq_true rfl⟩ ⟨(Nat.le_of_ble_eq_true rfl), (Nat.le_of_ble_eq_true rfl)⟩ ⟨(Nat.le_of_ble_eq_true rfl), (Nat.le_of_ble_eq_true rfl)⟩ hl.1 (Nat.le_of_ble_eq_true rfl) dX6_asks_42 (fun r19 w20 H locs hH hv21 => ?_)
  exact sj_retI hC hD.2 hH hr rfl hv21 ⟨(Nat.le_of_ble_eq_true rfl), (Nat.le_of_ble_eq_true rfl)⟩ dX6_asks_45
section SJL_X6_asks
variable {p : Program} {l : Launch} {e : Env} {R : Room} {s : State} {m : MethodId} {args : Array Value} {below : List Frame} {meth : Method} {c : Code} {H : Heap} {locs : List Loc} {cells slots : Nat} {Q : State → Prop} {cc : ByteArray} {pc : Nat} {ls : Array Slot} {rest : List Value} {G : sj_G} {nL : Nat} {w : sj_W}
theorem cx_L_61 {QX : String → sj_W → Prop} {b : Nat} {b0 : Int32} {b1 : Int32} {b2 : Int32} {b3 : Int32} {Qi : Int32 → sj_W → Prop} (hC : sj_C G p l s m args c cc RL nL) (hH : sj_H G s w H locs) (hv : vc_X6_asks b b0 b1 b2 b3 w Qi QX) (hT : sj_T w b = 5) (hR : rm_X6_asks.frames + 1 ≤ R.frames ∧ 8 + (8 + 11) + rm_X6_asks.locals ≤ R.locals) (hf : cells + 6 ≤ R.cells ∧ slots + 36 ≤ R.slots) (hls : ls.size = nL) (hW : (rest.map fun v => v.category).sum ≤ 8) (hdg : decode cc pc = .ok (.invokevirtual 61, 3)) (kx : ∀ (E : String) (ce : Cell) (q9 : Addr) (w1 : sj_W) (H1 : Heap) (locs1 : List Loc), sj_H G s w1 H1 locs1 → QX E w1 → H1[q9]? = some ce → ce.vm = .none → s.vm.findClass E = some ce.cls → vx_W p l e R s m args below meth c H1 locs1 (cells + 6) (slots + 36) Q (F0 m pc ls rest) q9) (kk : ∀ (r : Int32) (w1 : sj_W) (H : Heap) (locs : List Loc), sj_H G s w1 H locs → Qi r w1 → W p l e R s m args below meth c H locs (cells + 6) (slots + 36) Q (F0 m (pc + 3) ls (.int r :: rest))) : W p l e R s m args below meth c H locs cells slots Q (F0 m pc ls (.int b3 :: .int b2 :: .int b1 :: .int b0 :: .ref b :: rest)) :=
  sj_xI hH (sj_runV (n := 4) hC hH (As := [.int b0, .int b1, .int b2, .int b3]) (wk_X6_asks G l hC.2.2.2.2.2.2 b b0 b1 b2 b3 w Qi QX hv) (ci := 4) rfl (by decide) hT mb_361 mb_362 mb_363 mb_1 mb_364 (by decide +kernel) hR hf rfl hls hW hdg) kx kk
end SJL_X6_asks
abbrev rm_X6_asksRows : Room := { frames := 8, cells := 6, slots := 30, locals := 124 }
def vc_X6_asksRows (self : Nat) (a1 : Int32) (a2 : Int32) (a3 : Int32) (a4 : Int32) (w : sj_W) (Q : Int32 → sj_W → Prop) (QX : String → sj_W → Prop) : Prop := vc_X6_kindOf a1 w (fun r1 w2 => vc_X6_wantQuestion a2 w2 (fun w5 => sj_T w5 self = 5 ∧ vc_X6_rowOf self r1 a3 w5 (fun r7 w8 => sj_T w8 self = 5 ∧ vc_X6_rowOf self r1 a4 w8 (fun r10 w11 => ∀ q13 : Nat, q13 ≠ 0 → sj_T w11 q13 = 0 → ∀ w14 : sj_W, w14 = sj_nw w11 q13 4 0 → sj_T w14 r7 = 2 ∧ sj_A w14 8 r7 ≠ 0 ∧ sj_T w14 r7 = 2 ∧ vc_X4_init q13 (sj_A w14 8 r7) 0 (sj_I w14 9 r7) w14 (fun w19 => ∀ q21 : Nat, q21 ≠ 0 → sj_T w19 q21 = 0 → ∀ w22 : sj_W, w22 = sj_nw w19 q21 4 0 → sj_T w22 r10 = 2 ∧ sj_A w22 8 r10 ≠ 0 ∧ sj_T w22 r10 = 2 ∧ vc_X4_init q21 (sj_A w22 8 r10) 0 (sj_I w22 9 r10) w22 (fun w27 => vc_X6_answer a2 q13 q21 w27 (fun r29 w30 => Q r29 w30)))) QX) QX) QX) QX
set_option maxHeartbeats 4000000 in
set_option maxRecDepth 100000 in
theorem wk_X6_asksRows (G : sj_G) (l : Launch) (hlt : l.stackTraces = false) (self : Nat) (a1 : Int32) (a2 : Int32) (a3 : Int32) (a4 : Int32) (w : sj_W) (Q : Int32 → sj_W → Prop) (QX : String → sj_W → Prop) (hv : vc_X6_asksRows self a1 a2 a3 a4 w Q QX) : sj_MI G l yX6_asksRows (sj_ws yX6_asksRows cX6_asksRows 8 (some .int)) rm_X6_asksRows [.ref self, .int a1, .int a2, .int a3, .int a4] w Q QX := by
  refine sj_of (by decide +kernel) (Nat.le_of_ble_eq_true rfl) hlt ?_
  intro p e s m args below meth c ls hC hD hr hin hH hl
  have hx := hC.1
  have hb := hC.2.1
  have hl : lv_has ls 8 [(0, .ref self), (1, .int a1), (2, .int a2), (3, .int a3), (4, .int a4)] := hl
  refine lv_iload_n hx hb dX6_asksRows_0 rfl (lv_at hl 1 rfl) ?_
  refine cl_X6_34 hC hD hH hv ⟨Nat.le_of_ble_eq_true rfl, Nat.le_of_ble_eq_true rfl⟩ ⟨(Nat.le_of_ble_eq_true rfl), (Nat.le_of_ble_eq_true rfl)⟩ ⟨(Nat.le_of_ble_eq_true rfl), (Nat.le_of_ble_eq_true rfl)⟩ hl.1 (Nat.le_of_ble_eq_true rfl) dX6_asksRows_1 (fun r1 w2 H locs hH hv3 => ?_)
  refine lv_istore (lv' := [(5, .int r1), (0, .ref self), (1, .int a1), (2, .int a2), (3, .int a3), (4, .int a4)]) hx hb dX6_asksRows_4 hl (by decide) rfl (fun ls hl => ?_)
  refine lv_iload_n hx hb dX6_asksRows_6 rfl (lv_at hl 3 rfl) ?_
  refine cl_X6_112 hC hD hH hv3 ⟨Nat.le_of_ble_eq_true rfl, Nat.le_of_ble_eq_true rfl⟩ ⟨(Nat.le_of_ble_eq_true rfl), (Nat.le_of_ble_eq_true rfl)⟩ ⟨(Nat.le_of_ble_eq_true rfl), (Nat.le_of_ble_eq_true rfl)⟩ hl.1 (Nat.le_of_ble_eq_true rfl) dX6_asksRows_7 (fun w5 H locs hH hv6 => ?_)
  refine lv_aload_n hx hb dX6_asksRows_10 rfl (lv_at hl 1 rfl) ?_
  refine lv_iload hx hb dX6_asksRows_11 (lv_at hl 0 rfl) ?_
  refine lv_iload_n hx hb dX6_asksRows_13 rfl (lv_at hl 4 rfl) ?_
  refine cl_X6_42 hC hD hH hv6.2 hv6.1 ⟨Nat.le_of_ble_eq_true rfl, Nat.le_of_ble_eq_true rfl⟩ ⟨(Nat.le_of_ble_eq_true rfl), (Nat.le_of_ble_eq_true rfl)⟩ ⟨(Nat.le_of_ble_eq_true rfl), (Nat.le_of_ble_eq_true rfl)⟩ hl.1 (Nat.le_of_ble_eq_true rfl) dX6_asksRows_14 (fun r7 w8 H locs hH hv9 => ?_)
  refine lv_astore (lv' := [(6, .ref r7), (5, .int r1), (0, .ref self), (1, .int a1), (2, .int a2), (3, .int a3), (4, .int a4)]) hx hb dX6_asksRows_17 hl (by decide) rfl (fun ls hl => ?_)
  refine lv_aload_n hx hb dX6_asksRows_19 rfl (lv_at hl 2 rfl) ?_
  refine lv_iload hx hb dX6_asksRows_20 (lv_at hl 1 rfl) ?_
  refine lv_iload hx hb dX6_asksRows_22 (lv_at hl 6 rfl) ?_
  refine cl_X6_42 hC hD hH hv9.2 hv9.1 ⟨Nat.le_of_ble_eq_true rfl, Nat.le_of_ble_eq_true rfl⟩ ⟨(Nat.le_of_ble_eq_true rfl), (Nat.le_of_ble_eq_true rfl)⟩ ⟨(Nat.le_of_ble_eq_true rfl), (Nat.le_of_ble_eq_true rfl)⟩ hl.1 (Nat.le_of_ble_eq_true rfl) dX6_asksRows_24 (fun r10 w11 H locs hH hv12 => ?_)
  refine lv_astore (lv' := [(7, .ref r10), (6, .ref r7), (5, .int r1), (0, .ref self), (1, .int a1), (2, .int a2), (3, .int a3), (4, .int a4)]) hx hb dX6_asksRows_27 hl (by decide) rfl (fun ls hl => ?_)
  refine lv_iload_n hx hb dX6_asksRows_29 rfl (lv_at hl 5 rfl) ?_
  refine nw_X6_124 hC hH (Nat.le_of_ble_eq_true rfl) (Nat.le_of_ble_eq_true rfl) dX6_asksRows_30 (fun q13 w14 H h16 h17 e15 hH => ?_)
  refine lv_dup hx hb dX6_asksRows_33 rfl ?_
  refine lv_aload hx hb dX6_asksRows_34 (lv_at hl 1 rfl) ?_
  refine gf_X6_57 hC hH (hv12 q13 h16 h17 w14 e15).1 (hv12 q13 h16 h17 w14 e15).2.1 dX6_asksRows_36 ?_
  refine lv_iconst (v := 0) hx hb dX6_asksRows_39 (by decide) ?_
  refine lv_aload hx hb dX6_asksRows_40 (lv_at hl 1 rfl) ?_
  refine gf_X6_46 hC hH (hv12 q13 h16 h17 w14 e15).2.2.1 dX6_asksRows_42 ?_
  refine cl_X6_126 hC hD hH (hv12 q13 h16 h17 w14 e15).2.2.2 ⟨Nat.le_of_ble_eq_true rfl, Nat.le_of_ble_eq_true rfl⟩ ⟨(Nat.le_of_ble_eq_true rfl), (Nat.le_of_ble_eq_true rfl)⟩ ⟨(Nat.le_of_ble_eq_true rfl), (Nat.le_of_ble_eq_true rfl)⟩ hl.1 (Nat.le_of_ble_eq_true rfl) dX6_asksRows_45 (fun w19 H locs hH hv20 => ?_)
  refine nw_X6_124 hC hH (Nat.le_of_ble_eq_true rfl) (Nat.le_of_ble_eq_true rfl) dX6_asksRows_48 (fun q21 w22 H h24 h25 e23 hH => ?_)
  refine lv_dup hx hb dX6_asksRows_51 rfl ?_
  refine lv_aload hx hb dX6_asksRows_52 (lv_at hl 0 rfl) ?_
  refine gf_X6_57 hC hH (hv20 q21 h24 h25 w22 e23).1 (hv20 q21 h24 h25 w22 e23).2.1 dX6_asksRows_54 ?_
  refine lv_iconst (v := 0) hx hb dX6_asksRows_57 (by decide) ?_
  refine lv_aload hx hb dX6_asksRows_58 (lv_at hl 0 rfl) ?_
  refine gf_X6_46 hC hH (hv20 q21 h24 h25 w22 e23).2.2.1 dX6_asksRows_60 ?_
  refine cl_X6_126 hC hD hH (hv20 q21 h24 h25 w22 e23).2.2.2 ⟨Nat.le_of_ble_eq_true rfl, Nat.le_of_ble_eq_true rfl⟩ ⟨(Nat.le_of_ble_eq_true rfl), (Nat.le_of_ble_eq_true rfl)⟩ ⟨(Nat.le_of_ble_eq_true rfl), (Nat.le_of_ble_eq_true rfl)⟩ hl.1 (Nat.le_of_ble_eq_true rfl) dX6_asksRows_63 (fun w27 H locs hH hv28 => ?_)
  refine cl_X6_120 hC hD hH hv28 ⟨Nat.le_of_ble_eq_true rfl, Nat.le_of_ble_eq_true rfl⟩ ⟨(Nat.le_of_ble_eq_true rfl), (Nat.le_of_ble_eq_true rfl)⟩ ⟨(Nat.le_of_ble_eq_true rfl), (Nat.le_of_ble_eq_true rfl)⟩ hl.1 (Nat.le_of_ble_eq_true rfl) dX6_asksRows_66 (fun r29 w30 H locs hH hv31 => ?_)
  exact sj_retI hC hD.2 hH hr rfl hv31 ⟨(Nat.le_of_ble_eq_true rfl), (Nat.le_of_ble_eq_true rfl)⟩ dX6_asksRows_69
section SJL_X6_asksRows
variable {p : Program} {l : Launch} {e : Env} {R : Room} {s : State} {m : MethodId} {args : Array Value} {below : List Frame} {meth : Method} {c : Code} {H : Heap} {locs : List Loc} {cells slots : Nat} {Q : State → Prop} {cc : ByteArray} {pc : Nat} {ls : Array Slot} {rest : List Value} {G : sj_G} {nL : Nat} {w : sj_W}
theorem cx_L_65 {QX : String → sj_W → Prop} {b : Nat} {b0 : Int32} {b1 : Int32} {b2 : Int32} {b3 : Int32} {Qi : Int32 → sj_W → Prop} (hC : sj_C G p l s m args c cc RL nL) (hH : sj_H G s w H locs) (hv : vc_X6_asksRows b b0 b1 b2 b3 w Qi QX) (hT : sj_T w b = 5) (hR : rm_X6_asksRows.frames + 1 ≤ R.frames ∧ 8 + (8 + 11) + rm_X6_asksRows.locals ≤ R.locals) (hf : cells + 6 ≤ R.cells ∧ slots + 30 ≤ R.slots) (hls : ls.size = nL) (hW : (rest.map fun v => v.category).sum ≤ 8) (hdg : decode cc pc = .ok (.invokevirtual 65, 3)) (kx : ∀ (E : String) (ce : Cell) (q9 : Addr) (w1 : sj_W) (H1 : Heap) (locs1 : List Loc), sj_H G s w1 H1 locs1 → QX E w1 → H1[q9]? = some ce → ce.vm = .none → s.vm.findClass E = some ce.cls → vx_W p l e R s m args below meth c H1 locs1 (cells + 6) (slots + 30) Q (F0 m pc ls rest) q9) (kk : ∀ (r : Int32) (w1 : sj_W) (H : Heap) (locs : List Loc), sj_H G s w1 H locs → Qi r w1 → W p l e R s m args below meth c H locs (cells + 6) (slots + 30) Q (F0 m (pc + 3) ls (.int r :: rest))) : W p l e R s m args below meth c H locs cells slots Q (F0 m pc ls (.int b3 :: .int b2 :: .int b1 :: .int b0 :: .ref b :: rest)) :=
  sj_xI hH (sj_runV (n := 4) hC hH (As := [.int b0, .int b1, .int b2, .int b3]) (wk_X6_asksRows G l hC.2.2.2.2.2.2 b b0 b1 b2 b3 w Qi QX hv) (ci := 4) rfl (by decide) hT mb_427 mb_428 mb_429 mb_1 mb_430 (by decide +kernel) hR hf rfl hls hW hdg) kx kk
end SJL_X6_asksRows
abbrev rm_X6_clear : Room := { frames := 8, cells := 2, slots := 12, locals := 124 }
def vc_X6_clear (self : Nat) (a1 : Int32) (a2 : Int32) (w : sj_W) (Q : Int32 → sj_W → Prop) (QX : String → sj_W → Prop) : Prop := vc_X6_kindOf a1 w (fun r1 w2 => sj_T w2 self = 5 ∧ vc_X6_rowOf self r1 a2 w2 (fun r4 w5 => sj_T w5 r4 = 2 ∧ sj_T w5 r4 = 2 ∧ ∀ w7 : sj_W, w7 = sj_sI w5 9 r4 0 → Q (sj_I w5 9 r4) w7) QX) QX
set_option maxHeartbeats 4000000 in
set_option maxRecDepth 100000 in
theorem wk_X6_clear (G : sj_G) (l : Launch) (hlt : l.stackTraces = false) (self : Nat) (a1 : Int32) (a2 : Int32) (w : sj_W) (Q : Int32 → sj_W → Prop) (QX : String → sj_W → Prop) (hv : vc_X6_clear self a1 a2 w Q QX) : sj_MI G l yX6_clear (sj_ws yX6_clear cX6_clear 5 (some .int)) rm_X6_clear [.ref self, .int a1, .int a2] w Q QX := by
  refine sj_of (by decide +kernel) (Nat.le_of_ble_eq_true rfl) hlt ?_
  intro p e s m args below meth c ls hC hD hr hin hH hl
  have hx := hC.1
  have hb := hC.2.1
  have hl : lv_has ls 5 [(0, .ref self), (1, .int a1), (2, .int a2)] := hl
  refine lv_aload_n hx hb dX6_clear_0 rfl (lv_at hl 0 rfl) ?_
  refine lv_iload_n hx hb dX6_clear_1 rfl (lv_at hl 1 rfl) ?_
  refine cl_X6_34 hC hD hH hv ⟨Nat.le_of_ble_eq_true rfl, Nat.le_of_ble_eq_true rfl⟩ ⟨(Nat.le_of_ble_eq_true rfl), (Nat.le_of_ble_eq_true rfl)⟩ ⟨(Nat.le_of_ble_eq_true rfl), (Nat.le_of_ble_eq_true rfl)⟩ hl.1 (Nat.le_of_ble_eq_true rfl) dX6_clear_2 (fun r1 w2 H locs hH hv3 => ?_)
  refine lv_iload_n hx hb dX6_clear_5 rfl (lv_at hl 2 rfl) ?_
  refine cl_X6_42 hC hD hH hv3.2 hv3.1 ⟨Nat.le_of_ble_eq_true rfl, Nat.le_of_ble_eq_true rfl⟩ ⟨(Nat.le_of_ble_eq_true rfl), (Nat.le_of_ble_eq_true rfl)⟩ ⟨(Nat.le_of_ble_eq_true rfl), (Nat.le_of_ble_eq_true rfl)⟩ hl.1 (Nat.le_of_ble_eq_true rfl) dX6_clear_6 (fun r4 w5 H locs hH hv6 => ?_)
  refine lv_astore_n (lv' := [(3, .ref r4), (0, .ref self), (1, .int a1), (2, .int a2)]) hx hb dX6_clear_9 rfl hl (by decide) rfl (fun ls hl => ?_)
  refine lv_aload_n hx hb dX6_clear_10 rfl (lv_at hl 0 rfl) ?_
  refine gf_X6_46 hC hH hv6.1 dX6_clear_11 ?_
  refine lv_istore (lv' := [(4, .int (sj_I w5 9 r4)), (3, .ref r4), (0, .ref self), (1, .int a1), (2, .int a2)]) hx hb dX6_clear_14 hl (by decide) rfl (fun ls hl => ?_)
  refine lv_aload_n hx hb dX6_clear_16 rfl (lv_at hl 1 rfl) ?_
  refine lv_iconst (v := 0) hx hb dX6_clear_17 (by decide) ?_
  refine pf_X6_46 hC hH hv6.2.1 dX6_clear_18 (fun w7 H locs e8 hH => ?_)
  refine lv_iload hx hb dX6_clear_21 (lv_at hl 0 rfl) ?_
  exact sj_retI hC hD.2 hH hr rfl (hv6.2.2 w7 e8) ⟨(Nat.le_of_ble_eq_true rfl), (Nat.le_of_ble_eq_true rfl)⟩ dX6_clear_23
section SJL_X6_clear
variable {p : Program} {l : Launch} {e : Env} {R : Room} {s : State} {m : MethodId} {args : Array Value} {below : List Frame} {meth : Method} {c : Code} {H : Heap} {locs : List Loc} {cells slots : Nat} {Q : State → Prop} {cc : ByteArray} {pc : Nat} {ls : Array Slot} {rest : List Value} {G : sj_G} {nL : Nat} {w : sj_W}
theorem cx_L_31 {QX : String → sj_W → Prop} {b : Nat} {b0 : Int32} {b1 : Int32} {Qi : Int32 → sj_W → Prop} (hC : sj_C G p l s m args c cc RL nL) (hH : sj_H G s w H locs) (hv : vc_X6_clear b b0 b1 w Qi QX) (hT : sj_T w b = 5) (hR : rm_X6_clear.frames + 1 ≤ R.frames ∧ 8 + (5 + 11) + rm_X6_clear.locals ≤ R.locals) (hf : cells + 2 ≤ R.cells ∧ slots + 12 ≤ R.slots) (hls : ls.size = nL) (hW : (rest.map fun v => v.category).sum ≤ 8) (hdg : decode cc pc = .ok (.invokevirtual 31, 3)) (kx : ∀ (E : String) (ce : Cell) (q9 : Addr) (w1 : sj_W) (H1 : Heap) (locs1 : List Loc), sj_H G s w1 H1 locs1 → QX E w1 → H1[q9]? = some ce → ce.vm = .none → s.vm.findClass E = some ce.cls → vx_W p l e R s m args below meth c H1 locs1 (cells + 2) (slots + 12) Q (F0 m pc ls rest) q9) (kk : ∀ (r : Int32) (w1 : sj_W) (H : Heap) (locs : List Loc), sj_H G s w1 H locs → Qi r w1 → W p l e R s m args below meth c H locs (cells + 2) (slots + 12) Q (F0 m (pc + 3) ls (.int r :: rest))) : W p l e R s m args below meth c H locs cells slots Q (F0 m pc ls (.int b1 :: .int b0 :: .ref b :: rest)) :=
  sj_xI hH (sj_runV (n := 2) hC hH (As := [.int b0, .int b1]) (wk_X6_clear G l hC.2.2.2.2.2.2 b b0 b1 w Qi QX hv) (ci := 4) rfl (by decide) hT mb_283 mb_284 mb_285 mb_1 mb_286 (by decide +kernel) hR hf rfl hls hW hdg) kx kk
end SJL_X6_clear
abbrev rm_X6_common : Room := { frames := 7, cells := 5, slots := 30, locals := 104 }
def vc_X6_common (self : Nat) (a1 : Int32) (a2 : Int32) (a3 : Int32) (w : sj_W) (Q : Int32 → sj_W → Prop) (QX : String → sj_W → Prop) : Prop := vc_X6_kindOf a1 w (fun r1 w2 => sj_T w2 self = 5 ∧ vc_X6_spanOf self a2 w2 (fun r4 w5 => sj_T w5 self = 5 ∧ vc_X6_spanOf self a3 w5 (fun r7 w8 => sj_T w8 self = 5 ∧ vc_X6_fittingWord self r1 r4 w8 (fun r10 w11 => sj_T w11 self = 5 ∧ vc_X6_fittingWord self r1 r7 w11 (fun r13 w14 => vc_X6_alike r10 r13 w14 (fun r16 w17 => Q r16 w17)) QX) QX) QX) QX) QX
set_option maxHeartbeats 4000000 in
set_option maxRecDepth 100000 in
theorem wk_X6_common (G : sj_G) (l : Launch) (hlt : l.stackTraces = false) (self : Nat) (a1 : Int32) (a2 : Int32) (a3 : Int32) (w : sj_W) (Q : Int32 → sj_W → Prop) (QX : String → sj_W → Prop) (hv : vc_X6_common self a1 a2 a3 w Q QX) : sj_MI G l yX6_common (sj_ws yX6_common cX6_common 7 (some .int)) rm_X6_common [.ref self, .int a1, .int a2, .int a3] w Q QX := by
  refine sj_of (by decide +kernel) (Nat.le_of_ble_eq_true rfl) hlt ?_
  intro p e s m args below meth c ls hC hD hr hin hH hl
  have hx := hC.1
  have hb := hC.2.1
  have hl : lv_has ls 7 [(0, .ref self), (1, .int a1), (2, .int a2), (3, .int a3)] := hl
  refine lv_iload_n hx hb dX6_common_0 rfl (lv_at hl 1 rfl) ?_
  refine cl_X6_34 hC hD hH hv ⟨Nat.le_of_ble_eq_true rfl, Nat.le_of_ble_eq_true rfl⟩ ⟨(Nat.le_of_ble_eq_true rfl), (Nat.le_of_ble_eq_true rfl)⟩ ⟨(Nat.le_of_ble_eq_true rfl), (Nat.le_of_ble_eq_true rfl)⟩ hl.1 (Nat.le_of_ble_eq_true rfl) dX6_common_1 (fun r1 w2 H locs hH hv3 => ?_)
  refine lv_istore (lv' := [(4, .int r1), (0, .ref self), (1, .int a1), (2, .int a2), (3, .int a3)]) hx hb dX6_common_4 hl (by decide) rfl (fun ls hl => ?_)
  refine lv_aload_n hx hb dX6_common_6 rfl (lv_at hl 1 rfl) ?_
  refine lv_iload_n hx hb dX6_common_7 rfl (lv_at hl 3 rfl) ?_
  refine cl_X6_89 hC hD hH hv3.2 hv3.1 ⟨Nat.le_of_ble_eq_true rfl, Nat.le_of_ble_eq_true rfl⟩ ⟨(Nat.le_of_ble_eq_true rfl), (Nat.le_of_ble_eq_true rfl)⟩ ⟨(Nat.le_of_ble_eq_true rfl), (Nat.le_of_ble_eq_true rfl)⟩ hl.1 (Nat.le_of_ble_eq_true rfl) dX6_common_8 (fun r4 w5 H locs hH hv6 => ?_)
  refine lv_astore (lv' := [(5, .ref r4), (4, .int r1), (0, .ref self), (1, .int a1), (2, .int a2), (3, .int a3)]) hx hb dX6_common_11 hl (by decide) rfl (fun ls hl => ?_)
  refine lv_aload_n hx hb dX6_common_13 rfl (lv_at hl 2 rfl) ?_
  refine lv_iload_n hx hb dX6_common_14 rfl (lv_at hl 5 rfl) ?_
  refine cl_X6_89 hC hD hH hv6.2 hv6.1 ⟨Nat.le_of_ble_eq_true rfl, Nat.le_of_ble_eq_true rfl⟩ ⟨(Nat.le_of_ble_eq_true rfl), (Nat.le_of_ble_eq_true rfl)⟩ ⟨(Nat.le_of_ble_eq_true rfl), (Nat.le_of_ble_eq_true rfl)⟩ hl.1 (Nat.le_of_ble_eq_true rfl) dX6_common_15 (fun r7 w8 H locs hH hv9 => ?_)
  refine lv_astore (lv' := [(6, .ref r7), (5, .ref r4), (4, .int r1), (0, .ref self), (1, .int a1), (2, .int a2), (3, .int a3)]) hx hb dX6_common_18 hl (by decide) rfl (fun ls hl => ?_)
  refine lv_aload_n hx hb dX6_common_20 rfl (lv_at hl 3 rfl) ?_
  refine lv_iload hx hb dX6_common_21 (lv_at hl 2 rfl) ?_
  refine lv_aload hx hb dX6_common_23 (lv_at hl 1 rfl) ?_
  refine cl_X6_116 hC hD hH hv9.2 hv9.1 ⟨Nat.le_of_ble_eq_true rfl, Nat.le_of_ble_eq_true rfl⟩ ⟨(Nat.le_of_ble_eq_true rfl), (Nat.le_of_ble_eq_true rfl)⟩ ⟨(Nat.le_of_ble_eq_true rfl), (Nat.le_of_ble_eq_true rfl)⟩ hl.1 (Nat.le_of_ble_eq_true rfl) dX6_common_25 (fun r10 w11 H locs hH hv12 => ?_)
  refine lv_aload_n hx hb dX6_common_28 rfl (lv_at hl 3 rfl) ?_
  refine lv_iload hx hb dX6_common_29 (lv_at hl 2 rfl) ?_
  refine lv_aload hx hb dX6_common_31 (lv_at hl 0 rfl) ?_
  refine cl_X6_116 hC hD hH hv12.2 hv12.1 ⟨Nat.le_of_ble_eq_true rfl, Nat.le_of_ble_eq_true rfl⟩ ⟨(Nat.le_of_ble_eq_true rfl), (Nat.le_of_ble_eq_true rfl)⟩ ⟨(Nat.le_of_ble_eq_true rfl), (Nat.le_of_ble_eq_true rfl)⟩ hl.1 (Nat.le_of_ble_eq_true rfl) dX6_common_33 (fun r13 w14 H locs hH hv15 => ?_)
  refine cl_X6_129 hC hD hH hv15 ⟨Nat.le_of_ble_eq_true rfl, Nat.le_of_ble_eq_true rfl⟩ ⟨(Nat.le_of_ble_eq_true rfl), (Nat.le_of_ble_eq_true rfl)⟩ ⟨(Nat.le_of_ble_eq_true rfl), (Nat.le_of_ble_eq_true rfl)⟩ hl.1 (Nat.le_of_ble_eq_true rfl) dX6_common_36 (fun r16 w17 H locs hH hv18 => ?_)
  exact sj_retI hC hD.2 hH hr rfl hv18 ⟨(Nat.le_of_ble_eq_true rfl), (Nat.le_of_ble_eq_true rfl)⟩ dX6_common_39
section SJL_X6_common
variable {p : Program} {l : Launch} {e : Env} {R : Room} {s : State} {m : MethodId} {args : Array Value} {below : List Frame} {meth : Method} {c : Code} {H : Heap} {locs : List Loc} {cells slots : Nat} {Q : State → Prop} {cc : ByteArray} {pc : Nat} {ls : Array Slot} {rest : List Value} {G : sj_G} {nL : Nat} {w : sj_W}
theorem cx_L_72 {QX : String → sj_W → Prop} {b : Nat} {b0 : Int32} {b1 : Int32} {b2 : Int32} {Qi : Int32 → sj_W → Prop} (hC : sj_C G p l s m args c cc RL nL) (hH : sj_H G s w H locs) (hv : vc_X6_common b b0 b1 b2 w Qi QX) (hT : sj_T w b = 5) (hR : rm_X6_common.frames + 1 ≤ R.frames ∧ 8 + (7 + 11) + rm_X6_common.locals ≤ R.locals) (hf : cells + 5 ≤ R.cells ∧ slots + 30 ≤ R.slots) (hls : ls.size = nL) (hW : (rest.map fun v => v.category).sum ≤ 8) (hdg : decode cc pc = .ok (.invokevirtual 72, 3)) (kx : ∀ (E : String) (ce : Cell) (q9 : Addr) (w1 : sj_W) (H1 : Heap) (locs1 : List Loc), sj_H G s w1 H1 locs1 → QX E w1 → H1[q9]? = some ce → ce.vm = .none → s.vm.findClass E = some ce.cls → vx_W p l e R s m args below meth c H1 locs1 (cells + 5) (slots + 30) Q (F0 m pc ls rest) q9) (kk : ∀ (r : Int32) (w1 : sj_W) (H : Heap) (locs : List Loc), sj_H G s w1 H locs → Qi r w1 → W p l e R s m args below meth c H locs (cells + 5) (slots + 30) Q (F0 m (pc + 3) ls (.int r :: rest))) : W p l e R s m args below meth c H locs cells slots Q (F0 m pc ls (.int b2 :: .int b1 :: .int b0 :: .ref b :: rest)) :=
  sj_xI hH (sj_runV (n := 3) hC hH (As := [.int b0, .int b1, .int b2]) (wk_X6_common G l hC.2.2.2.2.2.2 b b0 b1 b2 w Qi QX hv) (ci := 4) rfl (by decide) hT mb_441 mb_442 mb_443 mb_1 mb_444 (by decide +kernel) hR hf rfl hls hW hdg) kx kk
end SJL_X6_common
abbrev rm_X6_changed : Room := { frames := 0, cells := 0, slots := 0, locals := 0 }
def vc_X6_changed (a1 : Int32) (a2 : Int32) (a3 : Int64) (w : sj_W) (Q : Int64 → sj_W → Prop) : Prop := ((¬ a2 = 117 → ((¬ a2 = 116 → Q a3 w) ∧ (a2 = 116 → ((0 ≤ (lg_cmp a3 0) → vp_in a1 4 ∧ Q (a3 + (sj_least a1.toNatClampNeg)) w) ∧ (¬ 0 ≤ (lg_cmp a3 0) → vp_in a1 4 ∧ Q (a3 - (sj_least a1.toNatClampNeg)) w))))) ∧ (a2 = 117 → ((0 ≤ (lg_cmp a3 0) → Q a3 w) ∧ (¬ 0 ≤ (lg_cmp a3 0) → vp_in a1 4 ∧ Q (a3 - (2 * (sj_least a1.toNatClampNeg))) w))))
set_option maxHeartbeats 4000000 in
set_option maxRecDepth 100000 in
theorem wk_X6_changed (G : sj_G) (l : Launch) (hlt : l.stackTraces = false) (a1 : Int32) (a2 : Int32) (a3 : Int64) (w : sj_W) (Q : Int64 → sj_W → Prop) (QX : String → sj_W → Prop) (hv : vc_X6_changed a1 a2 a3 w Q) : sj_ML G l yX6_changed (sj_ws yX6_changed cX6_changed 4 (some .long)) rm_X6_changed [.int a1, .int a2, .long a3] w Q QX := by
  refine sj_of (by decide +kernel) (Nat.le_of_ble_eq_true rfl) hlt ?_
  intro p e s m args below meth c ls hC hD hr hin hH hl
  have hx := hC.1
  have hb := hC.2.1
  have hl : lv_has ls 4 [(0, .int a1), (1, .int a2), (2, .long a3)] := hl
  refine lv_iload_n hx hb dX6_changed_0 rfl (lv_at hl 1 rfl) ?_
  refine lv_bipush (v := 117) hx hb dX6_changed_1 (by decide) ?_
  refine lv_icmp_ne (tgt := 28) hx hb dX6_changed_3 (by decide) (fun hc => ?_) (fun hc => ?_)
  · have hv1 := hv.1 hc
    refine lv_iload_n hx hb dX6_changed_28 rfl (lv_at hl 1 rfl) ?_
    refine lv_bipush (v := 116) hx hb dX6_changed_29 (by decide) ?_
    refine lv_icmp_ne (tgt := 58) hx hb dX6_changed_31 (by decide) (fun hc => ?_) (fun hc => ?_)
    · have hv2 := hv1.1 hc
      refine lv_lload_n hx hb dX6_changed_58 rfl (lv_at hl 2 rfl) ?_
      exact sj_retL hC hD.2 hH hr hv2 ⟨(Nat.le_of_ble_eq_true rfl), (Nat.le_of_ble_eq_true rfl)⟩ dX6_changed_59
    · have hv3 := hv1.2 hc
      refine lv_lload_n hx hb dX6_changed_34 rfl (lv_at hl 2 rfl) ?_
      refine lv_lconst (v := 0) hx hb dX6_changed_35 (by decide) ?_
      refine W.lcmp hx hb dX6_changed_36 ?_
      refine lv_if_ge (tgt := 50) hx hb dX6_changed_37 (by decide) (fun hc => ?_) (fun hc => ?_)
      · have hv4 := hv3.1 hc
        refine lv_lload_n hx hb dX6_changed_50 rfl (lv_at hl 2 rfl) ?_
        obtain ⟨t5, hZ6, hT7⟩ := hC.2.2.2.2.2.1.2.2.2.1
        refine va_gets (C := RX6) (ref := "Spanjudge") hx hb hZ6 hH.2 hC.2.2.2.1 (hC.2.2.2.2.1 _ mb_212) (fun _ h => h) dX6_changed_51 ?_
        refine lv_iload_n hx hb dX6_changed_54 rfl (lv_at hl 0 rfl) ?_
        refine va_tl hx hb hT7 hH.2 hv4.1 rfl dX6_changed_55 ?_
        refine lv_ladd hx hb dX6_changed_56 ?_
        exact sj_retL hC hD.2 hH hr hv4.2 ⟨(Nat.le_of_ble_eq_true rfl), (Nat.le_of_ble_eq_true rfl)⟩ dX6_changed_57
      · have hv8 := hv3.2 hc
        refine lv_lload_n hx hb dX6_changed_40 rfl (lv_at hl 2 rfl) ?_
        obtain ⟨t9, hZ10, hT11⟩ := hC.2.2.2.2.2.1.2.2.2.1
        refine va_gets (C := RX6) (ref := "Spanjudge") hx hb hZ10 hH.2 hC.2.2.2.1 (hC.2.2.2.2.1 _ mb_212) (fun _ h => h) dX6_changed_41 ?_
        refine lv_iload_n hx hb dX6_changed_44 rfl (lv_at hl 0 rfl) ?_
        refine va_tl hx hb hT11 hH.2 hv8.1 rfl dX6_changed_45 ?_
        refine lv_lsub hx hb dX6_changed_46 ?_
        refine lv_goto (tgt := 57) hx hb dX6_changed_47 (by decide) ?_
        exact sj_retL hC hD.2 hH hr hv8.2 ⟨(Nat.le_of_ble_eq_true rfl), (Nat.le_of_ble_eq_true rfl)⟩ dX6_changed_57
  · have hv12 := hv.2 hc
    refine lv_lload_n hx hb dX6_changed_6 rfl (lv_at hl 2 rfl) ?_
    refine lv_lconst (v := 0) hx hb dX6_changed_7 (by decide) ?_
    refine W.lcmp hx hb dX6_changed_8 ?_
    refine lv_if_ge (tgt := 26) hx hb dX6_changed_9 (by decide) (fun hc => ?_) (fun hc => ?_)
    · have hv13 := hv12.1 hc
      refine lv_lload_n hx hb dX6_changed_26 rfl (lv_at hl 2 rfl) ?_
      exact sj_retL hC hD.2 hH hr hv13 ⟨(Nat.le_of_ble_eq_true rfl), (Nat.le_of_ble_eq_true rfl)⟩ dX6_changed_27
    · have hv14 := hv12.2 hc
      refine lv_lload_n hx hb dX6_changed_12 rfl (lv_at hl 2 rfl) ?_
      refine lv_ldc2 (v := 2) hx hb hC.2.2.2.1 (hC.2.2.2.2.1 _ mb_325) dX6_changed_13 ?_
      obtain ⟨t15, hZ16, hT17⟩ := hC.2.2.2.2.2.1.2.2.2.1
      refine va_gets (C := RX6) (ref := "Spanjudge") hx hb hZ16 hH.2 hC.2.2.2.1 (hC.2.2.2.2.1 _ mb_212) (fun _ h => h) dX6_changed_16 ?_
      refine lv_iload_n hx hb dX6_changed_19 rfl (lv_at hl 0 rfl) ?_
      refine va_tl hx hb hT17 hH.2 hv14.1 rfl dX6_changed_20 ?_
      refine lv_lmul hx hb dX6_changed_21 ?_
      refine lv_lsub hx hb dX6_changed_22 ?_
      refine lv_goto (tgt := 27) hx hb dX6_changed_23 (by decide) ?_
      exact sj_retL hC hD.2 hH hr hv14.2 ⟨(Nat.le_of_ble_eq_true rfl), (Nat.le_of_ble_eq_true rfl)⟩ dX6_changed_27
section SJL_X6_changed
variable {p : Program} {l : Launch} {e : Env} {R : Room} {s : State} {m : MethodId} {args : Array Value} {below : List Frame} {meth : Method} {c : Code} {H : Heap} {locs : List Loc} {cells slots : Nat} {Q : State → Prop} {cc : ByteArray} {pc : Nat} {ls : Array Slot} {rest : List Value} {G : sj_G} {nL : Nat} {w : sj_W}
theorem cl_X6_85 {rmM : Room} {QcM : Array Value → State → Outcome → State → Prop} {QX : String → sj_W → Prop} {b0 : Int32} {b1 : Int32} {b2 : Int64} {Qi : Int64 → sj_W → Prop} (hC : sj_C G p l s m args c cc RX6 nL) (hD : sj_D meth c) (hH : sj_H G s w H locs) (hv : vc_X6_changed b0 b1 b2 w Qi) (hR : rm_X6_changed.frames + 1 ≤ R.frames ∧ 8 + (4 + 11) + rm_X6_changed.locals ≤ R.locals) (hf : cells + 0 ≤ R.cells ∧ slots + 0 ≤ R.slots) (hfM : cells + 0 ≤ rmM.cells ∧ slots + 0 ≤ rmM.slots) (hls : ls.size = nL) (hW : (rest.map fun v => v.category).sum ≤ 8) (hdg : decode cc pc = .ok (.invokestatic 85, 3)) (kk : ∀ (r : Int64) (w1 : sj_W) (H : Heap) (locs : List Loc), sj_H G s w1 H locs → Qi r w1 → W p l e R s m args below meth c H locs (cells + 0) (slots + 0) (sj_MQ G below QcM QX args s rmM) (F0 m (pc + 3) ls (.long r :: rest))) : W p l e R s m args below meth c H locs cells slots (sj_MQ G below QcM QX args s rmM) (F0 m pc ls (.long b2 :: .int b1 :: .int b0 :: rest)) :=
  sj_cL hD hH (sj_runS (n := 3) hC hH (As := [.int b0, .int b1, .long b2]) (wk_X6_changed G l hC.2.2.2.2.2.2 b0 b1 b2 w Qi QX hv) mb_322 mb_323 mb_1 mb_324 (by decide +kernel) hR hf rfl hls hW hdg) hfM kk
theorem cl_X4_28 {rmM : Room} {QcM : Array Value → State → Outcome → State → Prop} {QX : String → sj_W → Prop} {b0 : Int32} {b1 : Int32} {b2 : Int64} {Qi : Int64 → sj_W → Prop} (hC : sj_C G p l s m args c cc RX4 nL) (hD : sj_D meth c) (hH : sj_H G s w H locs) (hv : vc_X6_changed b0 b1 b2 w Qi) (hR : rm_X6_changed.frames + 1 ≤ R.frames ∧ 8 + (4 + 11) + rm_X6_changed.locals ≤ R.locals) (hf : cells + 0 ≤ R.cells ∧ slots + 0 ≤ R.slots) (hfM : cells + 0 ≤ rmM.cells ∧ slots + 0 ≤ rmM.slots) (hls : ls.size = nL) (hW : (rest.map fun v => v.category).sum ≤ 8) (hdg : decode cc pc = .ok (.invokestatic 28, 3)) (kk : ∀ (r : Int64) (w1 : sj_W) (H : Heap) (locs : List Loc), sj_H G s w1 H locs → Qi r w1 → W p l e R s m args below meth c H locs (cells + 0) (slots + 0) (sj_MQ G below QcM QX args s rmM) (F0 m (pc + 3) ls (.long r :: rest))) : W p l e R s m args below meth c H locs cells slots (sj_MQ G below QcM QX args s rmM) (F0 m pc ls (.long b2 :: .int b1 :: .int b0 :: rest)) :=
  sj_cL hD hH (sj_runSN (n := 3) hC hH (As := [.int b0, .int b1, .long b2]) (wk_X6_changed G l hC.2.2.2.2.2.2 b0 b1 b2 w Qi QX hv) mb_635 mb_323 mb_1 mb_324 (by decide +kernel) hR hf rfl hls hW hdg) hfM kk
end SJL_X6_changed
abbrev rm_X6_canChange : Room := { frames := 1, cells := 0, slots := 0, locals := 23 }
def vc_X6_canChange (a1 : Int32) (a2 : Int32) (a3 : Int64) (a4 : Int32) (w : sj_W) (Q : Int32 → sj_W → Prop) : Prop := ((¬ a2 = 117 → vc_X6_changed a1 a2 a3 w (fun r2 w3 => vc_X6_isNumberOf a4 r2 w3 (fun r5 w6 => (r5 = 0 ∨ r5 = 1) ∧ Q r5 w6))) ∧ (a2 = 117 → ((¬ a1 = 3 → vc_X6_changed a1 a2 a3 w (fun r10 w11 => vc_X6_isNumberOf a4 r10 w11 (fun r13 w14 => (r13 = 0 ∨ r13 = 1) ∧ Q r13 w14))) ∧ (a1 = 3 → ((0 ≤ (lg_cmp a3 0) → vc_X6_changed a1 a2 a3 w (fun r18 w19 => vc_X6_isNumberOf a4 r18 w19 (fun r21 w22 => (r21 = 0 ∨ r21 = 1) ∧ Q r21 w22))) ∧ (¬ 0 ≤ (lg_cmp a3 0) → Q 0 w))))))
set_option maxHeartbeats 4000000 in
set_option maxRecDepth 100000 in
theorem wk_X6_canChange (G : sj_G) (l : Launch) (hlt : l.stackTraces = false) (a1 : Int32) (a2 : Int32) (a3 : Int64) (a4 : Int32) (w : sj_W) (Q : Int32 → sj_W → Prop) (QX : String → sj_W → Prop) (hv : vc_X6_canChange a1 a2 a3 a4 w Q) : sj_MI G l yX6_canChange (sj_ws yX6_canChange cX6_canChange 5 (some .boolean)) rm_X6_canChange [.int a1, .int a2, .long a3, .int a4] w Q QX := by
  refine sj_of (by decide +kernel) (Nat.le_of_ble_eq_true rfl) hlt ?_
  intro p e s m args below meth c ls hC hD hr hin hH hl
  have hx := hC.1
  have hb := hC.2.1
  have hl : lv_has ls 5 [(0, .int a1), (1, .int a2), (2, .long a3), (4, .int a4)] := hl
  refine lv_iload_n hx hb dX6_canChange_0 rfl (lv_at hl 1 rfl) ?_
  refine lv_bipush (v := 117) hx hb dX6_canChange_1 (by decide) ?_
  refine lv_icmp_ne (tgt := 19) hx hb dX6_canChange_3 (by decide) (fun hc => ?_) (fun hc => ?_)
  · have hv1 := hv.1 hc
    refine lv_iload hx hb dX6_canChange_19 (lv_at hl 3 rfl) ?_
    refine lv_iload_n hx hb dX6_canChange_21 rfl (lv_at hl 0 rfl) ?_
    refine lv_iload_n hx hb dX6_canChange_22 rfl (lv_at hl 1 rfl) ?_
    refine lv_lload_n hx hb dX6_canChange_23 rfl (lv_at hl 2 rfl) ?_
    refine cl_X6_85 hC hD hH hv1 ⟨Nat.le_of_ble_eq_true rfl, Nat.le_of_ble_eq_true rfl⟩ ⟨(Nat.le_of_ble_eq_true rfl), (Nat.le_of_ble_eq_true rfl)⟩ ⟨(Nat.le_of_ble_eq_true rfl), (Nat.le_of_ble_eq_true rfl)⟩ hl.1 (Nat.le_of_ble_eq_true rfl) dX6_canChange_24 (fun r2 w3 H locs hH hv4 => ?_)
    refine cl_X6_229 hC hD hH hv4 ⟨Nat.le_of_ble_eq_true rfl, Nat.le_of_ble_eq_true rfl⟩ ⟨(Nat.le_of_ble_eq_true rfl), (Nat.le_of_ble_eq_true rfl)⟩ ⟨(Nat.le_of_ble_eq_true rfl), (Nat.le_of_ble_eq_true rfl)⟩ hl.1 (Nat.le_of_ble_eq_true rfl) dX6_canChange_27 (fun r5 w6 H locs hH hv7 => ?_)
    exact sj_retI hC hD.2 hH hr (sj_nz hv7.1).1 hv7.2 ⟨(Nat.le_of_ble_eq_true rfl), (Nat.le_of_ble_eq_true rfl)⟩ dX6_canChange_30
  · have hv8 := hv.2 hc
    refine lv_iload_n hx hb dX6_canChange_6 rfl (lv_at hl 0 rfl) ?_
    refine lv_iconst (v := 3) hx hb dX6_canChange_7 (by decide) ?_
    refine lv_icmp_ne (tgt := 19) hx hb dX6_canChange_8 (by decide) (fun hc => ?_) (fun hc => ?_)
    · have hv9 := hv8.1 hc
      refine lv_iload hx hb dX6_canChange_19 (lv_at hl 3 rfl) ?_
      refine lv_iload_n hx hb dX6_canChange_21 rfl (lv_at hl 0 rfl) ?_
      refine lv_iload_n hx hb dX6_canChange_22 rfl (lv_at hl 1 rfl) ?_
      refine lv_lload_n hx hb dX6_canChange_23 rfl (lv_at hl 2 rfl) ?_
      refine cl_X6_85 hC hD hH hv9 ⟨Nat.le_of_ble_eq_true rfl, Nat.le_of_ble_eq_true rfl⟩ ⟨(Nat.le_of_ble_eq_true rfl), (Nat.le_of_ble_eq_true rfl)⟩ ⟨(Nat.le_of_ble_eq_true rfl), (Nat.le_of_ble_eq_true rfl)⟩ hl.1 (Nat.le_of_ble_eq_true rfl) dX6_canChange_24 (fun r10 w11 H locs hH hv12 => ?_)
      refine cl_X6_229 hC hD hH hv12 ⟨Nat.le_of_ble_eq_true rfl, Nat.le_of_ble_eq_true rfl⟩ ⟨(Nat.le_of_ble_eq_true rfl), (Nat.le_of_ble_eq_true rfl)⟩ ⟨(Nat.le_of_ble_eq_true rfl), (Nat.le_of_ble_eq_true rfl)⟩ hl.1 (Nat.le_of_ble_eq_true rfl) dX6_canChange_27 (fun r13 w14 H locs hH hv15 => ?_)
      exact sj_retI hC hD.2 hH hr (sj_nz hv15.1).1 hv15.2 ⟨(Nat.le_of_ble_eq_true rfl), (Nat.le_of_ble_eq_true rfl)⟩ dX6_canChange_30
    · have hv16 := hv8.2 hc
      refine lv_lload_n hx hb dX6_canChange_11 rfl (lv_at hl 2 rfl) ?_
      refine lv_lconst (v := 0) hx hb dX6_canChange_12 (by decide) ?_
      refine W.lcmp hx hb dX6_canChange_13 ?_
      refine lv_if_ge (tgt := 19) hx hb dX6_canChange_14 (by decide) (fun hc => ?_) (fun hc => ?_)
      · have hv17 := hv16.1 hc
        refine lv_iload hx hb dX6_canChange_19 (lv_at hl 3 rfl) ?_
        refine lv_iload_n hx hb dX6_canChange_21 rfl (lv_at hl 0 rfl) ?_
        refine lv_iload_n hx hb dX6_canChange_22 rfl (lv_at hl 1 rfl) ?_
        refine lv_lload_n hx hb dX6_canChange_23 rfl (lv_at hl 2 rfl) ?_
        refine cl_X6_85 hC hD hH hv17 ⟨Nat.le_of_ble_eq_true rfl, Nat.le_of_ble_eq_true rfl⟩ ⟨(Nat.le_of_ble_eq_true rfl), (Nat.le_of_ble_eq_true rfl)⟩ ⟨(Nat.le_of_ble_eq_true rfl), (Nat.le_of_ble_eq_true rfl)⟩ hl.1 (Nat.le_of_ble_eq_true rfl) dX6_canChange_24 (fun r18 w19 H locs hH hv20 => ?_)
        refine cl_X6_229 hC hD hH hv20 ⟨Nat.le_of_ble_eq_true rfl, Nat.le_of_ble_eq_true rfl⟩ ⟨(Nat.le_of_ble_eq_true rfl), (Nat.le_of_ble_eq_true rfl)⟩ ⟨(Nat.le_of_ble_eq_true rfl), (Nat.le_of_ble_eq_true rfl)⟩ hl.1 (Nat.le_of_ble_eq_true rfl) dX6_canChange_27 (fun r21 w22 H locs hH hv23 => ?_)
        exact sj_retI hC hD.2 hH hr (sj_nz hv23.1).1 hv23.2 ⟨(Nat.le_of_ble_eq_true rfl), (Nat.le_of_ble_eq_true rfl)⟩ dX6_canChange_30
      · have hv24 := hv16.2 hc
        refine lv_iconst (v := 0) hx hb dX6_canChange_17 (by decide) ?_
        exact sj_retI hC hD.2 hH hr rfl hv24 ⟨(Nat.le_of_ble_eq_true rfl), (Nat.le_of_ble_eq_true rfl)⟩ dX6_canChange_18
section SJL_X6_canChange
variable {p : Program} {l : Launch} {e : Env} {R : Room} {s : State} {m : MethodId} {args : Array Value} {below : List Frame} {meth : Method} {c : Code} {H : Heap} {locs : List Loc} {cells slots : Nat} {Q : State → Prop} {cc : ByteArray} {pc : Nat} {ls : Array Slot} {rest : List Value} {G : sj_G} {nL : Nat} {w : sj_W}
theorem cl_X6_79 {rmM : Room} {QcM : Array Value → State → Outcome → State → Prop} {QX : String → sj_W → Prop} {b0 : Int32} {b1 : Int32} {b2 : Int64} {b3 : Int32} {Qi : Int32 → sj_W → Prop} (hC : sj_C G p l s m args c cc RX6 nL) (hD : sj_D meth c) (hH : sj_H G s w H locs) (hv : vc_X6_canChange b0 b1 b2 b3 w Qi) (hR : rm_X6_canChange.frames + 1 ≤ R.frames ∧ 8 + (5 + 11) + rm_X6_canChange.locals ≤ R.locals) (hf : cells + 0 ≤ R.cells ∧ slots + 0 ≤ R.slots) (hfM : cells + 0 ≤ rmM.cells ∧ slots + 0 ≤ rmM.slots) (hls : ls.size = nL) (hW : (rest.map fun v => v.category).sum ≤ 8) (hdg : decode cc pc = .ok (.invokestatic 79, 3)) (kk : ∀ (r : Int32) (w1 : sj_W) (H : Heap) (locs : List Loc), sj_H G s w1 H locs → Qi r w1 → W p l e R s m args below meth c H locs (cells + 0) (slots + 0) (sj_MQ G below QcM QX args s rmM) (F0 m (pc + 3) ls (.int r :: rest))) : W p l e R s m args below meth c H locs cells slots (sj_MQ G below QcM QX args s rmM) (F0 m pc ls (.int b3 :: .long b2 :: .int b1 :: .int b0 :: rest)) :=
  sj_cI hD hH (sj_runS (n := 4) hC hH (As := [.int b0, .int b1, .long b2, .int b3]) (wk_X6_canChange G l hC.2.2.2.2.2.2 b0 b1 b2 b3 w Qi QX hv) mb_319 mb_320 mb_1 mb_321 (by decide +kernel) hR hf rfl hls hW hdg) hfM kk
end SJL_X6_canChange

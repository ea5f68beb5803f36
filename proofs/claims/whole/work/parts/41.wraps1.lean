abbrev rm_L_append : Room := { frames := 9, cells := 4, slots := 24, locals := 150 }
def vc_L_append (a1 : Nat) (a2 : Int32) (a3 : Int32) (a4 : Int64) (a5 : Nat) (w : sj_W) (Q : Int32 → sj_W → Prop) : Prop := sj_T w a1 = 5 ∧ vc_X6_append a1 a2 a3 a4 w (fun r1 w2 => sj_T w2 a5 = 8 ∧ vp_in 0 (sj_N w2 a5) ∧ ∀ w4 : sj_W, w4 = sj_sl w2 a5 (0 : Int32).toNatClampNeg (r1.toInt64) → Q 0 w4) (fun E w6 => ((E = "java/lang/IllegalArgumentException" → Q 1 w6) ∧ (E = "java/lang/IndexOutOfBoundsException" → Q 2 w6) ∧ (E = "java/lang/IllegalStateException" → Q 3 w6) ∧ (E = "java/lang/IllegalArgumentException" ∨ E = "java/lang/IndexOutOfBoundsException" ∨ E = "java/lang/IllegalStateException")))
set_option maxHeartbeats 4000000 in
set_option maxRecDepth 100000 in
theorem wk_L_append (G : sj_G) (l : Launch) (hlt : l.stackTraces = false) (a1 : Nat) (a2 : Int32) (a3 : Int32) (a4 : Int64) (a5 : Nat) (w : sj_W) (Q : Int32 → sj_W → Prop) (QX : String → sj_W → Prop) (hv : vc_L_append a1 a2 a3 a4 a5 w Q) : sj_MI G l yL_append (sj_wsW yL_append cL_append 7 (some .int) [(0, 12, 15, 13), (0, 12, 19, 15), (0, 12, 23, 17)]) rm_L_append [.ref a1, .int a2, .int a3, .long a4, .ref a5] w Q QX := by
  refine sj_ofW (by decide +kernel) (Nat.le_of_ble_eq_true rfl) hlt ?_
  intro p e s m args below meth c ls hC htb hk hr hH hl
  have hx := hC.1
  have hb := hC.2.1
  have hl : lv_has ls 7 [(0, .ref a1), (1, .int a2), (2, .int a3), (3, .long a4), (5, .ref a5)] := hl
  refine lv_aload hx hb dL_append_0 (lv_at hl 4 rfl) ?_
  refine lv_iconst (v := 0) hx hb dL_append_2 (by decide) ?_
  refine lv_aload_n hx hb dL_append_3 rfl (lv_at hl 0 rfl) ?_
  refine lv_iload_n hx hb dL_append_4 rfl (lv_at hl 1 rfl) ?_
  refine lv_iload_n hx hb dL_append_5 rfl (lv_at hl 2 rfl) ?_
  refine lv_lload_n hx hb dL_append_6 rfl (lv_at hl 3 rfl) ?_
  refine cx_L_7 hC hH hv.2 hv.1 ⟨Nat.le_of_ble_eq_true rfl, Nat.le_of_ble_eq_true rfl⟩ ⟨(Nat.le_of_ble_eq_true rfl), (Nat.le_of_ble_eq_true rfl)⟩ hl.1 (Nat.le_of_ble_eq_true rfl) dL_append_7 (fun E ce q9 w6 H locs hH hE7 hq9 hcv hcl => ?_) (fun r1 w2 H locs hH hv3 => ?_)
  · rcases hE7.2.2.2 with rfl | rfl | rfl
    · have hv8 := hE7.1 rfl
      refine sj_catch (E := "java/lang/IllegalArgumentException") hC htb [] ⟨0, 12, 15, 13⟩ [⟨0, 12, 19, 15⟩, ⟨0, 12, 23, 17⟩] rfl (fun _ h => nomatch h) (by decide) (by decide) mb_128 mb_140 hq9 hcv hcl ?_
      refine lv_astore (lv' := [(6, .ref q9), (0, .ref a1), (1, .int a2), (2, .int a3), (3, .long a4), (5, .ref a5)]) hx hb dL_append_15 hl (by decide) rfl (fun ls hl => ?_)
      refine lv_iconst (v := 1) hx hb dL_append_17 (by decide) ?_
      exact sj_retI hC hk hH hr rfl hv8 ⟨(Nat.le_of_ble_eq_true rfl), (Nat.le_of_ble_eq_true rfl)⟩ dL_append_18
    · have hv9 := hE7.2.1 rfl
      refine sj_catch (E := "java/lang/IndexOutOfBoundsException") hC htb [⟨0, 12, 15, 13⟩] ⟨0, 12, 19, 15⟩ [⟨0, 12, 23, 17⟩] rfl (by intro z hz; simp only [List.mem_cons, List.not_mem_nil, or_false] at hz; rcases hz with rfl <;> first | exact ⟨by decide, _, mb_128, by decide +kernel⟩) (by decide) (by decide) mb_129 mb_225 hq9 hcv hcl ?_
      refine lv_astore (lv' := [(6, .ref q9), (0, .ref a1), (1, .int a2), (2, .int a3), (3, .long a4), (5, .ref a5)]) hx hb dL_append_19 hl (by decide) rfl (fun ls hl => ?_)
      refine lv_iconst (v := 2) hx hb dL_append_21 (by decide) ?_
      exact sj_retI hC hk hH hr rfl hv9 ⟨(Nat.le_of_ble_eq_true rfl), (Nat.le_of_ble_eq_true rfl)⟩ dL_append_22
    · have hv10 := hE7.2.2.1 rfl
      refine sj_catch (E := "java/lang/IllegalStateException") hC htb [⟨0, 12, 15, 13⟩, ⟨0, 12, 19, 15⟩] ⟨0, 12, 23, 17⟩ [] rfl (by intro z hz; simp only [List.mem_cons, List.not_mem_nil, or_false] at hz; rcases hz with rfl | rfl <;> first | exact ⟨by decide, _, mb_128, by decide +kernel⟩ | exact ⟨by decide, _, mb_129, by decide +kernel⟩) (by decide) (by decide) mb_130 mb_241 hq9 hcv hcl ?_
      refine lv_astore (lv' := [(6, .ref q9), (0, .ref a1), (1, .int a2), (2, .int a3), (3, .long a4), (5, .ref a5)]) hx hb dL_append_23 hl (by decide) rfl (fun ls hl => ?_)
      refine lv_iconst (v := 3) hx hb dL_append_25 (by decide) ?_
      exact sj_retI hC hk hH hr rfl hv10 ⟨(Nat.le_of_ble_eq_true rfl), (Nat.le_of_ble_eq_true rfl)⟩ dL_append_26
  refine lv_i2l hx hb dL_append_10 rfl ?_
  refine sj_last hC hH hv3.1 hv3.2.1 dL_append_11 (fun w4 H locs e5 hH => ?_)
  refine lv_goto (tgt := 27) hx hb dL_append_12 (by decide) ?_
  refine lv_iconst (v := 0) hx hb dL_append_27 (by decide) ?_
  exact sj_retI hC hk hH hr rfl (hv3.2.2 w4 e5) ⟨(Nat.le_of_ble_eq_true rfl), (Nat.le_of_ble_eq_true rfl)⟩ dL_append_28
section SJL_L_append
variable {p : Program} {l : Launch} {e : Env} {R : Room} {s : State} {m : MethodId} {args : Array Value} {below : List Frame} {meth : Method} {c : Code} {H : Heap} {locs : List Loc} {cells slots : Nat} {Q : State → Prop} {cc : ByteArray} {pc : Nat} {ls : Array Slot} {rest : List Value} {G : sj_G} {nL : Nat} {w : sj_W}
theorem cg_L_140 {b0 : Nat} {b1 : Int32} {b2 : Int32} {b3 : Int64} {b4 : Nat} {Qi : Int32 → sj_W → Prop} (hC : sj_C G p l s m args c cc RL nL) (hH : sj_H G s w H locs) (hv : vc_L_append b0 b1 b2 b3 b4 w Qi) (hR : rm_L_append.frames + 1 ≤ R.frames ∧ 8 + (7 + 11) + rm_L_append.locals ≤ R.locals) (hf : cells + 4 ≤ R.cells ∧ slots + 24 ≤ R.slots) (hls : ls.size = nL) (hW : (rest.map fun v => v.category).sum ≤ 8) (hdg : decode cc pc = .ok (.invokestatic 140, 3)) (kk : ∀ (r : Int32) (w1 : sj_W) (H : Heap) (locs : List Loc), sj_H G s w1 H locs → Qi r w1 → W p l e R s m args below meth c H locs (cells + 4) (slots + 24) Q (F0 m (pc + 3) ls (.int r :: rest))) : W p l e R s m args below meth c H locs cells slots Q (F0 m pc ls (.ref b4 :: .long b3 :: .int b2 :: .int b1 :: .ref b0 :: rest)) :=
  sj_xI hH (sj_runSX (n := 5) hC hH (As := [.ref b0, .int b1, .int b2, .long b3, .ref b4]) (wk_L_append G l hC.2.2.2.2.2.2 b0 b1 b2 b3 b4 w Qi (fun _ _ => False) hv) mb_125 mb_126 mb_0 mb_127 (by decide +kernel) hR hf rfl hls hW hdg) (fun _ _ _ _ _ _ _ h _ _ _ => h.elim) kk
end SJL_L_append
abbrev rm_L_asks : Room := { frames := 8, cells := 6, slots := 36, locals := 131 }
def vc_L_asks (a1 : Nat) (a2 : Int32) (a3 : Int32) (a4 : Int32) (a5 : Int32) (a6 : Nat) (w : sj_W) (Q : Int32 → sj_W → Prop) : Prop := sj_T w a1 = 5 ∧ vc_X6_asks a1 a2 a3 a4 a5 w (fun r1 w2 => sj_T w2 a6 = 8 ∧ vp_in 0 (sj_N w2 a6) ∧ ∀ w4 : sj_W, w4 = sj_sl w2 a6 (0 : Int32).toNatClampNeg (r1.toInt64) → Q 0 w4) (fun E w6 => ((E = "java/lang/IllegalArgumentException" → Q 1 w6) ∧ (E = "java/lang/IndexOutOfBoundsException" → Q 2 w6) ∧ (E = "java/lang/IllegalStateException" → Q 3 w6) ∧ (E = "java/lang/IllegalArgumentException" ∨ E = "java/lang/IndexOutOfBoundsException" ∨ E = "java/lang/IllegalStateException")))
set_option maxHeartbeats 4000000 in
set_option maxRecDepth 100000 in
theorem wk_L_asks (G : sj_G) (l : Launch) (hlt : l.stackTraces = false) (a1 : Nat) (a2 : Int32) (a3 : Int32) (a4 : Int32) (a5 : Int32) (a6 : Nat) (w : sj_W) (Q : Int32 → sj_W → Prop) (QX : String → sj_W → Prop) (hv : vc_L_asks a1 a2 a3 a4 a5 a6 w Q) : sj_MI G l yL_asks (sj_wsW yL_asks cL_asks 7 (some .int) [(0, 14, 17, 13), (0, 14, 21, 15), (0, 14, 25, 17)]) rm_L_asks [.ref a1, .int a2, .int a3, .int a4, .int a5, .ref a6] w Q QX := by
  refine sj_ofW (by decide +kernel) (Nat.le_of_ble_eq_true rfl) hlt ?_
  intro p e s m args below meth c ls hC htb hk hr hH hl
  have hx := hC.1
  have hb := hC.2.1
  have hl : lv_has ls 7 [(0, .ref a1), (1, .int a2), (2, .int a3), (3, .int a4), (4, .int a5), (5, .ref a6)] := hl
  refine lv_aload hx hb dL_asks_0 (lv_at hl 5 rfl) ?_
  refine lv_iconst (v := 0) hx hb dL_asks_2 (by decide) ?_
  refine lv_aload_n hx hb dL_asks_3 rfl (lv_at hl 0 rfl) ?_
  refine lv_iload_n hx hb dL_asks_4 rfl (lv_at hl 1 rfl) ?_
  refine lv_iload_n hx hb dL_asks_5 rfl (lv_at hl 2 rfl) ?_
  refine lv_iload_n hx hb dL_asks_6 rfl (lv_at hl 3 rfl) ?_
  refine lv_iload hx hb dL_asks_7 (lv_at hl 4 rfl) ?_
  refine cx_L_61 hC hH hv.2 hv.1 ⟨Nat.le_of_ble_eq_true rfl, Nat.le_of_ble_eq_true rfl⟩ ⟨(Nat.le_of_ble_eq_true rfl), (Nat.le_of_ble_eq_true rfl)⟩ hl.1 (Nat.le_of_ble_eq_true rfl) dL_asks_9 (fun E ce q9 w6 H locs hH hE7 hq9 hcv hcl => ?_) (fun r1 w2 H locs hH hv3 => ?_)
  · rcases hE7.2.2.2 with rfl | rfl | rfl
    · have hv8 := hE7.1 rfl
      refine sj_catch (E := "java/lang/IllegalArgumentException") hC htb [] ⟨0, 14, 17, 13⟩ [⟨0, 14, 21, 15⟩, ⟨0, 14, 25, 17⟩] rfl (fun _ h => nomatch h) (by decide) (by decide) mb_128 mb_140 hq9 hcv hcl ?_
      refine lv_astore (lv' := [(6, .ref q9), (0, .ref a1), (1, .int a2), (2, .int a3), (3, .int a4), (4, .int a5), (5, .ref a6)]) hx hb dL_asks_17 hl (by decide) rfl (fun ls hl => ?_)
      refine lv_iconst (v := 1) hx hb dL_asks_19 (by decide) ?_
      exact sj_retI hC hk hH hr rfl hv8 ⟨(Nat.le_of_ble_eq_true rfl), (Nat.le_of_ble_eq_true rfl)⟩ dL_asks_20
    · have hv9 := hE7.2.1 rfl
      refine sj_catch (E := "java/lang/IndexOutOfBoundsException") hC htb [⟨0, 14, 17, 13⟩] ⟨0, 14, 21, 15⟩ [⟨0, 14, 25, 17⟩] rfl (by intro z hz; simp only [List.mem_cons, List.not_mem_nil, or_false] at hz; rcases hz with rfl <;> first | exact ⟨by decide, _, mb_128, by decide +kernel⟩) (by decide) (by decide) mb_129 mb_225 hq9 hcv hcl ?_
      refine lv_astore (lv' := [(6, .ref q9), (0, .ref a1), (1, .int a2), (2, .int a3), (3, .int a4), (4, .int a5), (5, .ref a6)]) hx hb dL_asks_21 hl (by decide) rfl (fun ls hl => ?_)
      refine lv_iconst (v := 2) hx hb dL_asks_23 (by decide) ?_
      exact sj_retI hC hk hH hr rfl hv9 ⟨(Nat.le_of_ble_eq_true rfl), (Nat.le_of_ble_eq_true rfl)⟩ dL_asks_24
    · have hv10 := hE7.2.2.1 rfl
      refine sj_catch (E := "java/lang/IllegalStateException") hC htb [⟨0, 14, 17, 13⟩, ⟨0, 14, 21, 15⟩] ⟨0, 14, 25, 17⟩ [] rfl (by intro z hz; simp only [List.mem_cons, List.not_mem_nil, or_false] at hz; rcases hz with rfl | rfl <;> first | exact ⟨by decide, _, mb_128, by decide +kernel⟩ | exact ⟨by decide, _, mb_129, by decide +kernel⟩) (by decide) (by decide) mb_130 mb_241 hq9 hcv hcl ?_
      refine lv_astore (lv' := [(6, .ref q9), (0, .ref a1), (1, .int a2), (2, .int a3), (3, .int a4), (4, .int a5), (5, .ref a6)]) hx hb dL_asks_25 hl (by decide) rfl (fun ls hl => ?_)
      refine lv_iconst (v := 3) hx hb dL_asks_27 (by decide) ?_
      exact sj_retI hC hk hH hr rfl hv10 ⟨(Nat.le_of_ble_eq_true rfl), (Nat.le_of_ble_eq_true rfl)⟩ dL_asks_28
  refine lv_i2l hx hb dL_asks_12 rfl ?_
  refine sj_last hC hH hv3.1 hv3.2.1 dL_asks_13 (fun w4 H locs e5 hH => ?_)
  refine lv_goto (tgt := 29) hx hb dL_asks_14 (by decide) ?_
  refine lv_iconst (v := 0) hx hb dL_asks_29 (by decide) ?_
  exact sj_retI hC hk hH hr rfl (hv3.2.2 w4 e5) ⟨(Nat.le_of_ble_eq_true rfl), (Nat.le_of_ble_eq_true rfl)⟩ dL_asks_30
section SJL_L_asks
variable {p : Program} {l : Launch} {e : Env} {R : Room} {s : State} {m : MethodId} {args : Array Value} {below : List Frame} {meth : Method} {c : Code} {H : Heap} {locs : List Loc} {cells slots : Nat} {Q : State → Prop} {cc : ByteArray} {pc : Nat} {ls : Array Slot} {rest : List Value} {G : sj_G} {nL : Nat} {w : sj_W}
theorem cg_L_190 {b0 : Nat} {b1 : Int32} {b2 : Int32} {b3 : Int32} {b4 : Int32} {b5 : Nat} {Qi : Int32 → sj_W → Prop} (hC : sj_C G p l s m args c cc RL nL) (hH : sj_H G s w H locs) (hv : vc_L_asks b0 b1 b2 b3 b4 b5 w Qi) (hR : rm_L_asks.frames + 1 ≤ R.frames ∧ 8 + (7 + 11) + rm_L_asks.locals ≤ R.locals) (hf : cells + 6 ≤ R.cells ∧ slots + 36 ≤ R.slots) (hls : ls.size = nL) (hW : (rest.map fun v => v.category).sum ≤ 8) (hdg : decode cc pc = .ok (.invokestatic 190, 3)) (kk : ∀ (r : Int32) (w1 : sj_W) (H : Heap) (locs : List Loc), sj_H G s w1 H locs → Qi r w1 → W p l e R s m args below meth c H locs (cells + 6) (slots + 36) Q (F0 m (pc + 3) ls (.int r :: rest))) : W p l e R s m args below meth c H locs cells slots Q (F0 m pc ls (.ref b5 :: .int b4 :: .int b3 :: .int b2 :: .int b1 :: .ref b0 :: rest)) :=
  sj_xI hH (sj_runSX (n := 6) hC hH (As := [.ref b0, .int b1, .int b2, .int b3, .int b4, .ref b5]) (wk_L_asks G l hC.2.2.2.2.2.2 b0 b1 b2 b3 b4 b5 w Qi (fun _ _ => False) hv) mb_358 mb_359 mb_0 mb_360 (by decide +kernel) hR hf rfl hls hW hdg) (fun _ _ _ _ _ _ _ h _ _ _ => h.elim) kk
end SJL_L_asks
abbrev rm_L_asksRows : Room := { frames := 9, cells := 6, slots := 30, locals := 151 }
def vc_L_asksRows (a1 : Nat) (a2 : Int32) (a3 : Int32) (a4 : Int32) (a5 : Int32) (a6 : Nat) (w : sj_W) (Q : Int32 → sj_W → Prop) : Prop := sj_T w a1 = 5 ∧ vc_X6_asksRows a1 a2 a3 a4 a5 w (fun r1 w2 => sj_T w2 a6 = 8 ∧ vp_in 0 (sj_N w2 a6) ∧ ∀ w4 : sj_W, w4 = sj_sl w2 a6 (0 : Int32).toNatClampNeg (r1.toInt64) → Q 0 w4) (fun E w6 => ((E = "java/lang/IllegalArgumentException" → Q 1 w6) ∧ (E = "java/lang/IndexOutOfBoundsException" → Q 2 w6) ∧ (E = "java/lang/IllegalArgumentException" ∨ E = "java/lang/IndexOutOfBoundsException")))
set_option maxHeartbeats 4000000 in
set_option maxRecDepth 100000 in
theorem wk_L_asksRows (G : sj_G) (l : Launch) (hlt : l.stackTraces = false) (a1 : Nat) (a2 : Int32) (a3 : Int32) (a4 : Int32) (a5 : Int32) (a6 : Nat) (w : sj_W) (Q : Int32 → sj_W → Prop) (QX : String → sj_W → Prop) (hv : vc_L_asksRows a1 a2 a3 a4 a5 a6 w Q) : sj_MI G l yL_asksRows (sj_wsW yL_asksRows cL_asksRows 7 (some .int) [(0, 14, 17, 13), (0, 14, 21, 15)]) rm_L_asksRows [.ref a1, .int a2, .int a3, .int a4, .int a5, .ref a6] w Q QX := by
  refine sj_ofW (by decide +kernel) (Nat.le_of_ble_eq_true rfl) hlt ?_
  intro p e s m args below meth c ls hC htb hk hr hH hl
  have hx := hC.1
  have hb := hC.2.1
  have hl : lv_has ls 7 [(0, .ref a1), (1, .int a2), (2, .int a3), (3, .int a4), (4, .int a5), (5, .ref a6)] := hl
  refine lv_aload hx hb dL_asksRows_0 (lv_at hl 5 rfl) ?_
  refine lv_iconst (v := 0) hx hb dL_asksRows_2 (by decide) ?_
  refine lv_aload_n hx hb dL_asksRows_3 rfl (lv_at hl 0 rfl) ?_
  refine lv_iload_n hx hb dL_asksRows_4 rfl (lv_at hl 1 rfl) ?_
  refine lv_iload_n hx hb dL_asksRows_5 rfl (lv_at hl 2 rfl) ?_
  refine lv_iload_n hx hb dL_asksRows_6 rfl (lv_at hl 3 rfl) ?_
  refine lv_iload hx hb dL_asksRows_7 (lv_at hl 4 rfl) ?_
  refine cx_L_65 hC hH hv.2 hv.1 ⟨Nat.le_of_ble_eq_true rfl, Nat.le_of_ble_eq_true rfl⟩ ⟨(Nat.le_of_ble_eq_true rfl), (Nat.le_of_ble_eq_true rfl)⟩ hl.1 (Nat.le_of_ble_eq_true rfl) dL_asksRows_9 (fun E ce q9 w6 H locs hH hE7 hq9 hcv hcl => ?_) (fun r1 w2 H locs hH hv3 => ?_)
  · rcases hE7.2.2 with rfl | rfl
    · have hv8 := hE7.1 rfl
      refine sj_catch (E := "java/lang/IllegalArgumentException") hC htb [] ⟨0, 14, 17, 13⟩ [⟨0, 14, 21, 15⟩] rfl (fun _ h => nomatch h) (by decide) (by decide) mb_128 mb_140 hq9 hcv hcl ?_
      refine lv_astore (lv' := [(6, .ref q9), (0, .ref a1), (1, .int a2), (2, .int a3), (3, .int a4), (4, .int a5), (5, .ref a6)]) hx hb dL_asksRows_17 hl (by decide) rfl (fun ls hl => ?_)
      refine lv_iconst (v := 1) hx hb dL_asksRows_19 (by decide) ?_
      exact sj_retI hC hk hH hr rfl hv8 ⟨(Nat.le_of_ble_eq_true rfl), (Nat.le_of_ble_eq_true rfl)⟩ dL_asksRows_20
    · have hv9 := hE7.2.1 rfl
      refine sj_catch (E := "java/lang/IndexOutOfBoundsException") hC htb [⟨0, 14, 17, 13⟩] ⟨0, 14, 21, 15⟩ [] rfl (by intro z hz; simp only [List.mem_cons, List.not_mem_nil, or_false] at hz; rcases hz with rfl <;> first | exact ⟨by decide, _, mb_128, by decide +kernel⟩) (by decide) (by decide) mb_129 mb_225 hq9 hcv hcl ?_
      refine lv_astore (lv' := [(6, .ref q9), (0, .ref a1), (1, .int a2), (2, .int a3), (3, .int a4), (4, .int a5), (5, .ref a6)]) hx hb dL_asksRows_21 hl (by decide) rfl (fun ls hl => ?_)
      refine lv_iconst (v := 2) hx hb dL_asksRows_23 (by decide) ?_
      exact sj_retI hC hk hH hr rfl hv9 ⟨(Nat.le_of_ble_eq_true rfl), (Nat.le_of_ble_eq_true rfl)⟩ dL_asksRows_24
  refine lv_i2l hx hb dL_asksRows_12 rfl ?_
  refine sj_last hC hH hv3.1 hv3.2.1 dL_asksRows_13 (fun w4 H locs e5 hH => ?_)
  refine lv_goto (tgt := 25) hx hb dL_asksRows_14 (by decide) ?_
  refine lv_iconst (v := 0) hx hb dL_asksRows_25 (by decide) ?_
  exact sj_retI hC hk hH hr rfl (hv3.2.2 w4 e5) ⟨(Nat.le_of_ble_eq_true rfl), (Nat.le_of_ble_eq_true rfl)⟩ dL_asksRows_26
section SJL_L_asksRows
variable {p : Program} {l : Launch} {e : Env} {R : Room} {s : State} {m : MethodId} {args : Array Value} {below : List Frame} {meth : Method} {c : Code} {H : Heap} {locs : List Loc} {cells slots : Nat} {Q : State → Prop} {cc : ByteArray} {pc : Nat} {ls : Array Slot} {rest : List Value} {G : sj_G} {nL : Nat} {w : sj_W}
theorem cg_L_194 {b0 : Nat} {b1 : Int32} {b2 : Int32} {b3 : Int32} {b4 : Int32} {b5 : Nat} {Qi : Int32 → sj_W → Prop} (hC : sj_C G p l s m args c cc RL nL) (hH : sj_H G s w H locs) (hv : vc_L_asksRows b0 b1 b2 b3 b4 b5 w Qi) (hR : rm_L_asksRows.frames + 1 ≤ R.frames ∧ 8 + (7 + 11) + rm_L_asksRows.locals ≤ R.locals) (hf : cells + 6 ≤ R.cells ∧ slots + 30 ≤ R.slots) (hls : ls.size = nL) (hW : (rest.map fun v => v.category).sum ≤ 8) (hdg : decode cc pc = .ok (.invokestatic 194, 3)) (kk : ∀ (r : Int32) (w1 : sj_W) (H : Heap) (locs : List Loc), sj_H G s w1 H locs → Qi r w1 → W p l e R s m args below meth c H locs (cells + 6) (slots + 30) Q (F0 m (pc + 3) ls (.int r :: rest))) : W p l e R s m args below meth c H locs cells slots Q (F0 m pc ls (.ref b5 :: .int b4 :: .int b3 :: .int b2 :: .int b1 :: .ref b0 :: rest)) :=
  sj_xI hH (sj_runSX (n := 6) hC hH (As := [.ref b0, .int b1, .int b2, .int b3, .int b4, .ref b5]) (wk_L_asksRows G l hC.2.2.2.2.2.2 b0 b1 b2 b3 b4 b5 w Qi (fun _ _ => False) hv) mb_424 mb_425 mb_0 mb_426 (by decide +kernel) hR hf rfl hls hW hdg) (fun _ _ _ _ _ _ _ h _ _ _ => h.elim) kk
end SJL_L_asksRows
abbrev rm_L_clear : Room := { frames := 9, cells := 2, slots := 12, locals := 148 }
def vc_L_clear (a1 : Nat) (a2 : Int32) (a3 : Int32) (a4 : Nat) (w : sj_W) (Q : Int32 → sj_W → Prop) : Prop := sj_T w a1 = 5 ∧ vc_X6_clear a1 a2 a3 w (fun r1 w2 => sj_T w2 a4 = 8 ∧ vp_in 0 (sj_N w2 a4) ∧ ∀ w4 : sj_W, w4 = sj_sl w2 a4 (0 : Int32).toNatClampNeg (r1.toInt64) → Q 0 w4) (fun E w6 => ((E = "java/lang/IllegalArgumentException" → Q 1 w6) ∧ (E = "java/lang/IndexOutOfBoundsException" → Q 2 w6) ∧ (E = "java/lang/IllegalArgumentException" ∨ E = "java/lang/IndexOutOfBoundsException")))
set_option maxHeartbeats 4000000 in
set_option maxRecDepth 100000 in
theorem wk_L_clear (G : sj_G) (l : Launch) (hlt : l.stackTraces = false) (a1 : Nat) (a2 : Int32) (a3 : Int32) (a4 : Nat) (w : sj_W) (Q : Int32 → sj_W → Prop) (QX : String → sj_W → Prop) (hv : vc_L_clear a1 a2 a3 a4 w Q) : sj_MI G l yL_clear (sj_wsW yL_clear cL_clear 5 (some .int) [(0, 10, 13, 13), (0, 10, 17, 15)]) rm_L_clear [.ref a1, .int a2, .int a3, .ref a4] w Q QX := by
  refine sj_ofW (by decide +kernel) (Nat.le_of_ble_eq_true rfl) hlt ?_
  intro p e s m args below meth c ls hC htb hk hr hH hl
  have hx := hC.1
  have hb := hC.2.1
  have hl : lv_has ls 5 [(0, .ref a1), (1, .int a2), (2, .int a3), (3, .ref a4)] := hl
  refine lv_aload_n hx hb dL_clear_0 rfl (lv_at hl 3 rfl) ?_
  refine lv_iconst (v := 0) hx hb dL_clear_1 (by decide) ?_
  refine lv_aload_n hx hb dL_clear_2 rfl (lv_at hl 0 rfl) ?_
  refine lv_iload_n hx hb dL_clear_3 rfl (lv_at hl 1 rfl) ?_
  refine lv_iload_n hx hb dL_clear_4 rfl (lv_at hl 2 rfl) ?_
  refine cx_L_31 hC hH hv.2 hv.1 ⟨Nat.le_of_ble_eq_true rfl, Nat.le_of_ble_eq_true rfl⟩ ⟨(Nat.le_of_ble_eq_true rfl), (Nat.le_of_ble_eq_true rfl)⟩ hl.1 (Nat.le_of_ble_eq_true rfl) dL_clear_5 (fun E ce q9 w6 H locs hH hE7 hq9 hcv hcl => ?_) (fun r1 w2 H locs hH hv3 => ?_)
  · rcases hE7.2.2 with rfl | rfl
    · have hv8 := hE7.1 rfl
      refine sj_catch (E := "java/lang/IllegalArgumentException") hC htb [] ⟨0, 10, 13, 13⟩ [⟨0, 10, 17, 15⟩] rfl (fun _ h => nomatch h) (by decide) (by decide) mb_128 mb_140 hq9 hcv hcl ?_
      refine lv_astore (lv' := [(4, .ref q9), (0, .ref a1), (1, .int a2), (2, .int a3), (3, .ref a4)]) hx hb dL_clear_13 hl (by decide) rfl (fun ls hl => ?_)
      refine lv_iconst (v := 1) hx hb dL_clear_15 (by decide) ?_
      exact sj_retI hC hk hH hr rfl hv8 ⟨(Nat.le_of_ble_eq_true rfl), (Nat.le_of_ble_eq_true rfl)⟩ dL_clear_16
    · have hv9 := hE7.2.1 rfl
      refine sj_catch (E := "java/lang/IndexOutOfBoundsException") hC htb [⟨0, 10, 13, 13⟩] ⟨0, 10, 17, 15⟩ [] rfl (by intro z hz; simp only [List.mem_cons, List.not_mem_nil, or_false] at hz; rcases hz with rfl <;> first | exact ⟨by decide, _, mb_128, by decide +kernel⟩) (by decide) (by decide) mb_129 mb_225 hq9 hcv hcl ?_
      refine lv_astore (lv' := [(4, .ref q9), (0, .ref a1), (1, .int a2), (2, .int a3), (3, .ref a4)]) hx hb dL_clear_17 hl (by decide) rfl (fun ls hl => ?_)
      refine lv_iconst (v := 2) hx hb dL_clear_19 (by decide) ?_
      exact sj_retI hC hk hH hr rfl hv9 ⟨(Nat.le_of_ble_eq_true rfl), (Nat.le_of_ble_eq_true rfl)⟩ dL_clear_20
  refine lv_i2l hx hb dL_clear_8 rfl ?_
  refine sj_last hC hH hv3.1 hv3.2.1 dL_clear_9 (fun w4 H locs e5 hH => ?_)
  refine lv_goto (tgt := 21) hx hb dL_clear_10 (by decide) ?_
  refine lv_iconst (v := 0) hx hb dL_clear_21 (by decide) ?_
  exact sj_retI hC hk hH hr rfl (hv3.2.2 w4 e5) ⟨(Nat.le_of_ble_eq_true rfl), (Nat.le_of_ble_eq_true rfl)⟩ dL_clear_22
section SJL_L_clear
variable {p : Program} {l : Launch} {e : Env} {R : Room} {s : State} {m : MethodId} {args : Array Value} {below : List Frame} {meth : Method} {c : Code} {H : Heap} {locs : List Loc} {cells slots : Nat} {Q : State → Prop} {cc : ByteArray} {pc : Nat} {ls : Array Slot} {rest : List Value} {G : sj_G} {nL : Nat} {w : sj_W}
theorem cg_L_162 {b0 : Nat} {b1 : Int32} {b2 : Int32} {b3 : Nat} {Qi : Int32 → sj_W → Prop} (hC : sj_C G p l s m args c cc RL nL) (hH : sj_H G s w H locs) (hv : vc_L_clear b0 b1 b2 b3 w Qi) (hR : rm_L_clear.frames + 1 ≤ R.frames ∧ 8 + (5 + 11) + rm_L_clear.locals ≤ R.locals) (hf : cells + 2 ≤ R.cells ∧ slots + 12 ≤ R.slots) (hls : ls.size = nL) (hW : (rest.map fun v => v.category).sum ≤ 8) (hdg : decode cc pc = .ok (.invokestatic 162, 3)) (kk : ∀ (r : Int32) (w1 : sj_W) (H : Heap) (locs : List Loc), sj_H G s w1 H locs → Qi r w1 → W p l e R s m args below meth c H locs (cells + 2) (slots + 12) Q (F0 m (pc + 3) ls (.int r :: rest))) : W p l e R s m args below meth c H locs cells slots Q (F0 m pc ls (.ref b3 :: .int b2 :: .int b1 :: .ref b0 :: rest)) :=
  sj_xI hH (sj_runSX (n := 4) hC hH (As := [.ref b0, .int b1, .int b2, .ref b3]) (wk_L_clear G l hC.2.2.2.2.2.2 b0 b1 b2 b3 w Qi (fun _ _ => False) hv) mb_280 mb_281 mb_0 mb_282 (by decide +kernel) hR hf rfl hls hW hdg) (fun _ _ _ _ _ _ _ h _ _ _ => h.elim) kk
end SJL_L_clear
abbrev rm_L_common : Room := { frames := 8, cells := 5, slots := 30, locals := 130 }
def vc_L_common (a1 : Nat) (a2 : Int32) (a3 : Int32) (a4 : Int32) (a5 : Nat) (w : sj_W) (Q : Int32 → sj_W → Prop) : Prop := sj_T w a1 = 5 ∧ vc_X6_common a1 a2 a3 a4 w (fun r1 w2 => sj_T w2 a5 = 8 ∧ vp_in 0 (sj_N w2 a5) ∧ ∀ w4 : sj_W, w4 = sj_sl w2 a5 (0 : Int32).toNatClampNeg (r1.toInt64) → Q 0 w4) (fun E w6 => ((E = "java/lang/IllegalArgumentException" → Q 1 w6) ∧ (E = "java/lang/IndexOutOfBoundsException" → Q 2 w6) ∧ (E = "java/lang/IllegalStateException" → Q 3 w6) ∧ (E = "java/lang/IllegalArgumentException" ∨ E = "java/lang/IndexOutOfBoundsException" ∨ E = "java/lang/IllegalStateException")))
set_option maxHeartbeats 4000000 in
set_option maxRecDepth 100000 in
theorem wk_L_common (G : sj_G) (l : Launch) (hlt : l.stackTraces = false) (a1 : Nat) (a2 : Int32) (a3 : Int32) (a4 : Int32) (a5 : Nat) (w : sj_W) (Q : Int32 → sj_W → Prop) (QX : String → sj_W → Prop) (hv : vc_L_common a1 a2 a3 a4 a5 w Q) : sj_MI G l yL_common (sj_wsW yL_common cL_common 6 (some .int) [(0, 12, 15, 13), (0, 12, 19, 15), (0, 12, 23, 17)]) rm_L_common [.ref a1, .int a2, .int a3, .int a4, .ref a5] w Q QX := by
  refine sj_ofW (by decide +kernel) (Nat.le_of_ble_eq_true rfl) hlt ?_
  intro p e s m args below meth c ls hC htb hk hr hH hl
  have hx := hC.1
  have hb := hC.2.1
  have hl : lv_has ls 6 [(0, .ref a1), (1, .int a2), (2, .int a3), (3, .int a4), (4, .ref a5)] := hl
  refine lv_aload hx hb dL_common_0 (lv_at hl 4 rfl) ?_
  refine lv_iconst (v := 0) hx hb dL_common_2 (by decide) ?_
  refine lv_aload_n hx hb dL_common_3 rfl (lv_at hl 0 rfl) ?_
  refine lv_iload_n hx hb dL_common_4 rfl (lv_at hl 1 rfl) ?_
  refine lv_iload_n hx hb dL_common_5 rfl (lv_at hl 2 rfl) ?_
  refine lv_iload_n hx hb dL_common_6 rfl (lv_at hl 3 rfl) ?_
  refine cx_L_72 hC hH hv.2 hv.1 ⟨Nat.le_of_ble_eq_true rfl, Nat.le_of_ble_eq_true rfl⟩ ⟨(Nat.le_of_ble_eq_true rfl), (Nat.le_of_ble_eq_true rfl)⟩ hl.1 (Nat.le_of_ble_eq_true rfl) dL_common_7 (fun E ce q9 w6 H locs hH hE7 hq9 hcv hcl => ?_) (fun r1 w2 H locs hH hv3 => ?_)
  · rcases hE7.2.2.2 with rfl | rfl | rfl
    · have hv8 := hE7.1 rfl
      refine sj_catch (E := "java/lang/IllegalArgumentException") hC htb [] ⟨0, 12, 15, 13⟩ [⟨0, 12, 19, 15⟩, ⟨0, 12, 23, 17⟩] rfl (fun _ h => nomatch h) (by decide) (by decide) mb_128 mb_140 hq9 hcv hcl ?_
      refine lv_astore (lv' := [(5, .ref q9), (0, .ref a1), (1, .int a2), (2, .int a3), (3, .int a4), (4, .ref a5)]) hx hb dL_common_15 hl (by decide) rfl (fun ls hl => ?_)
      refine lv_iconst (v := 1) hx hb dL_common_17 (by decide) ?_
      exact sj_retI hC hk hH hr rfl hv8 ⟨(Nat.le_of_ble_eq_true rfl), (Nat.le_of_ble_eq_true rfl)⟩ dL_common_18
    · have hv9 := hE7.2.1 rfl
      refine sj_catch (E := "java/lang/IndexOutOfBoundsException") hC htb [⟨0, 12, 15, 13⟩] ⟨0, 12, 19, 15⟩ [⟨0, 12, 23, 17⟩] rfl (by intro z hz; simp only [List.mem_cons, List.not_mem_nil, or_false] at hz; rcases hz with rfl <;> first | exact ⟨by decide, _, mb_128, by decide +kernel⟩) (by decide) (by decide) mb_129 mb_225 hq9 hcv hcl ?_
      refine lv_astore (lv' := [(5, .ref q9), (0, .ref a1), (1, .int a2), (2, .int a3), (3, .int a4), (4, .ref a5)]) hx hb dL_common_19 hl (by decide) rfl (fun ls hl => ?_)
      refine lv_iconst (v := 2) hx hb dL_common_21 (by decide) ?_
      exact sj_retI hC hk hH hr rfl hv9 ⟨(Nat.le_of_ble_eq_true rfl), (Nat.le_of_ble_eq_true rfl)⟩ dL_common_22
    · have hv10 := hE7.2.2.1 rfl
      refine sj_catch (E := "java/lang/IllegalStateException") hC htb [⟨0, 12, 15, 13⟩, ⟨0, 12, 19, 15⟩] ⟨0, 12, 23, 17⟩ [] rfl (by intro z hz; simp only [List.mem_cons, List.not_mem_nil, or_false] at hz; rcases hz with rfl | rfl <;> first | exact ⟨by decide, _, mb_128, by decide +kernel⟩ | exact ⟨by decide, _, mb_129, by decide +kernel⟩) (by decide) (by decide) mb_130 mb_241 hq9 hcv hcl ?_
      refine lv_astore (lv' := [(5, .ref q9), (0, .ref a1), (1, .int a2), (2, .int a3), (3, .int a4), (4, .ref a5)]) hx hb dL_common_23 hl (by decide) rfl (fun ls hl => ?_)
      refine lv_iconst (v := 3) hx hb dL_common_25 (by decide) ?_
      exact sj_retI hC hk hH hr rfl hv10 ⟨(Nat.le_of_ble_eq_true rfl), (Nat.le_of_ble_eq_true rfl)⟩ dL_common_26
  refine lv_i2l hx hb dL_common_10 rfl ?_
  refine sj_last hC hH hv3.1 hv3.2.1 dL_common_11 (fun w4 H locs e5 hH => ?_)
  refine lv_goto (tgt := 27) hx hb dL_common_12 (by decide) ?_
  refine lv_iconst (v := 0) hx hb dL_common_27 (by decide) ?_
  exact sj_retI hC hk hH hr rfl (hv3.2.2 w4 e5) ⟨(Nat.le_of_ble_eq_true rfl), (Nat.le_of_ble_eq_true rfl)⟩ dL_common_28
section SJL_L_common
variable {p : Program} {l : Launch} {e : Env} {R : Room} {s : State} {m : MethodId} {args : Array Value} {below : List Frame} {meth : Method} {c : Code} {H : Heap} {locs : List Loc} {cells slots : Nat} {Q : State → Prop} {cc : ByteArray} {pc : Nat} {ls : Array Slot} {rest : List Value} {G : sj_G} {nL : Nat} {w : sj_W}
theorem cg_L_201 {b0 : Nat} {b1 : Int32} {b2 : Int32} {b3 : Int32} {b4 : Nat} {Qi : Int32 → sj_W → Prop} (hC : sj_C G p l s m args c cc RL nL) (hH : sj_H G s w H locs) (hv : vc_L_common b0 b1 b2 b3 b4 w Qi) (hR : rm_L_common.frames + 1 ≤ R.frames ∧ 8 + (6 + 11) + rm_L_common.locals ≤ R.locals) (hf : cells + 5 ≤ R.cells ∧ slots + 30 ≤ R.slots) (hls : ls.size = nL) (hW : (rest.map fun v => v.category).sum ≤ 8) (hdg : decode cc pc = .ok (.invokestatic 201, 3)) (kk : ∀ (r : Int32) (w1 : sj_W) (H : Heap) (locs : List Loc), sj_H G s w1 H locs → Qi r w1 → W p l e R s m args below meth c H locs (cells + 5) (slots + 30) Q (F0 m (pc + 3) ls (.int r :: rest))) : W p l e R s m args below meth c H locs cells slots Q (F0 m pc ls (.ref b4 :: .int b3 :: .int b2 :: .int b1 :: .ref b0 :: rest)) :=
  sj_xI hH (sj_runSX (n := 5) hC hH (As := [.ref b0, .int b1, .int b2, .int b3, .ref b4]) (wk_L_common G l hC.2.2.2.2.2.2 b0 b1 b2 b3 b4 w Qi (fun _ _ => False) hv) mb_438 mb_439 mb_0 mb_440 (by decide +kernel) hR hf rfl hls hW hdg) (fun _ _ _ _ _ _ _ h _ _ _ => h.elim) kk
end SJL_L_common
abbrev rm_L_convert : Room := { frames := 9, cells := 5, slots := 30, locals := 154 }
def vc_L_convert (a1 : Nat) (a2 : Int32) (a3 : Int32) (a4 : Int32) (a5 : Int32) (a6 : Int32) (a7 : Nat) (w : sj_W) (Q : Int32 → sj_W → Prop) : Prop := sj_T w a1 = 5 ∧ vc_X6_convert a1 a2 a3 a4 a5 a6 w (fun r1 w2 => sj_T w2 a7 = 8 ∧ vp_in 0 (sj_N w2 a7) ∧ ∀ w4 : sj_W, w4 = sj_sl w2 a7 (0 : Int32).toNatClampNeg (r1.toInt64) → Q 0 w4) (fun E w6 => ((E = "java/lang/IllegalArgumentException" → Q 1 w6) ∧ (E = "java/lang/IndexOutOfBoundsException" → Q 2 w6) ∧ (E = "java/lang/IllegalStateException" → Q 3 w6) ∧ (E = "java/lang/IllegalArgumentException" ∨ E = "java/lang/IndexOutOfBoundsException" ∨ E = "java/lang/IllegalStateException")))
set_option maxHeartbeats 4000000 in
set_option maxRecDepth 100000 in
theorem wk_L_convert (G : sj_G) (l : Launch) (hlt : l.stackTraces = false) (a1 : Nat) (a2 : Int32) (a3 : Int32) (a4 : Int32) (a5 : Int32) (a6 : Int32) (a7 : Nat) (w : sj_W) (Q : Int32 → sj_W → Prop) (QX : String → sj_W → Prop) (hv : vc_L_convert a1 a2 a3 a4 a5 a6 a7 w Q) : sj_MI G l yL_convert (sj_wsW yL_convert cL_convert 8 (some .int) [(0, 16, 19, 13), (0, 16, 23, 15), (0, 16, 27, 17)]) rm_L_convert [.ref a1, .int a2, .int a3, .int a4, .int a5, .int a6, .ref a7] w Q QX := by
  refine sj_ofW (by decide +kernel) (Nat.le_of_ble_eq_true rfl) hlt ?_
  intro p e s m args below meth c ls hC htb hk hr hH hl
  have hx := hC.1
  have hb := hC.2.1
  have hl : lv_has ls 8 [(0, .ref a1), (1, .int a2), (2, .int a3), (3, .int a4), (4, .int a5), (5, .int a6), (6, .ref a7)] := hl
  refine lv_aload hx hb dL_convert_0 (lv_at hl 6 rfl) ?_
  refine lv_iconst (v := 0) hx hb dL_convert_2 (by decide) ?_
  refine lv_aload_n hx hb dL_convert_3 rfl (lv_at hl 0 rfl) ?_
  refine lv_iload_n hx hb dL_convert_4 rfl (lv_at hl 1 rfl) ?_
  refine lv_iload_n hx hb dL_convert_5 rfl (lv_at hl 2 rfl) ?_
  refine lv_iload_n hx hb dL_convert_6 rfl (lv_at hl 3 rfl) ?_
  refine lv_iload hx hb dL_convert_7 (lv_at hl 4 rfl) ?_
  refine lv_iload hx hb dL_convert_9 (lv_at hl 5 rfl) ?_
  refine cx_L_45 hC hH hv.2 hv.1 ⟨Nat.le_of_ble_eq_true rfl, Nat.le_of_ble_eq_true rfl⟩ ⟨(Nat.le_of_ble_eq_true rfl), (Nat.le_of_ble_eq_true rfl)⟩ hl.1 (Nat.le_of_ble_eq_true rfl) dL_convert_11 (fun E ce q9 w6 H locs hH hE7 hq9 hcv hcl => ?_) (fun r1 w2 H locs hH hv3 => ?_)
  · rcases hE7.2.2.2 with rfl | rfl | rfl
    · have hv8 := hE7.1 rfl
      refine sj_catch (E := "java/lang/IllegalArgumentException") hC htb [] ⟨0, 16, 19, 13⟩ [⟨0, 16, 23, 15⟩, ⟨0, 16, 27, 17⟩] rfl (fun _ h => nomatch h) (by decide) (by decide) mb_128 mb_140 hq9 hcv hcl ?_
      refine lv_astore (lv' := [(7, .ref q9), (0, .ref a1), (1, .int a2), (2, .int a3), (3, .int a4), (4, .int a5), (5, .int a6), (6, .ref a7)]) hx hb dL_convert_19 hl (by decide) rfl (fun ls hl => ?_)
      refine lv_iconst (v := 1) hx hb dL_convert_21 (by decide) ?_
      exact sj_retI hC hk hH hr rfl hv8 ⟨(Nat.le_of_ble_eq_true rfl), (Nat.le_of_ble_eq_true rfl)⟩ dL_convert_22
    · have hv9 := hE7.2.1 rfl
      refine sj_catch (E := "java/lang/IndexOutOfBoundsException") hC htb [⟨0, 16, 19, 13⟩] ⟨0, 16, 23, 15⟩ [⟨0, 16, 27, 17⟩] rfl (by intro z hz; simp only [List.mem_cons, List.not_mem_nil, or_false] at hz; rcases hz with rfl <;> first | exact ⟨by decide, _, mb_128, by decide +kernel⟩) (by decide) (by decide) mb_129 mb_225 hq9 hcv hcl ?_
      refine lv_astore (lv' := [(7, .ref q9), (0, .ref a1), (1, .int a2), (2, .int a3), (3, .int a4), (4, .int a5), (5, .int a6), (6, .ref a7)]) hx hb dL_convert_23 hl (by decide) rfl (fun ls hl => ?_)
      refine lv_iconst (v := 2) hx hb dL_convert_25 (by decide) ?_
      exact sj_retI hC hk hH hr rfl hv9 ⟨(Nat.le_of_ble_eq_true rfl), (Nat.le_of_ble_eq_true rfl)⟩ dL_convert_26
    · have hv10 := hE7.2.2.1 rfl
      refine sj_catch (E := "java/lang/IllegalStateException") hC htb [⟨0, 16, 19, 13⟩, ⟨0, 16, 23, 15⟩] ⟨0, 16, 27, 17⟩ [] rfl (by intro z hz; simp only [List.mem_cons, List.not_mem_nil, or_false] at hz; rcases hz with rfl | rfl <;> first | exact ⟨by decide, _, mb_128, by decide +kernel⟩ | exact ⟨by decide, _, mb_129, by decide +kernel⟩) (by decide) (by decide) mb_130 mb_241 hq9 hcv hcl ?_
      refine lv_astore (lv' := [(7, .ref q9), (0, .ref a1), (1, .int a2), (2, .int a3), (3, .int a4), (4, .int a5), (5, .int a6), (6, .ref a7)]) hx hb dL_convert_27 hl (by decide) rfl (fun ls hl => ?_)
      refine lv_iconst (v := 3) hx hb dL_convert_29 (by decide) ?_
      exact sj_retI hC hk hH hr rfl hv10 ⟨(Nat.le_of_ble_eq_true rfl), (Nat.le_of_ble_eq_true rfl)⟩ dL_convert_30
  refine lv_i2l hx hb dL_convert_14 rfl ?_
  refine sj_last hC hH hv3.1 hv3.2.1 dL_convert_15 (fun w4 H locs e5 hH => ?_)
  refine lv_goto (tgt := 31) hx hb dL_convert_16 (by decide) ?_
  refine lv_iconst (v := 0) hx hb dL_convert_31 (by decide) ?_
  exact sj_retI hC hk hH hr rfl (hv3.2.2 w4 e5) ⟨(Nat.le_of_ble_eq_true rfl), (Nat.le_of_ble_eq_true rfl)⟩ dL_convert_32
section SJL_L_convert
variable {p : Program} {l : Launch} {e : Env} {R : Room} {s : State} {m : MethodId} {args : Array Value} {below : List Frame} {meth : Method} {c : Code} {H : Heap} {locs : List Loc} {cells slots : Nat} {Q : State → Prop} {cc : ByteArray} {pc : Nat} {ls : Array Slot} {rest : List Value} {G : sj_G} {nL : Nat} {w : sj_W}
theorem cg_L_175 {b0 : Nat} {b1 : Int32} {b2 : Int32} {b3 : Int32} {b4 : Int32} {b5 : Int32} {b6 : Nat} {Qi : Int32 → sj_W → Prop} (hC : sj_C G p l s m args c cc RL nL) (hH : sj_H G s w H locs) (hv : vc_L_convert b0 b1 b2 b3 b4 b5 b6 w Qi) (hR : rm_L_convert.frames + 1 ≤ R.frames ∧ 8 + (8 + 11) + rm_L_convert.locals ≤ R.locals) (hf : cells + 5 ≤ R.cells ∧ slots + 30 ≤ R.slots) (hls : ls.size = nL) (hW : (rest.map fun v => v.category).sum ≤ 8) (hdg : decode cc pc = .ok (.invokestatic 175, 3)) (kk : ∀ (r : Int32) (w1 : sj_W) (H : Heap) (locs : List Loc), sj_H G s w1 H locs → Qi r w1 → W p l e R s m args below meth c H locs (cells + 5) (slots + 30) Q (F0 m (pc + 3) ls (.int r :: rest))) : W p l e R s m args below meth c H locs cells slots Q (F0 m pc ls (.ref b6 :: .int b5 :: .int b4 :: .int b3 :: .int b2 :: .int b1 :: .ref b0 :: rest)) :=
  sj_xI hH (sj_runSX (n := 7) hC hH (As := [.ref b0, .int b1, .int b2, .int b3, .int b4, .int b5, .ref b6]) (wk_L_convert G l hC.2.2.2.2.2.2 b0 b1 b2 b3 b4 b5 b6 w Qi (fun _ _ => False) hv) mb_311 mb_312 mb_0 mb_313 (by decide +kernel) hR hf rfl hls hW hdg) (fun _ _ _ _ _ _ _ h _ _ _ => h.elim) kk
end SJL_L_convert
abbrev rm_L_cut : Room := { frames := 9, cells := 3, slots := 18, locals := 150 }
def vc_L_cut (a1 : Nat) (a2 : Int32) (a3 : Int32) (a4 : Int32) (a5 : Int32) (a6 : Nat) (w : sj_W) (Q : Int32 → sj_W → Prop) : Prop := sj_T w a1 = 5 ∧ vc_X6_cut a1 a2 a3 a4 a5 w (fun r1 w2 => sj_T w2 a6 = 8 ∧ vp_in 0 (sj_N w2 a6) ∧ ∀ w4 : sj_W, w4 = sj_sl w2 a6 (0 : Int32).toNatClampNeg (r1.toInt64) → Q 0 w4) (fun E w6 => ((E = "java/lang/IllegalArgumentException" → Q 1 w6) ∧ (E = "java/lang/IndexOutOfBoundsException" → Q 2 w6) ∧ (E = "java/lang/IllegalArgumentException" ∨ E = "java/lang/IndexOutOfBoundsException")))
set_option maxHeartbeats 4000000 in
set_option maxRecDepth 100000 in
theorem wk_L_cut (G : sj_G) (l : Launch) (hlt : l.stackTraces = false) (a1 : Nat) (a2 : Int32) (a3 : Int32) (a4 : Int32) (a5 : Int32) (a6 : Nat) (w : sj_W) (Q : Int32 → sj_W → Prop) (QX : String → sj_W → Prop) (hv : vc_L_cut a1 a2 a3 a4 a5 a6 w Q) : sj_MI G l yL_cut (sj_wsW yL_cut cL_cut 7 (some .int) [(0, 14, 17, 13), (0, 14, 21, 15)]) rm_L_cut [.ref a1, .int a2, .int a3, .int a4, .int a5, .ref a6] w Q QX := by
  refine sj_ofW (by decide +kernel) (Nat.le_of_ble_eq_true rfl) hlt ?_
  intro p e s m args below meth c ls hC htb hk hr hH hl
  have hx := hC.1
  have hb := hC.2.1
  have hl : lv_has ls 7 [(0, .ref a1), (1, .int a2), (2, .int a3), (3, .int a4), (4, .int a5), (5, .ref a6)] := hl
  refine lv_aload hx hb dL_cut_0 (lv_at hl 5 rfl) ?_
  refine lv_iconst (v := 0) hx hb dL_cut_2 (by decide) ?_
  refine lv_aload_n hx hb dL_cut_3 rfl (lv_at hl 0 rfl) ?_
  refine lv_iload_n hx hb dL_cut_4 rfl (lv_at hl 1 rfl) ?_
  refine lv_iload_n hx hb dL_cut_5 rfl (lv_at hl 2 rfl) ?_
  refine lv_iload_n hx hb dL_cut_6 rfl (lv_at hl 3 rfl) ?_
  refine lv_iload hx hb dL_cut_7 (lv_at hl 4 rfl) ?_
  refine cx_L_41 hC hH hv.2 hv.1 ⟨Nat.le_of_ble_eq_true rfl, Nat.le_of_ble_eq_true rfl⟩ ⟨(Nat.le_of_ble_eq_true rfl), (Nat.le_of_ble_eq_true rfl)⟩ hl.1 (Nat.le_of_ble_eq_true rfl) dL_cut_9 (fun E ce q9 w6 H locs hH hE7 hq9 hcv hcl => ?_) (fun r1 w2 H locs hH hv3 => ?_)
  · rcases hE7.2.2 with rfl | rfl
    · have hv8 := hE7.1 rfl
      refine sj_catch (E := "java/lang/IllegalArgumentException") hC htb [] ⟨0, 14, 17, 13⟩ [⟨0, 14, 21, 15⟩] rfl (fun _ h => nomatch h) (by decide) (by decide) mb_128 mb_140 hq9 hcv hcl ?_
      refine lv_astore (lv' := [(6, .ref q9), (0, .ref a1), (1, .int a2), (2, .int a3), (3, .int a4), (4, .int a5), (5, .ref a6)]) hx hb dL_cut_17 hl (by decide) rfl (fun ls hl => ?_)
      refine lv_iconst (v := 1) hx hb dL_cut_19 (by decide) ?_
      exact sj_retI hC hk hH hr rfl hv8 ⟨(Nat.le_of_ble_eq_true rfl), (Nat.le_of_ble_eq_true rfl)⟩ dL_cut_20
    · have hv9 := hE7.2.1 rfl
      refine sj_catch (E := "java/lang/IndexOutOfBoundsException") hC htb [⟨0, 14, 17, 13⟩] ⟨0, 14, 21, 15⟩ [] rfl (by intro z hz; simp only [List.mem_cons, List.not_mem_nil, or_false] at hz; rcases hz with rfl <;> first | exact ⟨by decide, _, mb_128, by decide +kernel⟩) (by decide) (by decide) mb_129 mb_225 hq9 hcv hcl ?_
      refine lv_astore (lv' := [(6, .ref q9), (0, .ref a1), (1, .int a2), (2, .int a3), (3, .int a4), (4, .int a5), (5, .ref a6)]) hx hb dL_cut_21 hl (by decide) rfl (fun ls hl => ?_)
      refine lv_iconst (v := 2) hx hb dL_cut_23 (by decide) ?_
      exact sj_retI hC hk hH hr rfl hv9 ⟨(Nat.le_of_ble_eq_true rfl), (Nat.le_of_ble_eq_true rfl)⟩ dL_cut_24
  refine lv_i2l hx hb dL_cut_12 rfl ?_
  refine sj_last hC hH hv3.1 hv3.2.1 dL_cut_13 (fun w4 H locs e5 hH => ?_)
  refine lv_goto (tgt := 25) hx hb dL_cut_14 (by decide) ?_
  refine lv_iconst (v := 0) hx hb dL_cut_25 (by decide) ?_
  exact sj_retI hC hk hH hr rfl (hv3.2.2 w4 e5) ⟨(Nat.le_of_ble_eq_true rfl), (Nat.le_of_ble_eq_true rfl)⟩ dL_cut_26
section SJL_L_cut
variable {p : Program} {l : Launch} {e : Env} {R : Room} {s : State} {m : MethodId} {args : Array Value} {below : List Frame} {meth : Method} {c : Code} {H : Heap} {locs : List Loc} {cells slots : Nat} {Q : State → Prop} {cc : ByteArray} {pc : Nat} {ls : Array Slot} {rest : List Value} {G : sj_G} {nL : Nat} {w : sj_W}
theorem cg_L_171 {b0 : Nat} {b1 : Int32} {b2 : Int32} {b3 : Int32} {b4 : Int32} {b5 : Nat} {Qi : Int32 → sj_W → Prop} (hC : sj_C G p l s m args c cc RL nL) (hH : sj_H G s w H locs) (hv : vc_L_cut b0 b1 b2 b3 b4 b5 w Qi) (hR : rm_L_cut.frames + 1 ≤ R.frames ∧ 8 + (7 + 11) + rm_L_cut.locals ≤ R.locals) (hf : cells + 3 ≤ R.cells ∧ slots + 18 ≤ R.slots) (hls : ls.size = nL) (hW : (rest.map fun v => v.category).sum ≤ 8) (hdg : decode cc pc = .ok (.invokestatic 171, 3)) (kk : ∀ (r : Int32) (w1 : sj_W) (H : Heap) (locs : List Loc), sj_H G s w1 H locs → Qi r w1 → W p l e R s m args below meth c H locs (cells + 3) (slots + 18) Q (F0 m (pc + 3) ls (.int r :: rest))) : W p l e R s m args below meth c H locs cells slots Q (F0 m pc ls (.ref b5 :: .int b4 :: .int b3 :: .int b2 :: .int b1 :: .ref b0 :: rest)) :=
  sj_xI hH (sj_runSX (n := 6) hC hH (As := [.ref b0, .int b1, .int b2, .int b3, .int b4, .ref b5]) (wk_L_cut G l hC.2.2.2.2.2.2 b0 b1 b2 b3 b4 b5 w Qi (fun _ _ => False) hv) mb_303 mb_304 mb_0 mb_305 (by decide +kernel) hR hf rfl hls hW hdg) (fun _ _ _ _ _ _ _ h _ _ _ => h.elim) kk
end SJL_L_cut
abbrev rm_L_distinct : Room := { frames := 9, cells := 2, slots := 12, locals := 146 }
def vc_L_distinct (a1 : Nat) (a2 : Int32) (a3 : Int32) (a4 : Nat) (w : sj_W) (Q : Int32 → sj_W → Prop) : Prop := sj_T w a1 = 5 ∧ vc_X6_distinct a1 a2 a3 w (fun r1 w2 => sj_T w2 a4 = 8 ∧ vp_in 0 (sj_N w2 a4) ∧ ∀ w4 : sj_W, w4 = sj_sl w2 a4 (0 : Int32).toNatClampNeg (r1.toInt64) → Q 0 w4) (fun E w6 => ((E = "java/lang/IllegalArgumentException" → Q 1 w6) ∧ (E = "java/lang/IndexOutOfBoundsException" → Q 2 w6) ∧ (E = "java/lang/IllegalArgumentException" ∨ E = "java/lang/IndexOutOfBoundsException")))
set_option maxHeartbeats 4000000 in
set_option maxRecDepth 100000 in
theorem wk_L_distinct (G : sj_G) (l : Launch) (hlt : l.stackTraces = false) (a1 : Nat) (a2 : Int32) (a3 : Int32) (a4 : Nat) (w : sj_W) (Q : Int32 → sj_W → Prop) (QX : String → sj_W → Prop) (hv : vc_L_distinct a1 a2 a3 a4 w Q) : sj_MI G l yL_distinct (sj_wsW yL_distinct cL_distinct 5 (some .int) [(0, 10, 13, 13), (0, 10, 17, 15)]) rm_L_distinct [.ref a1, .int a2, .int a3, .ref a4] w Q QX := by
  refine sj_ofW (by decide +kernel) (Nat.le_of_ble_eq_true rfl) hlt ?_
  intro p e s m args below meth c ls hC htb hk hr hH hl
  have hx := hC.1
  have hb := hC.2.1
  have hl : lv_has ls 5 [(0, .ref a1), (1, .int a2), (2, .int a3), (3, .ref a4)] := hl
  refine lv_aload_n hx hb dL_distinct_0 rfl (lv_at hl 3 rfl) ?_
  refine lv_iconst (v := 0) hx hb dL_distinct_1 (by decide) ?_
  refine lv_aload_n hx hb dL_distinct_2 rfl (lv_at hl 0 rfl) ?_
  refine lv_iload_n hx hb dL_distinct_3 rfl (lv_at hl 1 rfl) ?_
  refine lv_iload_n hx hb dL_distinct_4 rfl (lv_at hl 2 rfl) ?_
  refine cx_L_90 hC hH hv.2 hv.1 ⟨Nat.le_of_ble_eq_true rfl, Nat.le_of_ble_eq_true rfl⟩ ⟨(Nat.le_of_ble_eq_true rfl), (Nat.le_of_ble_eq_true rfl)⟩ hl.1 (Nat.le_of_ble_eq_true rfl) dL_distinct_5 (fun E ce q9 w6 H locs hH hE7 hq9 hcv hcl => ?_) (fun r1 w2 H locs hH hv3 => ?_)
  · rcases hE7.2.2 with rfl | rfl
    · have hv8 := hE7.1 rfl
      refine sj_catch (E := "java/lang/IllegalArgumentException") hC htb [] ⟨0, 10, 13, 13⟩ [⟨0, 10, 17, 15⟩] rfl (fun _ h => nomatch h) (by decide) (by decide) mb_128 mb_140 hq9 hcv hcl ?_
      refine lv_astore (lv' := [(4, .ref q9), (0, .ref a1), (1, .int a2), (2, .int a3), (3, .ref a4)]) hx hb dL_distinct_13 hl (by decide) rfl (fun ls hl => ?_)
      refine lv_iconst (v := 1) hx hb dL_distinct_15 (by decide) ?_
      exact sj_retI hC hk hH hr rfl hv8 ⟨(Nat.le_of_ble_eq_true rfl), (Nat.le_of_ble_eq_true rfl)⟩ dL_distinct_16
    · have hv9 := hE7.2.1 rfl
      refine sj_catch (E := "java/lang/IndexOutOfBoundsException") hC htb [⟨0, 10, 13, 13⟩] ⟨0, 10, 17, 15⟩ [] rfl (by intro z hz; simp only [List.mem_cons, List.not_mem_nil, or_false] at hz; rcases hz with rfl <;> first | exact ⟨by decide, _, mb_128, by decide +kernel⟩) (by decide) (by decide) mb_129 mb_225 hq9 hcv hcl ?_
      refine lv_astore (lv' := [(4, .ref q9), (0, .ref a1), (1, .int a2), (2, .int a3), (3, .ref a4)]) hx hb dL_distinct_17 hl (by decide) rfl (fun ls hl => ?_)
      refine lv_iconst (v := 2) hx hb dL_distinct_19 (by decide) ?_
      exact sj_retI hC hk hH hr rfl hv9 ⟨(Nat.le_of_ble_eq_true rfl), (Nat.le_of_ble_eq_true rfl)⟩ dL_distinct_20
  refine lv_i2l hx hb dL_distinct_8 rfl ?_
  refine sj_last hC hH hv3.1 hv3.2.1 dL_distinct_9 (fun w4 H locs e5 hH => ?_)
  refine lv_goto (tgt := 21) hx hb dL_distinct_10 (by decide) ?_
  refine lv_iconst (v := 0) hx hb dL_distinct_21 (by decide) ?_
  exact sj_retI hC hk hH hr rfl (hv3.2.2 w4 e5) ⟨(Nat.le_of_ble_eq_true rfl), (Nat.le_of_ble_eq_true rfl)⟩ dL_distinct_22
section SJL_L_distinct
variable {p : Program} {l : Launch} {e : Env} {R : Room} {s : State} {m : MethodId} {args : Array Value} {below : List Frame} {meth : Method} {c : Code} {H : Heap} {locs : List Loc} {cells slots : Nat} {Q : State → Prop} {cc : ByteArray} {pc : Nat} {ls : Array Slot} {rest : List Value} {G : sj_G} {nL : Nat} {w : sj_W}
theorem cg_L_219 {b0 : Nat} {b1 : Int32} {b2 : Int32} {b3 : Nat} {Qi : Int32 → sj_W → Prop} (hC : sj_C G p l s m args c cc RL nL) (hH : sj_H G s w H locs) (hv : vc_L_distinct b0 b1 b2 b3 w Qi) (hR : rm_L_distinct.frames + 1 ≤ R.frames ∧ 8 + (5 + 11) + rm_L_distinct.locals ≤ R.locals) (hf : cells + 2 ≤ R.cells ∧ slots + 12 ≤ R.slots) (hls : ls.size = nL) (hW : (rest.map fun v => v.category).sum ≤ 8) (hdg : decode cc pc = .ok (.invokestatic 219, 3)) (kk : ∀ (r : Int32) (w1 : sj_W) (H : Heap) (locs : List Loc), sj_H G s w1 H locs → Qi r w1 → W p l e R s m args below meth c H locs (cells + 2) (slots + 12) Q (F0 m (pc + 3) ls (.int r :: rest))) : W p l e R s m args below meth c H locs cells slots Q (F0 m pc ls (.ref b3 :: .int b2 :: .int b1 :: .ref b0 :: rest)) :=
  sj_xI hH (sj_runSX (n := 4) hC hH (As := [.ref b0, .int b1, .int b2, .ref b3]) (wk_L_distinct G l hC.2.2.2.2.2.2 b0 b1 b2 b3 w Qi (fun _ _ => False) hv) mb_494 mb_495 mb_0 mb_496 (by decide +kernel) hR hf rfl hls hW hdg) (fun _ _ _ _ _ _ _ h _ _ _ => h.elim) kk
end SJL_L_distinct
abbrev rm_L_ending : Room := { frames := 9, cells := 4, slots := 24, locals := 151 }
def vc_L_ending (a1 : Nat) (a2 : Int32) (a3 : Int32) (a4 : Int32) (a5 : Int32) (a6 : Nat) (w : sj_W) (Q : Int32 → sj_W → Prop) : Prop := sj_T w a1 = 5 ∧ vc_X6_ending a1 a2 a3 a4 a5 w (fun r1 w2 => sj_T w2 a6 = 8 ∧ vp_in 0 (sj_N w2 a6) ∧ ∀ w4 : sj_W, w4 = sj_sl w2 a6 (0 : Int32).toNatClampNeg (r1.toInt64) → Q 0 w4) (fun E w6 => ((E = "java/lang/IllegalArgumentException" → Q 1 w6) ∧ (E = "java/lang/IndexOutOfBoundsException" → Q 2 w6) ∧ (E = "java/lang/IllegalArgumentException" ∨ E = "java/lang/IndexOutOfBoundsException")))
set_option maxHeartbeats 4000000 in
set_option maxRecDepth 100000 in
theorem wk_L_ending (G : sj_G) (l : Launch) (hlt : l.stackTraces = false) (a1 : Nat) (a2 : Int32) (a3 : Int32) (a4 : Int32) (a5 : Int32) (a6 : Nat) (w : sj_W) (Q : Int32 → sj_W → Prop) (QX : String → sj_W → Prop) (hv : vc_L_ending a1 a2 a3 a4 a5 a6 w Q) : sj_MI G l yL_ending (sj_wsW yL_ending cL_ending 7 (some .int) [(0, 14, 17, 13), (0, 14, 21, 15)]) rm_L_ending [.ref a1, .int a2, .int a3, .int a4, .int a5, .ref a6] w Q QX := by
  refine sj_ofW (by decide +kernel) (Nat.le_of_ble_eq_true rfl) hlt ?_
  intro p e s m args below meth c ls hC htb hk hr hH hl
  have hx := hC.1
  have hb := hC.2.1
  have hl : lv_has ls 7 [(0, .ref a1), (1, .int a2), (2, .int a3), (3, .int a4), (4, .int a5), (5, .ref a6)] := hl
  refine lv_aload hx hb dL_ending_0 (lv_at hl 5 rfl) ?_
  refine lv_iconst (v := 0) hx hb dL_ending_2 (by decide) ?_
  refine lv_aload_n hx hb dL_ending_3 rfl (lv_at hl 0 rfl) ?_
  refine lv_iload_n hx hb dL_ending_4 rfl (lv_at hl 1 rfl) ?_
  refine lv_iload_n hx hb dL_ending_5 rfl (lv_at hl 2 rfl) ?_
  refine lv_iload_n hx hb dL_ending_6 rfl (lv_at hl 3 rfl) ?_
  refine lv_iload hx hb dL_ending_7 (lv_at hl 4 rfl) ?_
  refine cx_L_87 hC hH hv.2 hv.1 ⟨Nat.le_of_ble_eq_true rfl, Nat.le_of_ble_eq_true rfl⟩ ⟨(Nat.le_of_ble_eq_true rfl), (Nat.le_of_ble_eq_true rfl)⟩ hl.1 (Nat.le_of_ble_eq_true rfl) dL_ending_9 (fun E ce q9 w6 H locs hH hE7 hq9 hcv hcl => ?_) (fun r1 w2 H locs hH hv3 => ?_)
  · rcases hE7.2.2 with rfl | rfl
    · have hv8 := hE7.1 rfl
      refine sj_catch (E := "java/lang/IllegalArgumentException") hC htb [] ⟨0, 14, 17, 13⟩ [⟨0, 14, 21, 15⟩] rfl (fun _ h => nomatch h) (by decide) (by decide) mb_128 mb_140 hq9 hcv hcl ?_
      refine lv_astore (lv' := [(6, .ref q9), (0, .ref a1), (1, .int a2), (2, .int a3), (3, .int a4), (4, .int a5), (5, .ref a6)]) hx hb dL_ending_17 hl (by decide) rfl (fun ls hl => ?_)
      refine lv_iconst (v := 1) hx hb dL_ending_19 (by decide) ?_
      exact sj_retI hC hk hH hr rfl hv8 ⟨(Nat.le_of_ble_eq_true rfl), (Nat.le_of_ble_eq_true rfl)⟩ dL_ending_20
    · have hv9 := hE7.2.1 rfl
      refine sj_catch (E := "java/lang/IndexOutOfBoundsException") hC htb [⟨0, 14, 17, 13⟩] ⟨0, 14, 21, 15⟩ [] rfl (by intro z hz; simp only [List.mem_cons, List.not_mem_nil, or_false] at hz; rcases hz with rfl <;> first | exact ⟨by decide, _, mb_128, by decide +kernel⟩) (by decide) (by decide) mb_129 mb_225 hq9 hcv hcl ?_
      refine lv_astore (lv' := [(6, .ref q9), (0, .ref a1), (1, .int a2), (2, .int a3), (3, .int a4), (4, .int a5), (5, .ref a6)]) hx hb dL_ending_21 hl (by decide) rfl (fun ls hl => ?_)
      refine lv_iconst (v := 2) hx hb dL_ending_23 (by decide) ?_
      exact sj_retI hC hk hH hr rfl hv9 ⟨(Nat.le_of_ble_eq_true rfl), (Nat.le_of_ble_eq_true rfl)⟩ dL_ending_24
  refine lv_i2l hx hb dL_ending_12 rfl ?_
  refine sj_last hC hH hv3.1 hv3.2.1 dL_ending_13 (fun w4 H locs e5 hH => ?_)
  refine lv_goto (tgt := 25) hx hb dL_ending_14 (by decide) ?_
  refine lv_iconst (v := 0) hx hb dL_ending_25 (by decide) ?_
  exact sj_retI hC hk hH hr rfl (hv3.2.2 w4 e5) ⟨(Nat.le_of_ble_eq_true rfl), (Nat.le_of_ble_eq_true rfl)⟩ dL_ending_26
section SJL_L_ending
variable {p : Program} {l : Launch} {e : Env} {R : Room} {s : State} {m : MethodId} {args : Array Value} {below : List Frame} {meth : Method} {c : Code} {H : Heap} {locs : List Loc} {cells slots : Nat} {Q : State → Prop} {cc : ByteArray} {pc : Nat} {ls : Array Slot} {rest : List Value} {G : sj_G} {nL : Nat} {w : sj_W}
theorem cg_L_216 {b0 : Nat} {b1 : Int32} {b2 : Int32} {b3 : Int32} {b4 : Int32} {b5 : Nat} {Qi : Int32 → sj_W → Prop} (hC : sj_C G p l s m args c cc RL nL) (hH : sj_H G s w H locs) (hv : vc_L_ending b0 b1 b2 b3 b4 b5 w Qi) (hR : rm_L_ending.frames + 1 ≤ R.frames ∧ 8 + (7 + 11) + rm_L_ending.locals ≤ R.locals) (hf : cells + 4 ≤ R.cells ∧ slots + 24 ≤ R.slots) (hls : ls.size = nL) (hW : (rest.map fun v => v.category).sum ≤ 8) (hdg : decode cc pc = .ok (.invokestatic 216, 3)) (kk : ∀ (r : Int32) (w1 : sj_W) (H : Heap) (locs : List Loc), sj_H G s w1 H locs → Qi r w1 → W p l e R s m args below meth c H locs (cells + 4) (slots + 24) Q (F0 m (pc + 3) ls (.int r :: rest))) : W p l e R s m args below meth c H locs cells slots Q (F0 m pc ls (.ref b5 :: .int b4 :: .int b3 :: .int b2 :: .int b1 :: .ref b0 :: rest)) :=
  sj_xI hH (sj_runSX (n := 6) hC hH (As := [.ref b0, .int b1, .int b2, .int b3, .int b4, .ref b5]) (wk_L_ending G l hC.2.2.2.2.2.2 b0 b1 b2 b3 b4 b5 w Qi (fun _ _ => False) hv) mb_474 mb_475 mb_0 mb_476 (by decide +kernel) hR hf rfl hls hW hdg) (fun _ _ _ _ _ _ _ h _ _ _ => h.elim) kk
end SJL_L_ending
abbrev rm_L_factor : Room := { frames := 9, cells := 4, slots := 24, locals := 150 }
def vc_L_factor (a1 : Nat) (a2 : Int32) (a3 : Int32) (a4 : Int32) (a5 : Int32) (a6 : Nat) (w : sj_W) (Q : Int32 → sj_W → Prop) : Prop := sj_T w a1 = 5 ∧ vc_X6_factor a1 a2 a3 a4 a5 w (fun r1 w2 => sj_T w2 a6 = 8 ∧ vp_in 0 (sj_N w2 a6) ∧ ∀ w4 : sj_W, w4 = sj_sl w2 a6 (0 : Int32).toNatClampNeg (r1.toInt64) → Q 0 w4) (fun E w6 => ((E = "java/lang/IllegalArgumentException" → Q 1 w6) ∧ (E = "java/lang/IndexOutOfBoundsException" → Q 2 w6) ∧ (E = "java/lang/IllegalArgumentException" ∨ E = "java/lang/IndexOutOfBoundsException")))
set_option maxHeartbeats 4000000 in
set_option maxRecDepth 100000 in
theorem wk_L_factor (G : sj_G) (l : Launch) (hlt : l.stackTraces = false) (a1 : Nat) (a2 : Int32) (a3 : Int32) (a4 : Int32) (a5 : Int32) (a6 : Nat) (w : sj_W) (Q : Int32 → sj_W → Prop) (QX : String → sj_W → Prop) (hv : vc_L_factor a1 a2 a3 a4 a5 a6 w Q) : sj_MI G l yL_factor (sj_wsW yL_factor cL_factor 7 (some .int) [(0, 14, 17, 13), (0, 14, 21, 15)]) rm_L_factor [.ref a1, .int a2, .int a3, .int a4, .int a5, .ref a6] w Q QX := by
  refine sj_ofW (by decide +kernel) (Nat.le_of_ble_eq_true rfl) hlt ?_
  intro p e s m args below meth c ls hC htb hk hr hH hl
  have hx := hC.1
  have hb := hC.2.1
  have hl : lv_has ls 7 [(0, .ref a1), (1, .int a2), (2, .int a3), (3, .int a4), (4, .int a5), (5, .ref a6)] := hl
  refine lv_aload hx hb dL_factor_0 (lv_at hl 5 rfl) ?_
  refine lv_iconst (v := 0) hx hb dL_factor_2 (by decide) ?_
  refine lv_aload_n hx hb dL_factor_3 rfl (lv_at hl 0 rfl) ?_
  refine lv_iload_n hx hb dL_factor_4 rfl (lv_at hl 1 rfl) ?_
  refine lv_iload_n hx hb dL_factor_5 rfl (lv_at hl 2 rfl) ?_
  refine lv_iload_n hx hb dL_factor_6 rfl (lv_at hl 3 rfl) ?_
  refine lv_iload hx hb dL_factor_7 (lv_at hl 4 rfl) ?_
  refine cx_L_115 hC hH hv.2 hv.1 ⟨Nat.le_of_ble_eq_true rfl, Nat.le_of_ble_eq_true rfl⟩ ⟨(Nat.le_of_ble_eq_true rfl), (Nat.le_of_ble_eq_true rfl)⟩ hl.1 (Nat.le_of_ble_eq_true rfl) dL_factor_9 (fun E ce q9 w6 H locs hH hE7 hq9 hcv hcl => ?_) (fun r1 w2 H locs hH hv3 => ?_)
  · rcases hE7.2.2 with rfl | rfl
    · have hv8 := hE7.1 rfl
      refine sj_catch (E := "java/lang/IllegalArgumentException") hC htb [] ⟨0, 14, 17, 13⟩ [⟨0, 14, 21, 15⟩] rfl (fun _ h => nomatch h) (by decide) (by decide) mb_128 mb_140 hq9 hcv hcl ?_
      refine lv_astore (lv' := [(6, .ref q9), (0, .ref a1), (1, .int a2), (2, .int a3), (3, .int a4), (4, .int a5), (5, .ref a6)]) hx hb dL_factor_17 hl (by decide) rfl (fun ls hl => ?_)
      refine lv_iconst (v := 1) hx hb dL_factor_19 (by decide) ?_
      exact sj_retI hC hk hH hr rfl hv8 ⟨(Nat.le_of_ble_eq_true rfl), (Nat.le_of_ble_eq_true rfl)⟩ dL_factor_20
    · have hv9 := hE7.2.1 rfl
      refine sj_catch (E := "java/lang/IndexOutOfBoundsException") hC htb [⟨0, 14, 17, 13⟩] ⟨0, 14, 21, 15⟩ [] rfl (by intro z hz; simp only [List.mem_cons, List.not_mem_nil, or_false] at hz; rcases hz with rfl <;> first | exact ⟨by decide, _, mb_128, by decide +kernel⟩) (by decide) (by decide) mb_129 mb_225 hq9 hcv hcl ?_
      refine lv_astore (lv' := [(6, .ref q9), (0, .ref a1), (1, .int a2), (2, .int a3), (3, .int a4), (4, .int a5), (5, .ref a6)]) hx hb dL_factor_21 hl (by decide) rfl (fun ls hl => ?_)
      refine lv_iconst (v := 2) hx hb dL_factor_23 (by decide) ?_
      exact sj_retI hC hk hH hr rfl hv9 ⟨(Nat.le_of_ble_eq_true rfl), (Nat.le_of_ble_eq_true rfl)⟩ dL_factor_24
  refine lv_i2l hx hb dL_factor_12 rfl ?_
  refine sj_last hC hH hv3.1 hv3.2.1 dL_factor_13 (fun w4 H locs e5 hH => ?_)
  refine lv_goto (tgt := 25) hx hb dL_factor_14 (by decide) ?_
  refine lv_iconst (v := 0) hx hb dL_factor_25 (by decide) ?_
  exact sj_retI hC hk hH hr rfl (hv3.2.2 w4 e5) ⟨(Nat.le_of_ble_eq_true rfl), (Nat.le_of_ble_eq_true rfl)⟩ dL_factor_26
section SJL_L_factor
variable {p : Program} {l : Launch} {e : Env} {R : Room} {s : State} {m : MethodId} {args : Array Value} {below : List Frame} {meth : Method} {c : Code} {H : Heap} {locs : List Loc} {cells slots : Nat} {Q : State → Prop} {cc : ByteArray} {pc : Nat} {ls : Array Slot} {rest : List Value} {G : sj_G} {nL : Nat} {w : sj_W}
theorem cg_L_243 {b0 : Nat} {b1 : Int32} {b2 : Int32} {b3 : Int32} {b4 : Int32} {b5 : Nat} {Qi : Int32 → sj_W → Prop} (hC : sj_C G p l s m args c cc RL nL) (hH : sj_H G s w H locs) (hv : vc_L_factor b0 b1 b2 b3 b4 b5 w Qi) (hR : rm_L_factor.frames + 1 ≤ R.frames ∧ 8 + (7 + 11) + rm_L_factor.locals ≤ R.locals) (hf : cells + 4 ≤ R.cells ∧ slots + 24 ≤ R.slots) (hls : ls.size = nL) (hW : (rest.map fun v => v.category).sum ≤ 8) (hdg : decode cc pc = .ok (.invokestatic 243, 3)) (kk : ∀ (r : Int32) (w1 : sj_W) (H : Heap) (locs : List Loc), sj_H G s w1 H locs → Qi r w1 → W p l e R s m args below meth c H locs (cells + 4) (slots + 24) Q (F0 m (pc + 3) ls (.int r :: rest))) : W p l e R s m args below meth c H locs cells slots Q (F0 m pc ls (.ref b5 :: .int b4 :: .int b3 :: .int b2 :: .int b1 :: .ref b0 :: rest)) :=
  sj_xI hH (sj_runSX (n := 6) hC hH (As := [.ref b0, .int b1, .int b2, .int b3, .int b4, .ref b5]) (wk_L_factor G l hC.2.2.2.2.2.2 b0 b1 b2 b3 b4 b5 w Qi (fun _ _ => False) hv) mb_583 mb_584 mb_0 mb_585 (by decide +kernel) hR hf rfl hls hW hdg) (fun _ _ _ _ _ _ _ h _ _ _ => h.elim) kk
end SJL_L_factor
abbrev rm_L_factors : Room := { frames := 9, cells := 3, slots := 18, locals := 149 }
def vc_L_factors (a1 : Nat) (a2 : Int32) (a3 : Int32) (a4 : Int32) (a5 : Nat) (w : sj_W) (Q : Int32 → sj_W → Prop) : Prop := sj_T w a1 = 5 ∧ vc_X6_factors a1 a2 a3 a4 w (fun r1 w2 => sj_T w2 a5 = 8 ∧ vp_in 0 (sj_N w2 a5) ∧ ∀ w4 : sj_W, w4 = sj_sl w2 a5 (0 : Int32).toNatClampNeg (r1.toInt64) → Q 0 w4) (fun E w6 => ((E = "java/lang/IllegalArgumentException" → Q 1 w6) ∧ (E = "java/lang/IndexOutOfBoundsException" → Q 2 w6) ∧ (E = "java/lang/IllegalArgumentException" ∨ E = "java/lang/IndexOutOfBoundsException")))
set_option maxHeartbeats 4000000 in
set_option maxRecDepth 100000 in
theorem wk_L_factors (G : sj_G) (l : Launch) (hlt : l.stackTraces = false) (a1 : Nat) (a2 : Int32) (a3 : Int32) (a4 : Int32) (a5 : Nat) (w : sj_W) (Q : Int32 → sj_W → Prop) (QX : String → sj_W → Prop) (hv : vc_L_factors a1 a2 a3 a4 a5 w Q) : sj_MI G l yL_factors (sj_wsW yL_factors cL_factors 6 (some .int) [(0, 12, 15, 13), (0, 12, 19, 15)]) rm_L_factors [.ref a1, .int a2, .int a3, .int a4, .ref a5] w Q QX := by
  refine sj_ofW (by decide +kernel) (Nat.le_of_ble_eq_true rfl) hlt ?_
  intro p e s m args below meth c ls hC htb hk hr hH hl
  have hx := hC.1
  have hb := hC.2.1
  have hl : lv_has ls 6 [(0, .ref a1), (1, .int a2), (2, .int a3), (3, .int a4), (4, .ref a5)] := hl
  refine lv_aload hx hb dL_factors_0 (lv_at hl 4 rfl) ?_
  refine lv_iconst (v := 0) hx hb dL_factors_2 (by decide) ?_
  refine lv_aload_n hx hb dL_factors_3 rfl (lv_at hl 0 rfl) ?_
  refine lv_iload_n hx hb dL_factors_4 rfl (lv_at hl 1 rfl) ?_
  refine lv_iload_n hx hb dL_factors_5 rfl (lv_at hl 2 rfl) ?_
  refine lv_iload_n hx hb dL_factors_6 rfl (lv_at hl 3 rfl) ?_
  refine cx_L_112 hC hH hv.2 hv.1 ⟨Nat.le_of_ble_eq_true rfl, Nat.le_of_ble_eq_true rfl⟩ ⟨(Nat.le_of_ble_eq_true rfl), (Nat.le_of_ble_eq_true rfl)⟩ hl.1 (Nat.le_of_ble_eq_true rfl) dL_factors_7 (fun E ce q9 w6 H locs hH hE7 hq9 hcv hcl => ?_) (fun r1 w2 H locs hH hv3 => ?_)
  · rcases hE7.2.2 with rfl | rfl
    · have hv8 := hE7.1 rfl
      refine sj_catch (E := "java/lang/IllegalArgumentException") hC htb [] ⟨0, 12, 15, 13⟩ [⟨0, 12, 19, 15⟩] rfl (fun _ h => nomatch h) (by decide) (by decide) mb_128 mb_140 hq9 hcv hcl ?_
      refine lv_astore (lv' := [(5, .ref q9), (0, .ref a1), (1, .int a2), (2, .int a3), (3, .int a4), (4, .ref a5)]) hx hb dL_factors_15 hl (by decide) rfl (fun ls hl => ?_)
      refine lv_iconst (v := 1) hx hb dL_factors_17 (by decide) ?_
      exact sj_retI hC hk hH hr rfl hv8 ⟨(Nat.le_of_ble_eq_true rfl), (Nat.le_of_ble_eq_true rfl)⟩ dL_factors_18
    · have hv9 := hE7.2.1 rfl
      refine sj_catch (E := "java/lang/IndexOutOfBoundsException") hC htb [⟨0, 12, 15, 13⟩] ⟨0, 12, 19, 15⟩ [] rfl (by intro z hz; simp only [List.mem_cons, List.not_mem_nil, or_false] at hz; rcases hz with rfl <;> first | exact ⟨by decide, _, mb_128, by decide +kernel⟩) (by decide) (by decide) mb_129 mb_225 hq9 hcv hcl ?_
      refine lv_astore (lv' := [(5, .ref q9), (0, .ref a1), (1, .int a2), (2, .int a3), (3, .int a4), (4, .ref a5)]) hx hb dL_factors_19 hl (by decide) rfl (fun ls hl => ?_)
      refine lv_iconst (v := 2) hx hb dL_factors_21 (by decide) ?_
      exact sj_retI hC hk hH hr rfl hv9 ⟨(Nat.le_of_ble_eq_true rfl), (Nat.le_of_ble_eq_true rfl)⟩ dL_factors_22
  refine lv_i2l hx hb dL_factors_10 rfl ?_
  refine sj_last hC hH hv3.1 hv3.2.1 dL_factors_11 (fun w4 H locs e5 hH => ?_)
  refine lv_goto (tgt := 23) hx hb dL_factors_12 (by decide) ?_
  refine lv_iconst (v := 0) hx hb dL_factors_23 (by decide) ?_
  exact sj_retI hC hk hH hr rfl (hv3.2.2 w4 e5) ⟨(Nat.le_of_ble_eq_true rfl), (Nat.le_of_ble_eq_true rfl)⟩ dL_factors_24
section SJL_L_factors
variable {p : Program} {l : Launch} {e : Env} {R : Room} {s : State} {m : MethodId} {args : Array Value} {below : List Frame} {meth : Method} {c : Code} {H : Heap} {locs : List Loc} {cells slots : Nat} {Q : State → Prop} {cc : ByteArray} {pc : Nat} {ls : Array Slot} {rest : List Value} {G : sj_G} {nL : Nat} {w : sj_W}
theorem cg_L_240 {b0 : Nat} {b1 : Int32} {b2 : Int32} {b3 : Int32} {b4 : Nat} {Qi : Int32 → sj_W → Prop} (hC : sj_C G p l s m args c cc RL nL) (hH : sj_H G s w H locs) (hv : vc_L_factors b0 b1 b2 b3 b4 w Qi) (hR : rm_L_factors.frames + 1 ≤ R.frames ∧ 8 + (6 + 11) + rm_L_factors.locals ≤ R.locals) (hf : cells + 3 ≤ R.cells ∧ slots + 18 ≤ R.slots) (hls : ls.size = nL) (hW : (rest.map fun v => v.category).sum ≤ 8) (hdg : decode cc pc = .ok (.invokestatic 240, 3)) (kk : ∀ (r : Int32) (w1 : sj_W) (H : Heap) (locs : List Loc), sj_H G s w1 H locs → Qi r w1 → W p l e R s m args below meth c H locs (cells + 3) (slots + 18) Q (F0 m (pc + 3) ls (.int r :: rest))) : W p l e R s m args below meth c H locs cells slots Q (F0 m pc ls (.ref b4 :: .int b3 :: .int b2 :: .int b1 :: .ref b0 :: rest)) :=
  sj_xI hH (sj_runSX (n := 5) hC hH (As := [.ref b0, .int b1, .int b2, .int b3, .ref b4]) (wk_L_factors G l hC.2.2.2.2.2.2 b0 b1 b2 b3 b4 w Qi (fun _ _ => False) hv) mb_572 mb_573 mb_0 mb_574 (by decide +kernel) hR hf rfl hls hW hdg) (fun _ _ _ _ _ _ _ h _ _ _ => h.elim) kk
end SJL_L_factors
abbrev rm_L_fits : Room := { frames := 8, cells := 2, slots := 12, locals := 126 }
def vc_L_fits (a1 : Nat) (a2 : Int32) (a3 : Int32) (a4 : Nat) (w : sj_W) (Q : Int32 → sj_W → Prop) : Prop := sj_T w a1 = 5 ∧ vc_X6_fits a1 a2 a3 w (fun r1 w2 => ((r1 = 0 → sj_T w2 a4 = 8 ∧ vp_in 0 (sj_N w2 a4) ∧ ∀ w5 : sj_W, w5 = sj_sl w2 a4 (0 : Int32).toNatClampNeg 0 → Q 0 w5) ∧ (¬ r1 = 0 → sj_T w2 a4 = 8 ∧ vp_in 0 (sj_N w2 a4) ∧ ∀ w8 : sj_W, w8 = sj_sl w2 a4 (0 : Int32).toNatClampNeg 1 → Q 0 w8))) (fun E w10 => ((E = "java/lang/IllegalArgumentException" → Q 1 w10) ∧ (E = "java/lang/IndexOutOfBoundsException" → Q 2 w10) ∧ (E = "java/lang/IllegalArgumentException" ∨ E = "java/lang/IndexOutOfBoundsException")))
set_option maxHeartbeats 4000000 in
set_option maxRecDepth 100000 in
theorem wk_L_fits (G : sj_G) (l : Launch) (hlt : l.stackTraces = false) (a1 : Nat) (a2 : Int32) (a3 : Int32) (a4 : Nat) (w : sj_W) (Q : Int32 → sj_W → Prop) (QX : String → sj_W → Prop) (hv : vc_L_fits a1 a2 a3 a4 w Q) : sj_MI G l yL_fits (sj_wsW yL_fits cL_fits 5 (some .int) [(0, 17, 20, 13), (0, 17, 24, 15)]) rm_L_fits [.ref a1, .int a2, .int a3, .ref a4] w Q QX := by
  refine sj_ofW (by decide +kernel) (Nat.le_of_ble_eq_true rfl) hlt ?_
  intro p e s m args below meth c ls hC htb hk hr hH hl
  have hx := hC.1
  have hb := hC.2.1
  have hl : lv_has ls 5 [(0, .ref a1), (1, .int a2), (2, .int a3), (3, .ref a4)] := hl
  refine lv_aload_n hx hb dL_fits_0 rfl (lv_at hl 3 rfl) ?_
  refine lv_iconst (v := 0) hx hb dL_fits_1 (by decide) ?_
  refine lv_aload_n hx hb dL_fits_2 rfl (lv_at hl 0 rfl) ?_
  refine lv_iload_n hx hb dL_fits_3 rfl (lv_at hl 1 rfl) ?_
  refine lv_iload_n hx hb dL_fits_4 rfl (lv_at hl 2 rfl) ?_
  refine cx_L_57 hC hH hv.2 hv.1 ⟨Nat.le_of_ble_eq_true rfl, Nat.le_of_ble_eq_true rfl⟩ ⟨(Nat.le_of_ble_eq_true rfl), (Nat.le_of_ble_eq_true rfl)⟩ hl.1 (Nat.le_of_ble_eq_true rfl) dL_fits_5 (fun E ce q9 w10 H locs hH hE11 hq9 hcv hcl => ?_) (fun r1 w2 H locs hH hv3 => ?_)
  · rcases hE11.2.2 with rfl | rfl
    · have hv12 := hE11.1 rfl
      refine sj_catch (E := "java/lang/IllegalArgumentException") hC htb [] ⟨0, 17, 20, 13⟩ [⟨0, 17, 24, 15⟩] rfl (fun _ h => nomatch h) (by decide) (by decide) mb_128 mb_140 hq9 hcv hcl ?_
      refine lv_astore (lv' := [(4, .ref q9), (0, .ref a1), (1, .int a2), (2, .int a3), (3, .ref a4)]) hx hb dL_fits_20 hl (by decide) rfl (fun ls hl => ?_)
      refine lv_iconst (v := 1) hx hb dL_fits_22 (by decide) ?_
      exact sj_retI hC hk hH hr rfl hv12 ⟨(Nat.le_of_ble_eq_true rfl), (Nat.le_of_ble_eq_true rfl)⟩ dL_fits_23
    · have hv13 := hE11.2.1 rfl
      refine sj_catch (E := "java/lang/IndexOutOfBoundsException") hC htb [⟨0, 17, 20, 13⟩] ⟨0, 17, 24, 15⟩ [] rfl (by intro z hz; simp only [List.mem_cons, List.not_mem_nil, or_false] at hz; rcases hz with rfl <;> first | exact ⟨by decide, _, mb_128, by decide +kernel⟩) (by decide) (by decide) mb_129 mb_225 hq9 hcv hcl ?_
      refine lv_astore (lv' := [(4, .ref q9), (0, .ref a1), (1, .int a2), (2, .int a3), (3, .ref a4)]) hx hb dL_fits_24 hl (by decide) rfl (fun ls hl => ?_)
      refine lv_iconst (v := 2) hx hb dL_fits_26 (by decide) ?_
      exact sj_retI hC hk hH hr rfl hv13 ⟨(Nat.le_of_ble_eq_true rfl), (Nat.le_of_ble_eq_true rfl)⟩ dL_fits_27
  refine lv_if_eq (tgt := 15) hx hb dL_fits_8 (by decide) (fun hc => ?_) (fun hc => ?_)
  · have hv4 := hv3.1 hc
    refine lv_lconst (v := 0) hx hb dL_fits_15 (by decide) ?_
    refine sj_last hC hH hv4.1 hv4.2.1 dL_fits_16 (fun w5 H locs e6 hH => ?_)
    refine lv_goto (tgt := 28) hx hb dL_fits_17 (by decide) ?_
    refine lv_iconst (v := 0) hx hb dL_fits_28 (by decide) ?_
    exact sj_retI hC hk hH hr rfl (hv4.2.2 w5 e6) ⟨(Nat.le_of_ble_eq_true rfl), (Nat.le_of_ble_eq_true rfl)⟩ dL_fits_29
  · have hv7 := hv3.2 hc
    refine lv_lconst (v := 1) hx hb dL_fits_11 (by decide) ?_
    refine lv_goto (tgt := 16) hx hb dL_fits_12 (by decide) ?_
    refine sj_last hC hH hv7.1 hv7.2.1 dL_fits_16 (fun w8 H locs e9 hH => ?_)
    refine lv_goto (tgt := 28) hx hb dL_fits_17 (by decide) ?_
    refine lv_iconst (v := 0) hx hb dL_fits_28 (by decide) ?_
    exact sj_retI hC hk hH hr rfl (hv7.2.2 w8 e9) ⟨(Nat.le_of_ble_eq_true rfl), (Nat.le_of_ble_eq_true rfl)⟩ dL_fits_29
section SJL_L_fits
variable {p : Program} {l : Launch} {e : Env} {R : Room} {s : State} {m : MethodId} {args : Array Value} {below : List Frame} {meth : Method} {c : Code} {H : Heap} {locs : List Loc} {cells slots : Nat} {Q : State → Prop} {cc : ByteArray} {pc : Nat} {ls : Array Slot} {rest : List Value} {G : sj_G} {nL : Nat} {w : sj_W}
theorem cg_L_187 {b0 : Nat} {b1 : Int32} {b2 : Int32} {b3 : Nat} {Qi : Int32 → sj_W → Prop} (hC : sj_C G p l s m args c cc RL nL) (hH : sj_H G s w H locs) (hv : vc_L_fits b0 b1 b2 b3 w Qi) (hR : rm_L_fits.frames + 1 ≤ R.frames ∧ 8 + (5 + 11) + rm_L_fits.locals ≤ R.locals) (hf : cells + 2 ≤ R.cells ∧ slots + 12 ≤ R.slots) (hls : ls.size = nL) (hW : (rest.map fun v => v.category).sum ≤ 8) (hdg : decode cc pc = .ok (.invokestatic 187, 3)) (kk : ∀ (r : Int32) (w1 : sj_W) (H : Heap) (locs : List Loc), sj_H G s w1 H locs → Qi r w1 → W p l e R s m args below meth c H locs (cells + 2) (slots + 12) Q (F0 m (pc + 3) ls (.int r :: rest))) : W p l e R s m args below meth c H locs cells slots Q (F0 m pc ls (.ref b3 :: .int b2 :: .int b1 :: .ref b0 :: rest)) :=
  sj_xI hH (sj_runSX (n := 4) hC hH (As := [.ref b0, .int b1, .int b2, .ref b3]) (wk_L_fits G l hC.2.2.2.2.2.2 b0 b1 b2 b3 w Qi (fun _ _ => False) hv) mb_347 mb_348 mb_0 mb_349 (by decide +kernel) hR hf rfl hls hW hdg) (fun _ _ _ _ _ _ _ h _ _ _ => h.elim) kk
end SJL_L_fits
abbrev rm_L_isPeriod : Room := { frames := 9, cells := 3, slots := 18, locals := 148 }
def vc_L_isPeriod (a1 : Nat) (a2 : Int32) (a3 : Int32) (a4 : Int32) (a5 : Nat) (w : sj_W) (Q : Int32 → sj_W → Prop) : Prop := sj_T w a1 = 5 ∧ vc_X6_isPeriod a1 a2 a3 a4 w (fun r1 w2 => ((r1 = 0 → sj_T w2 a5 = 8 ∧ vp_in 0 (sj_N w2 a5) ∧ ∀ w5 : sj_W, w5 = sj_sl w2 a5 (0 : Int32).toNatClampNeg 0 → Q 0 w5) ∧ (¬ r1 = 0 → sj_T w2 a5 = 8 ∧ vp_in 0 (sj_N w2 a5) ∧ ∀ w8 : sj_W, w8 = sj_sl w2 a5 (0 : Int32).toNatClampNeg 1 → Q 0 w8))) (fun E w10 => ((E = "java/lang/IllegalArgumentException" → Q 1 w10) ∧ (E = "java/lang/IndexOutOfBoundsException" → Q 2 w10) ∧ (E = "java/lang/IllegalArgumentException" ∨ E = "java/lang/IndexOutOfBoundsException")))
set_option maxHeartbeats 4000000 in
set_option maxRecDepth 100000 in
theorem wk_L_isPeriod (G : sj_G) (l : Launch) (hlt : l.stackTraces = false) (a1 : Nat) (a2 : Int32) (a3 : Int32) (a4 : Int32) (a5 : Nat) (w : sj_W) (Q : Int32 → sj_W → Prop) (QX : String → sj_W → Prop) (hv : vc_L_isPeriod a1 a2 a3 a4 a5 w Q) : sj_MI G l yL_isPeriod (sj_wsW yL_isPeriod cL_isPeriod 6 (some .int) [(0, 19, 22, 13), (0, 19, 26, 15)]) rm_L_isPeriod [.ref a1, .int a2, .int a3, .int a4, .ref a5] w Q QX := by
  refine sj_ofW (by decide +kernel) (Nat.le_of_ble_eq_true rfl) hlt ?_
  intro p e s m args below meth c ls hC htb hk hr hH hl
  have hx := hC.1
  have hb := hC.2.1
  have hl : lv_has ls 6 [(0, .ref a1), (1, .int a2), (2, .int a3), (3, .int a4), (4, .ref a5)] := hl
  refine lv_aload hx hb dL_isPeriod_0 (lv_at hl 4 rfl) ?_
  refine lv_iconst (v := 0) hx hb dL_isPeriod_2 (by decide) ?_
  refine lv_aload_n hx hb dL_isPeriod_3 rfl (lv_at hl 0 rfl) ?_
  refine lv_iload_n hx hb dL_isPeriod_4 rfl (lv_at hl 1 rfl) ?_
  refine lv_iload_n hx hb dL_isPeriod_5 rfl (lv_at hl 2 rfl) ?_
  refine lv_iload_n hx hb dL_isPeriod_6 rfl (lv_at hl 3 rfl) ?_
  refine cx_L_99 hC hH hv.2 hv.1 ⟨Nat.le_of_ble_eq_true rfl, Nat.le_of_ble_eq_true rfl⟩ ⟨(Nat.le_of_ble_eq_true rfl), (Nat.le_of_ble_eq_true rfl)⟩ hl.1 (Nat.le_of_ble_eq_true rfl) dL_isPeriod_7 (fun E ce q9 w10 H locs hH hE11 hq9 hcv hcl => ?_) (fun r1 w2 H locs hH hv3 => ?_)
  · rcases hE11.2.2 with rfl | rfl
    · have hv12 := hE11.1 rfl
      refine sj_catch (E := "java/lang/IllegalArgumentException") hC htb [] ⟨0, 19, 22, 13⟩ [⟨0, 19, 26, 15⟩] rfl (fun _ h => nomatch h) (by decide) (by decide) mb_128 mb_140 hq9 hcv hcl ?_
      refine lv_astore (lv' := [(5, .ref q9), (0, .ref a1), (1, .int a2), (2, .int a3), (3, .int a4), (4, .ref a5)]) hx hb dL_isPeriod_22 hl (by decide) rfl (fun ls hl => ?_)
      refine lv_iconst (v := 1) hx hb dL_isPeriod_24 (by decide) ?_
      exact sj_retI hC hk hH hr rfl hv12 ⟨(Nat.le_of_ble_eq_true rfl), (Nat.le_of_ble_eq_true rfl)⟩ dL_isPeriod_25
    · have hv13 := hE11.2.1 rfl
      refine sj_catch (E := "java/lang/IndexOutOfBoundsException") hC htb [⟨0, 19, 22, 13⟩] ⟨0, 19, 26, 15⟩ [] rfl (by intro z hz; simp only [List.mem_cons, List.not_mem_nil, or_false] at hz; rcases hz with rfl <;> first | exact ⟨by decide, _, mb_128, by decide +kernel⟩) (by decide) (by decide) mb_129 mb_225 hq9 hcv hcl ?_
      refine lv_astore (lv' := [(5, .ref q9), (0, .ref a1), (1, .int a2), (2, .int a3), (3, .int a4), (4, .ref a5)]) hx hb dL_isPeriod_26 hl (by decide) rfl (fun ls hl => ?_)
      refine lv_iconst (v := 2) hx hb dL_isPeriod_28 (by decide) ?_
      exact sj_retI hC hk hH hr rfl hv13 ⟨(Nat.le_of_ble_eq_true rfl), (Nat.le_of_ble_eq_true rfl)⟩ dL_isPeriod_29
  refine lv_if_eq (tgt := 17) hx hb dL_isPeriod_10 (by decide) (fun hc => ?_) (fun hc => ?_)
  · have hv4 := hv3.1 hc
    refine lv_lconst (v := 0) hx hb dL_isPeriod_17 (by decide) ?_
    refine sj_last hC hH hv4.1 hv4.2.1 dL_isPeriod_18 (fun w5 H locs e6 hH => ?_)
    refine lv_goto (tgt := 30) hx hb dL_isPeriod_19 (by decide) ?_
    refine lv_iconst (v := 0) hx hb dL_isPeriod_30 (by decide) ?_
    exact sj_retI hC hk hH hr rfl (hv4.2.2 w5 e6) ⟨(Nat.le_of_ble_eq_true rfl), (Nat.le_of_ble_eq_true rfl)⟩ dL_isPeriod_31
  · have hv7 := hv3.2 hc
    refine lv_lconst (v := 1) hx hb dL_isPeriod_13 (by decide) ?_
    refine lv_goto (tgt := 18) hx hb dL_isPeriod_14 (by decide) ?_
    refine sj_last hC hH hv7.1 hv7.2.1 dL_isPeriod_18 (fun w8 H locs e9 hH => ?_)
    refine lv_goto (tgt := 30) hx hb dL_isPeriod_19 (by decide) ?_
    refine lv_iconst (v := 0) hx hb dL_isPeriod_30 (by decide) ?_
    exact sj_retI hC hk hH hr rfl (hv7.2.2 w8 e9) ⟨(Nat.le_of_ble_eq_true rfl), (Nat.le_of_ble_eq_true rfl)⟩ dL_isPeriod_31
section SJL_L_isPeriod
variable {p : Program} {l : Launch} {e : Env} {R : Room} {s : State} {m : MethodId} {args : Array Value} {below : List Frame} {meth : Method} {c : Code} {H : Heap} {locs : List Loc} {cells slots : Nat} {Q : State → Prop} {cc : ByteArray} {pc : Nat} {ls : Array Slot} {rest : List Value} {G : sj_G} {nL : Nat} {w : sj_W}
theorem cg_L_228 {b0 : Nat} {b1 : Int32} {b2 : Int32} {b3 : Int32} {b4 : Nat} {Qi : Int32 → sj_W → Prop} (hC : sj_C G p l s m args c cc RL nL) (hH : sj_H G s w H locs) (hv : vc_L_isPeriod b0 b1 b2 b3 b4 w Qi) (hR : rm_L_isPeriod.frames + 1 ≤ R.frames ∧ 8 + (6 + 11) + rm_L_isPeriod.locals ≤ R.locals) (hf : cells + 3 ≤ R.cells ∧ slots + 18 ≤ R.slots) (hls : ls.size = nL) (hW : (rest.map fun v => v.category).sum ≤ 8) (hdg : decode cc pc = .ok (.invokestatic 228, 3)) (kk : ∀ (r : Int32) (w1 : sj_W) (H : Heap) (locs : List Loc), sj_H G s w1 H locs → Qi r w1 → W p l e R s m args below meth c H locs (cells + 3) (slots + 18) Q (F0 m (pc + 3) ls (.int r :: rest))) : W p l e R s m args below meth c H locs cells slots Q (F0 m pc ls (.ref b4 :: .int b3 :: .int b2 :: .int b1 :: .ref b0 :: rest)) :=
  sj_xI hH (sj_runSX (n := 5) hC hH (As := [.ref b0, .int b1, .int b2, .int b3, .ref b4]) (wk_L_isPeriod G l hC.2.2.2.2.2.2 b0 b1 b2 b3 b4 w Qi (fun _ _ => False) hv) mb_530 mb_531 mb_0 mb_532 (by decide +kernel) hR hf rfl hls hW hdg) (fun _ _ _ _ _ _ _ h _ _ _ => h.elim) kk
end SJL_L_isPeriod
abbrev rm_L_isTrue : Room := { frames := 8, cells := 34, slots := 471, locals := 173 }
def vc_L_isTrue (a1 : Nat) (a2 : Int32) (a3 : Int32) (a4 : Int32) (a5 : Int32) (a6 : Nat) (w : sj_W) (Q : Int32 → sj_W → Prop) : Prop := sj_T w a1 = 5 ∧ vc_X6_isTrue a1 a2 a3 a4 a5 w (fun r1 w2 => ((r1 = 0 → sj_T w2 a6 = 8 ∧ vp_in 0 (sj_N w2 a6) ∧ ∀ w5 : sj_W, w5 = sj_sl w2 a6 (0 : Int32).toNatClampNeg 0 → Q 0 w5) ∧ (¬ r1 = 0 → sj_T w2 a6 = 8 ∧ vp_in 0 (sj_N w2 a6) ∧ ∀ w8 : sj_W, w8 = sj_sl w2 a6 (0 : Int32).toNatClampNeg 1 → Q 0 w8))) (fun E w10 => ((E = "java/lang/IllegalArgumentException" → Q 1 w10) ∧ (E = "java/lang/IndexOutOfBoundsException" → Q 2 w10) ∧ (E = "java/lang/IllegalStateException" → Q 3 w10) ∧ (E = "java/lang/IllegalArgumentException" ∨ E = "java/lang/IndexOutOfBoundsException" ∨ E = "java/lang/IllegalStateException")))
set_option maxHeartbeats 4000000 in
set_option maxRecDepth 100000 in
theorem wk_L_isTrue (G : sj_G) (l : Launch) (hlt : l.stackTraces = false) (a1 : Nat) (a2 : Int32) (a3 : Int32) (a4 : Int32) (a5 : Int32) (a6 : Nat) (w : sj_W) (Q : Int32 → sj_W → Prop) (QX : String → sj_W → Prop) (hv : vc_L_isTrue a1 a2 a3 a4 a5 a6 w Q) : sj_MI G l yL_isTrue (sj_wsW yL_isTrue cL_isTrue 7 (some .int) [(0, 21, 24, 13), (0, 21, 28, 15), (0, 21, 32, 17)]) rm_L_isTrue [.ref a1, .int a2, .int a3, .int a4, .int a5, .ref a6] w Q QX := by
  refine sj_ofW (by decide +kernel) (Nat.le_of_ble_eq_true rfl) hlt ?_
  intro p e s m args below meth c ls hC htb hk hr hH hl
  have hx := hC.1
  have hb := hC.2.1
  have hl : lv_has ls 7 [(0, .ref a1), (1, .int a2), (2, .int a3), (3, .int a4), (4, .int a5), (5, .ref a6)] := hl
  refine lv_aload hx hb dL_isTrue_0 (lv_at hl 5 rfl) ?_
  refine lv_iconst (v := 0) hx hb dL_isTrue_2 (by decide) ?_
  refine lv_aload_n hx hb dL_isTrue_3 rfl (lv_at hl 0 rfl) ?_
  refine lv_iload_n hx hb dL_isTrue_4 rfl (lv_at hl 1 rfl) ?_
  refine lv_iload_n hx hb dL_isTrue_5 rfl (lv_at hl 2 rfl) ?_
  refine lv_iload_n hx hb dL_isTrue_6 rfl (lv_at hl 3 rfl) ?_
  refine lv_iload hx hb dL_isTrue_7 (lv_at hl 4 rfl) ?_
  refine cx_L_126 hC hH hv.2 hv.1 ⟨Nat.le_of_ble_eq_true rfl, Nat.le_of_ble_eq_true rfl⟩ ⟨(Nat.le_of_ble_eq_true rfl), (Nat.le_of_ble_eq_true rfl)⟩ hl.1 (Nat.le_of_ble_eq_true rfl) dL_isTrue_9 (fun E ce q9 w10 H locs hH hE11 hq9 hcv hcl => ?_) (fun r1 w2 H locs hH hv3 => ?_)
  · rcases hE11.2.2.2 with rfl | rfl | rfl
    · have hv12 := hE11.1 rfl
      refine sj_catch (E := "java/lang/IllegalArgumentException") hC htb [] ⟨0, 21, 24, 13⟩ [⟨0, 21, 28, 15⟩, ⟨0, 21, 32, 17⟩] rfl (fun _ h => nomatch h) (by decide) (by decide) mb_128 mb_140 hq9 hcv hcl ?_
      refine lv_astore (lv' := [(6, .ref q9), (0, .ref a1), (1, .int a2), (2, .int a3), (3, .int a4), (4, .int a5), (5, .ref a6)]) hx hb dL_isTrue_24 hl (by decide) rfl (fun ls hl => ?_)
      refine lv_iconst (v := 1) hx hb dL_isTrue_26 (by decide) ?_
      exact sj_retI hC hk hH hr rfl hv12 ⟨(Nat.le_of_ble_eq_true rfl), (Nat.le_of_ble_eq_true rfl)⟩ dL_isTrue_27
    · have hv13 := hE11.2.1 rfl
      refine sj_catch (E := "java/lang/IndexOutOfBoundsException") hC htb [⟨0, 21, 24, 13⟩] ⟨0, 21, 28, 15⟩ [⟨0, 21, 32, 17⟩] rfl (by intro z hz; simp only [List.mem_cons, List.not_mem_nil, or_false] at hz; rcases hz with rfl <;> first | exact ⟨by decide, _, mb_128, by decide +kernel⟩) (by decide) (by decide) mb_129 mb_225 hq9 hcv hcl ?_
      refine lv_astore (lv' := [(6, .ref q9), (0, .ref a1), (1, .int a2), (2, .int a3), (3, .int a4), (4, .int a5), (5, .ref a6)]) hx hb dL_isTrue_28 hl (by decide) rfl (fun ls hl => ?_)
      refine lv_iconst (v := 2) hx hb dL_isTrue_30 (by decide) ?_
      exact sj_retI hC hk hH hr rfl hv13 ⟨(Nat.le_of_ble_eq_true rfl), (Nat.le_of_ble_eq_true rfl)⟩ dL_isTrue_31
    · have hv14 := hE11.2.2.1 rfl
      refine sj_catch (E := "java/lang/IllegalStateException") hC htb [⟨0, 21, 24, 13⟩, ⟨0, 21, 28, 15⟩] ⟨0, 21, 32, 17⟩ [] rfl (by intro z hz; simp only [List.mem_cons, List.not_mem_nil, or_false] at hz; rcases hz with rfl | rfl <;> first | exact ⟨by decide, _, mb_128, by decide +kernel⟩ | exact ⟨by decide, _, mb_129, by decide +kernel⟩) (by decide) (by decide) mb_130 mb_241 hq9 hcv hcl ?_
      refine lv_astore (lv' := [(6, .ref q9), (0, .ref a1), (1, .int a2), (2, .int a3), (3, .int a4), (4, .int a5), (5, .ref a6)]) hx hb dL_isTrue_32 hl (by decide) rfl (fun ls hl => ?_)
      refine lv_iconst (v := 3) hx hb dL_isTrue_34 (by decide) ?_
      exact sj_retI hC hk hH hr rfl hv14 ⟨(Nat.le_of_ble_eq_true rfl), (Nat.le_of_ble_eq_true rfl)⟩ dL_isTrue_35
  refine lv_if_eq (tgt := 19) hx hb dL_isTrue_12 (by decide) (fun hc => ?_) (fun hc => ?_)
  · have hv4 := hv3.1 hc
    refine lv_lconst (v := 0) hx hb dL_isTrue_19 (by decide) ?_
    refine sj_last hC hH hv4.1 hv4.2.1 dL_isTrue_20 (fun w5 H locs e6 hH => ?_)
    refine lv_goto (tgt := 36) hx hb dL_isTrue_21 (by decide) ?_
    refine lv_iconst (v := 0) hx hb dL_isTrue_36 (by decide) ?_
    exact sj_retI hC hk hH hr rfl (hv4.2.2 w5 e6) ⟨(Nat.le_of_ble_eq_true rfl), (Nat.le_of_ble_eq_true rfl)⟩ dL_isTrue_37
  · have hv7 := hv3.2 hc
    refine lv_lconst (v := 1) hx hb dL_isTrue_15 (by decide) ?_
    refine lv_goto (tgt := 20) hx hb dL_isTrue_16 (by decide) ?_
    refine sj_last hC hH hv7.1 hv7.2.1 dL_isTrue_20 (fun w8 H locs e9 hH => ?_)
    refine lv_goto (tgt := 36) hx hb dL_isTrue_21 (by decide) ?_
    refine lv_iconst (v := 0) hx hb dL_isTrue_36 (by decide) ?_
    exact sj_retI hC hk hH hr rfl (hv7.2.2 w8 e9) ⟨(Nat.le_of_ble_eq_true rfl), (Nat.le_of_ble_eq_true rfl)⟩ dL_isTrue_37
section SJL_L_isTrue
variable {p : Program} {l : Launch} {e : Env} {R : Room} {s : State} {m : MethodId} {args : Array Value} {below : List Frame} {meth : Method} {c : Code} {H : Heap} {locs : List Loc} {cells slots : Nat} {Q : State → Prop} {cc : ByteArray} {pc : Nat} {ls : Array Slot} {rest : List Value} {G : sj_G} {nL : Nat} {w : sj_W}
theorem cg_L_258 {b0 : Nat} {b1 : Int32} {b2 : Int32} {b3 : Int32} {b4 : Int32} {b5 : Nat} {Qi : Int32 → sj_W → Prop} (hC : sj_C G p l s m args c cc RL nL) (hH : sj_H G s w H locs) (hv : vc_L_isTrue b0 b1 b2 b3 b4 b5 w Qi) (hR : rm_L_isTrue.frames + 1 ≤ R.frames ∧ 8 + (7 + 11) + rm_L_isTrue.locals ≤ R.locals) (hf : cells + 34 ≤ R.cells ∧ slots + 471 ≤ R.slots) (hls : ls.size = nL) (hW : (rest.map fun v => v.category).sum ≤ 8) (hdg : decode cc pc = .ok (.invokestatic 258, 3)) (kk : ∀ (r : Int32) (w1 : sj_W) (H : Heap) (locs : List Loc), sj_H G s w1 H locs → Qi r w1 → W p l e R s m args below meth c H locs (cells + 34) (slots + 471) Q (F0 m (pc + 3) ls (.int r :: rest))) : W p l e R s m args below meth c H locs cells slots Q (F0 m pc ls (.ref b5 :: .int b4 :: .int b3 :: .int b2 :: .int b1 :: .ref b0 :: rest)) :=
  sj_xI hH (sj_runSX (n := 6) hC hH (As := [.ref b0, .int b1, .int b2, .int b3, .int b4, .ref b5]) (wk_L_isTrue G l hC.2.2.2.2.2.2 b0 b1 b2 b3 b4 b5 w Qi (fun _ _ => False) hv) mb_614 mb_615 mb_0 mb_616 (by decide +kernel) hR hf rfl hls hW hdg) (fun _ _ _ _ _ _ _ h _ _ _ => h.elim) kk
end SJL_L_isTrue
abbrev rm_L_length : Room := { frames := 9, cells := 2, slots := 12, locals := 146 }
def vc_L_length (a1 : Nat) (a2 : Int32) (a3 : Int32) (a4 : Nat) (w : sj_W) (Q : Int32 → sj_W → Prop) : Prop := sj_T w a1 = 5 ∧ vc_X6_length a1 a2 a3 w (fun r1 w2 => sj_T w2 a4 = 8 ∧ vp_in 0 (sj_N w2 a4) ∧ ∀ w4 : sj_W, w4 = sj_sl w2 a4 (0 : Int32).toNatClampNeg (r1.toInt64) → Q 0 w4) (fun E w6 => ((E = "java/lang/IllegalArgumentException" → Q 1 w6) ∧ (E = "java/lang/IndexOutOfBoundsException" → Q 2 w6) ∧ (E = "java/lang/IllegalArgumentException" ∨ E = "java/lang/IndexOutOfBoundsException")))
set_option maxHeartbeats 4000000 in
set_option maxRecDepth 100000 in
theorem wk_L_length (G : sj_G) (l : Launch) (hlt : l.stackTraces = false) (a1 : Nat) (a2 : Int32) (a3 : Int32) (a4 : Nat) (w : sj_W) (Q : Int32 → sj_W → Prop) (QX : String → sj_W → Prop) (hv : vc_L_length a1 a2 a3 a4 w Q) : sj_MI G l yL_length (sj_wsW yL_length cL_length 5 (some .int) [(0, 10, 13, 13), (0, 10, 17, 15)]) rm_L_length [.ref a1, .int a2, .int a3, .ref a4] w Q QX := by
  refine sj_ofW (by decide +kernel) (Nat.le_of_ble_eq_true rfl) hlt ?_
  intro p e s m args below meth c ls hC htb hk hr hH hl
  have hx := hC.1
  have hb := hC.2.1
  have hl : lv_has ls 5 [(0, .ref a1), (1, .int a2), (2, .int a3), (3, .ref a4)] := hl
  refine lv_aload_n hx hb dL_length_0 rfl (lv_at hl 3 rfl) ?_
  refine lv_iconst (v := 0) hx hb dL_length_1 (by decide) ?_
  refine lv_aload_n hx hb dL_length_2 rfl (lv_at hl 0 rfl) ?_
  refine lv_iload_n hx hb dL_length_3 rfl (lv_at hl 1 rfl) ?_
  refine lv_iload_n hx hb dL_length_4 rfl (lv_at hl 2 rfl) ?_
  refine cx_L_27 hC hH hv.2 hv.1 ⟨Nat.le_of_ble_eq_true rfl, Nat.le_of_ble_eq_true rfl⟩ ⟨(Nat.le_of_ble_eq_true rfl), (Nat.le_of_ble_eq_true rfl)⟩ hl.1 (Nat.le_of_ble_eq_true rfl) dL_length_5 (fun E ce q9 w6 H locs hH hE7 hq9 hcv hcl => ?_) (fun r1 w2 H locs hH hv3 => ?_)
  · rcases hE7.2.2 with rfl | rfl
    · have hv8 := hE7.1 rfl
      refine sj_catch (E := "java/lang/IllegalArgumentException") hC htb [] ⟨0, 10, 13, 13⟩ [⟨0, 10, 17, 15⟩] rfl (fun _ h => nomatch h) (by decide) (by decide) mb_128 mb_140 hq9 hcv hcl ?_
      refine lv_astore (lv' := [(4, .ref q9), (0, .ref a1), (1, .int a2), (2, .int a3), (3, .ref a4)]) hx hb dL_length_13 hl (by decide) rfl (fun ls hl => ?_)
      refine lv_iconst (v := 1) hx hb dL_length_15 (by decide) ?_
      exact sj_retI hC hk hH hr rfl hv8 ⟨(Nat.le_of_ble_eq_true rfl), (Nat.le_of_ble_eq_true rfl)⟩ dL_length_16
    · have hv9 := hE7.2.1 rfl
      refine sj_catch (E := "java/lang/IndexOutOfBoundsException") hC htb [⟨0, 10, 13, 13⟩] ⟨0, 10, 17, 15⟩ [] rfl (by intro z hz; simp only [List.mem_cons, List.not_mem_nil, or_false] at hz; rcases hz with rfl <;> first | exact ⟨by decide, _, mb_128, by decide +kernel⟩) (by decide) (by decide) mb_129 mb_225 hq9 hcv hcl ?_
      refine lv_astore (lv' := [(4, .ref q9), (0, .ref a1), (1, .int a2), (2, .int a3), (3, .ref a4)]) hx hb dL_length_17 hl (by decide) rfl (fun ls hl => ?_)
      refine lv_iconst (v := 2) hx hb dL_length_19 (by decide) ?_
      exact sj_retI hC hk hH hr rfl hv9 ⟨(Nat.le_of_ble_eq_true rfl), (Nat.le_of_ble_eq_true rfl)⟩ dL_length_20
  refine lv_i2l hx hb dL_length_8 rfl ?_
  refine sj_last hC hH hv3.1 hv3.2.1 dL_length_9 (fun w4 H locs e5 hH => ?_)
  refine lv_goto (tgt := 21) hx hb dL_length_10 (by decide) ?_
  refine lv_iconst (v := 0) hx hb dL_length_21 (by decide) ?_
  exact sj_retI hC hk hH hr rfl (hv3.2.2 w4 e5) ⟨(Nat.le_of_ble_eq_true rfl), (Nat.le_of_ble_eq_true rfl)⟩ dL_length_22
section SJL_L_length
variable {p : Program} {l : Launch} {e : Env} {R : Room} {s : State} {m : MethodId} {args : Array Value} {below : List Frame} {meth : Method} {c : Code} {H : Heap} {locs : List Loc} {cells slots : Nat} {Q : State → Prop} {cc : ByteArray} {pc : Nat} {ls : Array Slot} {rest : List Value} {G : sj_G} {nL : Nat} {w : sj_W}
theorem cg_L_158 {b0 : Nat} {b1 : Int32} {b2 : Int32} {b3 : Nat} {Qi : Int32 → sj_W → Prop} (hC : sj_C G p l s m args c cc RL nL) (hH : sj_H G s w H locs) (hv : vc_L_length b0 b1 b2 b3 w Qi) (hR : rm_L_length.frames + 1 ≤ R.frames ∧ 8 + (5 + 11) + rm_L_length.locals ≤ R.locals) (hf : cells + 2 ≤ R.cells ∧ slots + 12 ≤ R.slots) (hls : ls.size = nL) (hW : (rest.map fun v => v.category).sum ≤ 8) (hdg : decode cc pc = .ok (.invokestatic 158, 3)) (kk : ∀ (r : Int32) (w1 : sj_W) (H : Heap) (locs : List Loc), sj_H G s w1 H locs → Qi r w1 → W p l e R s m args below meth c H locs (cells + 2) (slots + 12) Q (F0 m (pc + 3) ls (.int r :: rest))) : W p l e R s m args below meth c H locs cells slots Q (F0 m pc ls (.ref b3 :: .int b2 :: .int b1 :: .ref b0 :: rest)) :=
  sj_xI hH (sj_runSX (n := 4) hC hH (As := [.ref b0, .int b1, .int b2, .ref b3]) (wk_L_length G l hC.2.2.2.2.2.2 b0 b1 b2 b3 w Qi (fun _ _ => False) hv) mb_273 mb_274 mb_0 mb_275 (by decide +kernel) hR hf rfl hls hW hdg) (fun _ _ _ _ _ _ _ h _ _ _ => h.elim) kk
end SJL_L_length
abbrev rm_L_longest : Room := { frames := 9, cells := 2, slots := 12, locals := 146 }
def vc_L_longest (a1 : Nat) (a2 : Int32) (a3 : Int32) (a4 : Nat) (w : sj_W) (Q : Int32 → sj_W → Prop) : Prop := sj_T w a1 = 5 ∧ vc_X6_longest a1 a2 a3 w (fun r1 w2 => sj_T w2 a4 = 8 ∧ vp_in 0 (sj_N w2 a4) ∧ ∀ w4 : sj_W, w4 = sj_sl w2 a4 (0 : Int32).toNatClampNeg (r1.toInt64) → Q 0 w4) (fun E w6 => ((E = "java/lang/IllegalArgumentException" → Q 1 w6) ∧ (E = "java/lang/IndexOutOfBoundsException" → Q 2 w6) ∧ (E = "java/lang/IllegalArgumentException" ∨ E = "java/lang/IndexOutOfBoundsException")))
set_option maxHeartbeats 4000000 in
set_option maxRecDepth 100000 in
theorem wk_L_longest (G : sj_G) (l : Launch) (hlt : l.stackTraces = false) (a1 : Nat) (a2 : Int32) (a3 : Int32) (a4 : Nat) (w : sj_W) (Q : Int32 → sj_W → Prop) (QX : String → sj_W → Prop) (hv : vc_L_longest a1 a2 a3 a4 w Q) : sj_MI G l yL_longest (sj_wsW yL_longest cL_longest 5 (some .int) [(0, 10, 13, 13), (0, 10, 17, 15)]) rm_L_longest [.ref a1, .int a2, .int a3, .ref a4] w Q QX := by
  refine sj_ofW (by decide +kernel) (Nat.le_of_ble_eq_true rfl) hlt ?_
  intro p e s m args below meth c ls hC htb hk hr hH hl
  have hx := hC.1
  have hb := hC.2.1
  have hl : lv_has ls 5 [(0, .ref a1), (1, .int a2), (2, .int a3), (3, .ref a4)] := hl
  refine lv_aload_n hx hb dL_longest_0 rfl (lv_at hl 3 rfl) ?_
  refine lv_iconst (v := 0) hx hb dL_longest_1 (by decide) ?_
  refine lv_aload_n hx hb dL_longest_2 rfl (lv_at hl 0 rfl) ?_
  refine lv_iload_n hx hb dL_longest_3 rfl (lv_at hl 1 rfl) ?_
  refine lv_iload_n hx hb dL_longest_4 rfl (lv_at hl 2 rfl) ?_
  refine cx_L_93 hC hH hv.2 hv.1 ⟨Nat.le_of_ble_eq_true rfl, Nat.le_of_ble_eq_true rfl⟩ ⟨(Nat.le_of_ble_eq_true rfl), (Nat.le_of_ble_eq_true rfl)⟩ hl.1 (Nat.le_of_ble_eq_true rfl) dL_longest_5 (fun E ce q9 w6 H locs hH hE7 hq9 hcv hcl => ?_) (fun r1 w2 H locs hH hv3 => ?_)
  · rcases hE7.2.2 with rfl | rfl
    · have hv8 := hE7.1 rfl
      refine sj_catch (E := "java/lang/IllegalArgumentException") hC htb [] ⟨0, 10, 13, 13⟩ [⟨0, 10, 17, 15⟩] rfl (fun _ h => nomatch h) (by decide) (by decide) mb_128 mb_140 hq9 hcv hcl ?_
      refine lv_astore (lv' := [(4, .ref q9), (0, .ref a1), (1, .int a2), (2, .int a3), (3, .ref a4)]) hx hb dL_longest_13 hl (by decide) rfl (fun ls hl => ?_)
      refine lv_iconst (v := 1) hx hb dL_longest_15 (by decide) ?_
      exact sj_retI hC hk hH hr rfl hv8 ⟨(Nat.le_of_ble_eq_true rfl), (Nat.le_of_ble_eq_true rfl)⟩ dL_longest_16
    · have hv9 := hE7.2.1 rfl
      refine sj_catch (E := "java/lang/IndexOutOfBoundsException") hC htb [⟨0, 10, 13, 13⟩] ⟨0, 10, 17, 15⟩ [] rfl (by intro z hz; simp only [List.mem_cons, List.not_mem_nil, or_false] at hz; rcases hz with rfl <;> first | exact ⟨by decide, _, mb_128, by decide +kernel⟩) (by decide) (by decide) mb_129 mb_225 hq9 hcv hcl ?_
      refine lv_astore (lv' := [(4, .ref q9), (0, .ref a1), (1, .int a2), (2, .int a3), (3, .ref a4)]) hx hb dL_longest_17 hl (by decide) rfl (fun ls hl => ?_)
      refine lv_iconst (v := 2) hx hb dL_longest_19 (by decide) ?_
      exact sj_retI hC hk hH hr rfl hv9 ⟨(Nat.le_of_ble_eq_true rfl), (Nat.le_of_ble_eq_true rfl)⟩ dL_longest_20
  refine lv_i2l hx hb dL_longest_8 rfl ?_
  refine sj_last hC hH hv3.1 hv3.2.1 dL_longest_9 (fun w4 H locs e5 hH => ?_)
  refine lv_goto (tgt := 21) hx hb dL_longest_10 (by decide) ?_
  refine lv_iconst (v := 0) hx hb dL_longest_21 (by decide) ?_
  exact sj_retI hC hk hH hr rfl (hv3.2.2 w4 e5) ⟨(Nat.le_of_ble_eq_true rfl), (Nat.le_of_ble_eq_true rfl)⟩ dL_longest_22
section SJL_L_longest
variable {p : Program} {l : Launch} {e : Env} {R : Room} {s : State} {m : MethodId} {args : Array Value} {below : List Frame} {meth : Method} {c : Code} {H : Heap} {locs : List Loc} {cells slots : Nat} {Q : State → Prop} {cc : ByteArray} {pc : Nat} {ls : Array Slot} {rest : List Value} {G : sj_G} {nL : Nat} {w : sj_W}
theorem cg_L_222 {b0 : Nat} {b1 : Int32} {b2 : Int32} {b3 : Nat} {Qi : Int32 → sj_W → Prop} (hC : sj_C G p l s m args c cc RL nL) (hH : sj_H G s w H locs) (hv : vc_L_longest b0 b1 b2 b3 w Qi) (hR : rm_L_longest.frames + 1 ≤ R.frames ∧ 8 + (5 + 11) + rm_L_longest.locals ≤ R.locals) (hf : cells + 2 ≤ R.cells ∧ slots + 12 ≤ R.slots) (hls : ls.size = nL) (hW : (rest.map fun v => v.category).sum ≤ 8) (hdg : decode cc pc = .ok (.invokestatic 222, 3)) (kk : ∀ (r : Int32) (w1 : sj_W) (H : Heap) (locs : List Loc), sj_H G s w1 H locs → Qi r w1 → W p l e R s m args below meth c H locs (cells + 2) (slots + 12) Q (F0 m (pc + 3) ls (.int r :: rest))) : W p l e R s m args below meth c H locs cells slots Q (F0 m pc ls (.ref b3 :: .int b2 :: .int b1 :: .ref b0 :: rest)) :=
  sj_xI hH (sj_runSX (n := 4) hC hH (As := [.ref b0, .int b1, .int b2, .ref b3]) (wk_L_longest G l hC.2.2.2.2.2.2 b0 b1 b2 b3 w Qi (fun _ _ => False) hv) mb_512 mb_513 mb_0 mb_514 (by decide +kernel) hR hf rfl hls hW hdg) (fun _ _ _ _ _ _ _ h _ _ _ => h.elim) kk
end SJL_L_longest
abbrev rm_L_mean : Room := { frames := 8, cells := 1, slots := 6, locals := 126 }
def vc_L_mean (a1 : Nat) (a2 : Int32) (a3 : Nat) (w : sj_W) (Q : Int32 → sj_W → Prop) : Prop := sj_T w a1 = 5 ∧ vc_X6_mean a1 a2 w (fun r1 w2 => sj_T w2 a3 = 9 ∧ vp_in 0 (sj_N w2 a3) ∧ ∀ w4 : sj_W, w4 = sj_sd w2 a3 (0 : Int32).toNatClampNeg r1 → Q 0 w4) (fun E w6 => ((E = "java/lang/IllegalArgumentException" → Q 1 w6) ∧ (E = "java/lang/IllegalArgumentException")))
set_option maxHeartbeats 4000000 in
set_option maxRecDepth 100000 in
theorem wk_L_mean (G : sj_G) (l : Launch) (hlt : l.stackTraces = false) (a1 : Nat) (a2 : Int32) (a3 : Nat) (w : sj_W) (Q : Int32 → sj_W → Prop) (QX : String → sj_W → Prop) (hv : vc_L_mean a1 a2 a3 w Q) : sj_MI G l yL_mean (sj_wsW yL_mean cL_mean 4 (some .int) [(0, 8, 11, 13)]) rm_L_mean [.ref a1, .int a2, .ref a3] w Q QX := by
  refine sj_ofW (by decide +kernel) (Nat.le_of_ble_eq_true rfl) hlt ?_
  intro p e s m args below meth c ls hC htb hk hr hH hl
  have hx := hC.1
  have hb := hC.2.1
  have hl : lv_has ls 4 [(0, .ref a1), (1, .int a2), (2, .ref a3)] := hl
  refine lv_aload_n hx hb dL_mean_0 rfl (lv_at hl 2 rfl) ?_
  refine lv_iconst (v := 0) hx hb dL_mean_1 (by decide) ?_
  refine lv_aload_n hx hb dL_mean_2 rfl (lv_at hl 0 rfl) ?_
  refine lv_iload_n hx hb dL_mean_3 rfl (lv_at hl 1 rfl) ?_
  refine cx_L_122 hC hH hv.2 hv.1 ⟨Nat.le_of_ble_eq_true rfl, Nat.le_of_ble_eq_true rfl⟩ ⟨(Nat.le_of_ble_eq_true rfl), (Nat.le_of_ble_eq_true rfl)⟩ hl.1 (Nat.le_of_ble_eq_true rfl) dL_mean_4 (fun E ce q9 w6 H locs hH hE7 hq9 hcv hcl => ?_) (fun r1 w2 H locs hH hv3 => ?_)
  · rcases hE7.2 with rfl
    · have hv8 := hE7.1 rfl
      refine sj_catch (E := "java/lang/IllegalArgumentException") hC htb [] ⟨0, 8, 11, 13⟩ [] rfl (fun _ h => nomatch h) (by decide) (by decide) mb_128 mb_140 hq9 hcv hcl ?_
      refine lv_astore_n (lv' := [(3, .ref q9), (0, .ref a1), (1, .int a2), (2, .ref a3)]) hx hb dL_mean_11 rfl hl (by decide) rfl (fun ls hl => ?_)
      refine lv_iconst (v := 1) hx hb dL_mean_12 (by decide) ?_
      exact sj_retI hC hk hH hr rfl hv8 ⟨(Nat.le_of_ble_eq_true rfl), (Nat.le_of_ble_eq_true rfl)⟩ dL_mean_13
  refine sj_dast hC hH hv3.1 hv3.2.1 dL_mean_7 (fun w4 H locs e5 hH => ?_)
  refine lv_goto (tgt := 14) hx hb dL_mean_8 (by decide) ?_
  refine lv_iconst (v := 0) hx hb dL_mean_14 (by decide) ?_
  exact sj_retI hC hk hH hr rfl (hv3.2.2 w4 e5) ⟨(Nat.le_of_ble_eq_true rfl), (Nat.le_of_ble_eq_true rfl)⟩ dL_mean_15
section SJL_L_mean
variable {p : Program} {l : Launch} {e : Env} {R : Room} {s : State} {m : MethodId} {args : Array Value} {below : List Frame} {meth : Method} {c : Code} {H : Heap} {locs : List Loc} {cells slots : Nat} {Q : State → Prop} {cc : ByteArray} {pc : Nat} {ls : Array Slot} {rest : List Value} {G : sj_G} {nL : Nat} {w : sj_W}
theorem cg_L_250 {b0 : Nat} {b1 : Int32} {b2 : Nat} {Qi : Int32 → sj_W → Prop} (hC : sj_C G p l s m args c cc RL nL) (hH : sj_H G s w H locs) (hv : vc_L_mean b0 b1 b2 w Qi) (hR : rm_L_mean.frames + 1 ≤ R.frames ∧ 8 + (4 + 11) + rm_L_mean.locals ≤ R.locals) (hf : cells + 1 ≤ R.cells ∧ slots + 6 ≤ R.slots) (hls : ls.size = nL) (hW : (rest.map fun v => v.category).sum ≤ 8) (hdg : decode cc pc = .ok (.invokestatic 250, 3)) (kk : ∀ (r : Int32) (w1 : sj_W) (H : Heap) (locs : List Loc), sj_H G s w1 H locs → Qi r w1 → W p l e R s m args below meth c H locs (cells + 1) (slots + 6) Q (F0 m (pc + 3) ls (.int r :: rest))) : W p l e R s m args below meth c H locs cells slots Q (F0 m pc ls (.ref b2 :: .int b1 :: .ref b0 :: rest)) :=
  sj_xI hH (sj_runSX (n := 3) hC hH (As := [.ref b0, .int b1, .ref b2]) (wk_L_mean G l hC.2.2.2.2.2.2 b0 b1 b2 w Qi (fun _ _ => False) hv) mb_606 mb_607 mb_0 mb_608 (by decide +kernel) hR hf rfl hls hW hdg) (fun _ _ _ _ _ _ _ h _ _ _ => h.elim) kk
end SJL_L_mean
abbrev rm_L_number : Room := { frames := 9, cells := 3, slots := 18, locals := 148 }
def vc_L_number (a1 : Nat) (a2 : Int32) (a3 : Int32) (a4 : Int32) (a5 : Nat) (w : sj_W) (Q : Int32 → sj_W → Prop) : Prop := sj_T w a1 = 5 ∧ vc_X6_number a1 a2 a3 a4 w (fun r1 w2 => sj_T w2 a5 = 8 ∧ vp_in 0 (sj_N w2 a5) ∧ ∀ w4 : sj_W, w4 = sj_sl w2 a5 (0 : Int32).toNatClampNeg r1 → Q 0 w4) (fun E w6 => ((E = "java/lang/IllegalArgumentException" → Q 1 w6) ∧ (E = "java/lang/IndexOutOfBoundsException" → Q 2 w6) ∧ (E = "java/lang/IllegalArgumentException" ∨ E = "java/lang/IndexOutOfBoundsException")))
set_option maxHeartbeats 4000000 in
set_option maxRecDepth 100000 in
theorem wk_L_number (G : sj_G) (l : Launch) (hlt : l.stackTraces = false) (a1 : Nat) (a2 : Int32) (a3 : Int32) (a4 : Int32) (a5 : Nat) (w : sj_W) (Q : Int32 → sj_W → Prop) (QX : String → sj_W → Prop) (hv : vc_L_number a1 a2 a3 a4 a5 w Q) : sj_MI G l yL_number (sj_wsW yL_number cL_number 6 (some .int) [(0, 11, 14, 13), (0, 11, 18, 15)]) rm_L_number [.ref a1, .int a2, .int a3, .int a4, .ref a5] w Q QX := by
  refine sj_ofW (by decide +kernel) (Nat.le_of_ble_eq_true rfl) hlt ?_
  intro p e s m args below meth c ls hC htb hk hr hH hl
  have hx := hC.1
  have hb := hC.2.1
  have hl : lv_has ls 6 [(0, .ref a1), (1, .int a2), (2, .int a3), (3, .int a4), (4, .ref a5)] := hl
  refine lv_aload hx hb dL_number_0 (lv_at hl 4 rfl) ?_
  refine lv_iconst (v := 0) hx hb dL_number_2 (by decide) ?_
  refine lv_aload_n hx hb dL_number_3 rfl (lv_at hl 0 rfl) ?_
  refine lv_iload_n hx hb dL_number_4 rfl (lv_at hl 1 rfl) ?_
  refine lv_iload_n hx hb dL_number_5 rfl (lv_at hl 2 rfl) ?_
  refine lv_iload_n hx hb dL_number_6 rfl (lv_at hl 3 rfl) ?_
  refine cx_L_23 hC hH hv.2 hv.1 ⟨Nat.le_of_ble_eq_true rfl, Nat.le_of_ble_eq_true rfl⟩ ⟨(Nat.le_of_ble_eq_true rfl), (Nat.le_of_ble_eq_true rfl)⟩ hl.1 (Nat.le_of_ble_eq_true rfl) dL_number_7 (fun E ce q9 w6 H locs hH hE7 hq9 hcv hcl => ?_) (fun r1 w2 H locs hH hv3 => ?_)
  · rcases hE7.2.2 with rfl | rfl
    · have hv8 := hE7.1 rfl
      refine sj_catch (E := "java/lang/IllegalArgumentException") hC htb [] ⟨0, 11, 14, 13⟩ [⟨0, 11, 18, 15⟩] rfl (fun _ h => nomatch h) (by decide) (by decide) mb_128 mb_140 hq9 hcv hcl ?_
      refine lv_astore (lv' := [(5, .ref q9), (0, .ref a1), (1, .int a2), (2, .int a3), (3, .int a4), (4, .ref a5)]) hx hb dL_number_14 hl (by decide) rfl (fun ls hl => ?_)
      refine lv_iconst (v := 1) hx hb dL_number_16 (by decide) ?_
      exact sj_retI hC hk hH hr rfl hv8 ⟨(Nat.le_of_ble_eq_true rfl), (Nat.le_of_ble_eq_true rfl)⟩ dL_number_17
    · have hv9 := hE7.2.1 rfl
      refine sj_catch (E := "java/lang/IndexOutOfBoundsException") hC htb [⟨0, 11, 14, 13⟩] ⟨0, 11, 18, 15⟩ [] rfl (by intro z hz; simp only [List.mem_cons, List.not_mem_nil, or_false] at hz; rcases hz with rfl <;> first | exact ⟨by decide, _, mb_128, by decide +kernel⟩) (by decide) (by decide) mb_129 mb_225 hq9 hcv hcl ?_
      refine lv_astore (lv' := [(5, .ref q9), (0, .ref a1), (1, .int a2), (2, .int a3), (3, .int a4), (4, .ref a5)]) hx hb dL_number_18 hl (by decide) rfl (fun ls hl => ?_)
      refine lv_iconst (v := 2) hx hb dL_number_20 (by decide) ?_
      exact sj_retI hC hk hH hr rfl hv9 ⟨(Nat.le_of_ble_eq_true rfl), (Nat.le_of_ble_eq_true rfl)⟩ dL_number_21
  refine sj_last hC hH hv3.1 hv3.2.1 dL_number_10 (fun w4 H locs e5 hH => ?_)
  refine lv_goto (tgt := 22) hx hb dL_number_11 (by decide) ?_
  refine lv_iconst (v := 0) hx hb dL_number_22 (by decide) ?_
  exact sj_retI hC hk hH hr rfl (hv3.2.2 w4 e5) ⟨(Nat.le_of_ble_eq_true rfl), (Nat.le_of_ble_eq_true rfl)⟩ dL_number_23
section SJL_L_number
variable {p : Program} {l : Launch} {e : Env} {R : Room} {s : State} {m : MethodId} {args : Array Value} {below : List Frame} {meth : Method} {c : Code} {H : Heap} {locs : List Loc} {cells slots : Nat} {Q : State → Prop} {cc : ByteArray} {pc : Nat} {ls : Array Slot} {rest : List Value} {G : sj_G} {nL : Nat} {w : sj_W}
theorem cg_L_154 {b0 : Nat} {b1 : Int32} {b2 : Int32} {b3 : Int32} {b4 : Nat} {Qi : Int32 → sj_W → Prop} (hC : sj_C G p l s m args c cc RL nL) (hH : sj_H G s w H locs) (hv : vc_L_number b0 b1 b2 b3 b4 w Qi) (hR : rm_L_number.frames + 1 ≤ R.frames ∧ 8 + (6 + 11) + rm_L_number.locals ≤ R.locals) (hf : cells + 3 ≤ R.cells ∧ slots + 18 ≤ R.slots) (hls : ls.size = nL) (hW : (rest.map fun v => v.category).sum ≤ 8) (hdg : decode cc pc = .ok (.invokestatic 154, 3)) (kk : ∀ (r : Int32) (w1 : sj_W) (H : Heap) (locs : List Loc), sj_H G s w1 H locs → Qi r w1 → W p l e R s m args below meth c H locs (cells + 3) (slots + 18) Q (F0 m (pc + 3) ls (.int r :: rest))) : W p l e R s m args below meth c H locs cells slots Q (F0 m pc ls (.ref b4 :: .int b3 :: .int b2 :: .int b1 :: .ref b0 :: rest)) :=
  sj_xI hH (sj_runSX (n := 5) hC hH (As := [.ref b0, .int b1, .int b2, .int b3, .ref b4]) (wk_L_number G l hC.2.2.2.2.2.2 b0 b1 b2 b3 b4 w Qi (fun _ _ => False) hv) mb_266 mb_267 mb_0 mb_268 (by decide +kernel) hR hf rfl hls hW hdg) (fun _ _ _ _ _ _ _ h _ _ _ => h.elim) kk
end SJL_L_number
abbrev rm_L_occurs : Room := { frames := 9, cells := 41, slots := 135, locals := 152 }
def vc_L_occurs (a1 : Nat) (a2 : Int32) (a3 : Int32) (a4 : Int32) (a5 : Nat) (w : sj_W) (Q : Int32 → sj_W → Prop) : Prop := sj_T w a1 = 5 ∧ vc_X6_occurs a1 a2 a3 a4 w (fun r1 w2 => sj_T w2 a5 = 8 ∧ vp_in 0 (sj_N w2 a5) ∧ ∀ w4 : sj_W, w4 = sj_sl w2 a5 (0 : Int32).toNatClampNeg (r1.toInt64) → Q 0 w4) (fun E w6 => ((E = "java/lang/IllegalArgumentException" → Q 1 w6) ∧ (E = "java/lang/IndexOutOfBoundsException" → Q 2 w6) ∧ (E = "java/lang/IllegalStateException" → Q 3 w6) ∧ (E = "java/lang/IllegalArgumentException" ∨ E = "java/lang/IndexOutOfBoundsException" ∨ E = "java/lang/IllegalStateException")))
set_option maxHeartbeats 4000000 in
set_option maxRecDepth 100000 in
theorem wk_L_occurs (G : sj_G) (l : Launch) (hlt : l.stackTraces = false) (a1 : Nat) (a2 : Int32) (a3 : Int32) (a4 : Int32) (a5 : Nat) (w : sj_W) (Q : Int32 → sj_W → Prop) (QX : String → sj_W → Prop) (hv : vc_L_occurs a1 a2 a3 a4 a5 w Q) : sj_MI G l yL_occurs (sj_wsW yL_occurs cL_occurs 6 (some .int) [(0, 12, 15, 13), (0, 12, 19, 15), (0, 12, 23, 17)]) rm_L_occurs [.ref a1, .int a2, .int a3, .int a4, .ref a5] w Q QX := by
  refine sj_ofW (by decide +kernel) (Nat.le_of_ble_eq_true rfl) hlt ?_
  intro p e s m args below meth c ls hC htb hk hr hH hl
  have hx := hC.1
  have hb := hC.2.1
  have hl : lv_has ls 6 [(0, .ref a1), (1, .int a2), (2, .int a3), (3, .int a4), (4, .ref a5)] := hl
  refine lv_aload hx hb dL_occurs_0 (lv_at hl 4 rfl) ?_
  refine lv_iconst (v := 0) hx hb dL_occurs_2 (by decide) ?_
  refine lv_aload_n hx hb dL_occurs_3 rfl (lv_at hl 0 rfl) ?_
  refine lv_iload_n hx hb dL_occurs_4 rfl (lv_at hl 1 rfl) ?_
  refine lv_iload_n hx hb dL_occurs_5 rfl (lv_at hl 2 rfl) ?_
  refine lv_iload_n hx hb dL_occurs_6 rfl (lv_at hl 3 rfl) ?_
  refine cx_L_96 hC hH hv.2 hv.1 ⟨Nat.le_of_ble_eq_true rfl, Nat.le_of_ble_eq_true rfl⟩ ⟨(Nat.le_of_ble_eq_true rfl), (Nat.le_of_ble_eq_true rfl)⟩ hl.1 (Nat.le_of_ble_eq_true rfl) dL_occurs_7 (fun E ce q9 w6 H locs hH hE7 hq9 hcv hcl => ?_) (fun r1 w2 H locs hH hv3 => ?_)
  · rcases hE7.2.2.2 with rfl | rfl | rfl
    · have hv8 := hE7.1 rfl
      refine sj_catch (E := "java/lang/IllegalArgumentException") hC htb [] ⟨0, 12, 15, 13⟩ [⟨0, 12, 19, 15⟩, ⟨0, 12, 23, 17⟩] rfl (fun _ h => nomatch h) (by decide) (by decide) mb_128 mb_140 hq9 hcv hcl ?_
      refine lv_astore (lv' := [(5, .ref q9), (0, .ref a1), (1, .int a2), (2, .int a3), (3, .int a4), (4, .ref a5)]) hx hb dL_occurs_15 hl (by decide) rfl (fun ls hl => ?_)
      refine lv_iconst (v := 1) hx hb dL_occurs_17 (by decide) ?_
      exact sj_retI hC hk hH hr rfl hv8 ⟨(Nat.le_of_ble_eq_true rfl), (Nat.le_of_ble_eq_true rfl)⟩ dL_occurs_18
    · have hv9 := hE7.2.1 rfl
      refine sj_catch (E := "java/lang/IndexOutOfBoundsException") hC htb [⟨0, 12, 15, 13⟩] ⟨0, 12, 19, 15⟩ [⟨0, 12, 23, 17⟩] rfl (by intro z hz; simp only [List.mem_cons, List.not_mem_nil, or_false] at hz; rcases hz with rfl <;> first | exact ⟨by decide, _, mb_128, by decide +kernel⟩) (by decide) (by decide) mb_129 mb_225 hq9 hcv hcl ?_
      refine lv_astore (lv' := [(5, .ref q9), (0, .ref a1), (1, .int a2), (2, .int a3), (3, .int a4), (4, .ref a5)]) hx hb dL_occurs_19 hl (by decide) rfl (fun ls hl => ?_)
      refine lv_iconst (v := 2) hx hb dL_occurs_21 (by decide) ?_
      exact sj_retI hC hk hH hr rfl hv9 ⟨(Nat.le_of_ble_eq_true rfl), (Nat.le_of_ble_eq_true rfl)⟩ dL_occurs_22
    · have hv10 := hE7.2.2.1 rfl
      refine sj_catch (E := "java/lang/IllegalStateException") hC htb [⟨0, 12, 15, 13⟩, ⟨0, 12, 19, 15⟩] ⟨0, 12, 23, 17⟩ [] rfl (by intro z hz; simp only [List.mem_cons, List.not_mem_nil, or_false] at hz; rcases hz with rfl | rfl <;> first | exact ⟨by decide, _, mb_128, by decide +kernel⟩ | exact ⟨by decide, _, mb_129, by decide +kernel⟩) (by decide) (by decide) mb_130 mb_241 hq9 hcv hcl ?_
      refine lv_astore (lv' := [(5, .ref q9), (0, .ref a1), (1, .int a2), (2, .int a3), (3, .int a4), (4, .ref a5)]) hx hb dL_occurs_23 hl (by decide) rfl (fun ls hl => ?_)
      refine lv_iconst (v := 3) hx hb dL_occurs_25 (by decide) ?_
      exact sj_retI hC hk hH hr rfl hv10 ⟨(Nat.le_of_ble_eq_true rfl), (Nat.le_of_ble_eq_true rfl)⟩ dL_occurs_26
  refine lv_i2l hx hb dL_occurs_10 rfl ?_
  refine sj_last hC hH hv3.1 hv3.2.1 dL_occurs_11 (fun w4 H locs e5 hH => ?_)
  refine lv_goto (tgt := 27) hx hb dL_occurs_12 (by decide) ?_
  refine lv_iconst (v := 0) hx hb dL_occurs_27 (by decide) ?_
  exact sj_retI hC hk hH hr rfl (hv3.2.2 w4 e5) ⟨(Nat.le_of_ble_eq_true rfl), (Nat.le_of_ble_eq_true rfl)⟩ dL_occurs_28
section SJL_L_occurs
variable {p : Program} {l : Launch} {e : Env} {R : Room} {s : State} {m : MethodId} {args : Array Value} {below : List Frame} {meth : Method} {c : Code} {H : Heap} {locs : List Loc} {cells slots : Nat} {Q : State → Prop} {cc : ByteArray} {pc : Nat} {ls : Array Slot} {rest : List Value} {G : sj_G} {nL : Nat} {w : sj_W}
theorem cg_L_225 {b0 : Nat} {b1 : Int32} {b2 : Int32} {b3 : Int32} {b4 : Nat} {Qi : Int32 → sj_W → Prop} (hC : sj_C G p l s m args c cc RL nL) (hH : sj_H G s w H locs) (hv : vc_L_occurs b0 b1 b2 b3 b4 w Qi) (hR : rm_L_occurs.frames + 1 ≤ R.frames ∧ 8 + (6 + 11) + rm_L_occurs.locals ≤ R.locals) (hf : cells + 41 ≤ R.cells ∧ slots + 135 ≤ R.slots) (hls : ls.size = nL) (hW : (rest.map fun v => v.category).sum ≤ 8) (hdg : decode cc pc = .ok (.invokestatic 225, 3)) (kk : ∀ (r : Int32) (w1 : sj_W) (H : Heap) (locs : List Loc), sj_H G s w1 H locs → Qi r w1 → W p l e R s m args below meth c H locs (cells + 41) (slots + 135) Q (F0 m (pc + 3) ls (.int r :: rest))) : W p l e R s m args below meth c H locs cells slots Q (F0 m pc ls (.ref b4 :: .int b3 :: .int b2 :: .int b1 :: .ref b0 :: rest)) :=
  sj_xI hH (sj_runSX (n := 5) hC hH (As := [.ref b0, .int b1, .int b2, .int b3, .ref b4]) (wk_L_occurs G l hC.2.2.2.2.2.2 b0 b1 b2 b3 b4 w Qi (fun _ _ => False) hv) mb_523 mb_524 mb_0 mb_525 (by decide +kernel) hR hf rfl hls hW hdg) (fun _ _ _ _ _ _ _ h _ _ _ => h.elim) kk
end SJL_L_occurs
abbrev rm_L_period : Room := { frames := 9, cells := 2, slots := 12, locals := 148 }
def vc_L_period (a1 : Nat) (a2 : Int32) (a3 : Int32) (a4 : Nat) (w : sj_W) (Q : Int32 → sj_W → Prop) : Prop := sj_T w a1 = 5 ∧ vc_X6_period a1 a2 a3 w (fun r1 w2 => sj_T w2 a4 = 8 ∧ vp_in 0 (sj_N w2 a4) ∧ ∀ w4 : sj_W, w4 = sj_sl w2 a4 (0 : Int32).toNatClampNeg (r1.toInt64) → Q 0 w4) (fun E w6 => ((E = "java/lang/IllegalArgumentException" → Q 1 w6) ∧ (E = "java/lang/IndexOutOfBoundsException" → Q 2 w6) ∧ (E = "java/lang/IllegalArgumentException" ∨ E = "java/lang/IndexOutOfBoundsException")))
set_option maxHeartbeats 4000000 in
set_option maxRecDepth 100000 in
theorem wk_L_period (G : sj_G) (l : Launch) (hlt : l.stackTraces = false) (a1 : Nat) (a2 : Int32) (a3 : Int32) (a4 : Nat) (w : sj_W) (Q : Int32 → sj_W → Prop) (QX : String → sj_W → Prop) (hv : vc_L_period a1 a2 a3 a4 w Q) : sj_MI G l yL_period (sj_wsW yL_period cL_period 5 (some .int) [(0, 10, 13, 13), (0, 10, 17, 15)]) rm_L_period [.ref a1, .int a2, .int a3, .ref a4] w Q QX := by
  refine sj_ofW (by decide +kernel) (Nat.le_of_ble_eq_true rfl) hlt ?_
  intro p e s m args below meth c ls hC htb hk hr hH hl
  have hx := hC.1
  have hb := hC.2.1
  have hl : lv_has ls 5 [(0, .ref a1), (1, .int a2), (2, .int a3), (3, .ref a4)] := hl
  refine lv_aload_n hx hb dL_period_0 rfl (lv_at hl 3 rfl) ?_
  refine lv_iconst (v := 0) hx hb dL_period_1 (by decide) ?_
  refine lv_aload_n hx hb dL_period_2 rfl (lv_at hl 0 rfl) ?_
  refine lv_iload_n hx hb dL_period_3 rfl (lv_at hl 1 rfl) ?_
  refine lv_iload_n hx hb dL_period_4 rfl (lv_at hl 2 rfl) ?_
  refine cx_L_103 hC hH hv.2 hv.1 ⟨Nat.le_of_ble_eq_true rfl, Nat.le_of_ble_eq_true rfl⟩ ⟨(Nat.le_of_ble_eq_true rfl), (Nat.le_of_ble_eq_true rfl)⟩ hl.1 (Nat.le_of_ble_eq_true rfl) dL_period_5 (fun E ce q9 w6 H locs hH hE7 hq9 hcv hcl => ?_) (fun r1 w2 H locs hH hv3 => ?_)
  · rcases hE7.2.2 with rfl | rfl
    · have hv8 := hE7.1 rfl
      refine sj_catch (E := "java/lang/IllegalArgumentException") hC htb [] ⟨0, 10, 13, 13⟩ [⟨0, 10, 17, 15⟩] rfl (fun _ h => nomatch h) (by decide) (by decide) mb_128 mb_140 hq9 hcv hcl ?_
      refine lv_astore (lv' := [(4, .ref q9), (0, .ref a1), (1, .int a2), (2, .int a3), (3, .ref a4)]) hx hb dL_period_13 hl (by decide) rfl (fun ls hl => ?_)
      refine lv_iconst (v := 1) hx hb dL_period_15 (by decide) ?_
      exact sj_retI hC hk hH hr rfl hv8 ⟨(Nat.le_of_ble_eq_true rfl), (Nat.le_of_ble_eq_true rfl)⟩ dL_period_16
    · have hv9 := hE7.2.1 rfl
      refine sj_catch (E := "java/lang/IndexOutOfBoundsException") hC htb [⟨0, 10, 13, 13⟩] ⟨0, 10, 17, 15⟩ [] rfl (by intro z hz; simp only [List.mem_cons, List.not_mem_nil, or_false] at hz; rcases hz with rfl <;> first | exact ⟨by decide, _, mb_128, by decide +kernel⟩) (by decide) (by decide) mb_129 mb_225 hq9 hcv hcl ?_
      refine lv_astore (lv' := [(4, .ref q9), (0, .ref a1), (1, .int a2), (2, .int a3), (3, .ref a4)]) hx hb dL_period_17 hl (by decide) rfl (fun ls hl => ?_)
      refine lv_iconst (v := 2) hx hb dL_period_19 (by decide) ?_
      exact sj_retI hC hk hH hr rfl hv9 ⟨(Nat.le_of_ble_eq_true rfl), (Nat.le_of_ble_eq_true rfl)⟩ dL_period_20
  refine lv_i2l hx hb dL_period_8 rfl ?_
  refine sj_last hC hH hv3.1 hv3.2.1 dL_period_9 (fun w4 H locs e5 hH => ?_)
  refine lv_goto (tgt := 21) hx hb dL_period_10 (by decide) ?_
  refine lv_iconst (v := 0) hx hb dL_period_21 (by decide) ?_
  exact sj_retI hC hk hH hr rfl (hv3.2.2 w4 e5) ⟨(Nat.le_of_ble_eq_true rfl), (Nat.le_of_ble_eq_true rfl)⟩ dL_period_22
section SJL_L_period
variable {p : Program} {l : Launch} {e : Env} {R : Room} {s : State} {m : MethodId} {args : Array Value} {below : List Frame} {meth : Method} {c : Code} {H : Heap} {locs : List Loc} {cells slots : Nat} {Q : State → Prop} {cc : ByteArray} {pc : Nat} {ls : Array Slot} {rest : List Value} {G : sj_G} {nL : Nat} {w : sj_W}
theorem cg_L_231 {b0 : Nat} {b1 : Int32} {b2 : Int32} {b3 : Nat} {Qi : Int32 → sj_W → Prop} (hC : sj_C G p l s m args c cc RL nL) (hH : sj_H G s w H locs) (hv : vc_L_period b0 b1 b2 b3 w Qi) (hR : rm_L_period.frames + 1 ≤ R.frames ∧ 8 + (5 + 11) + rm_L_period.locals ≤ R.locals) (hf : cells + 2 ≤ R.cells ∧ slots + 12 ≤ R.slots) (hls : ls.size = nL) (hW : (rest.map fun v => v.category).sum ≤ 8) (hdg : decode cc pc = .ok (.invokestatic 231, 3)) (kk : ∀ (r : Int32) (w1 : sj_W) (H : Heap) (locs : List Loc), sj_H G s w1 H locs → Qi r w1 → W p l e R s m args below meth c H locs (cells + 2) (slots + 12) Q (F0 m (pc + 3) ls (.int r :: rest))) : W p l e R s m args below meth c H locs cells slots Q (F0 m pc ls (.ref b3 :: .int b2 :: .int b1 :: .ref b0 :: rest)) :=
  sj_xI hH (sj_runSX (n := 4) hC hH (As := [.ref b0, .int b1, .int b2, .ref b3]) (wk_L_period G l hC.2.2.2.2.2.2 b0 b1 b2 b3 w Qi (fun _ _ => False) hv) mb_542 mb_543 mb_0 mb_544 (by decide +kernel) hR hf rfl hls hW hdg) (fun _ _ _ _ _ _ _ h _ _ _ => h.elim) kk
end SJL_L_period
abbrev rm_L_rank : Room := { frames := 8, cells := 19, slots := 69, locals := 135 }
def vc_L_rank (a1 : Nat) (a2 : Int32) (a3 : Int32) (a4 : Int32) (a5 : Nat) (w : sj_W) (Q : Int32 → sj_W → Prop) : Prop := sj_T w a1 = 5 ∧ vc_X6_rank a1 a2 a3 a4 w (fun r1 w2 => sj_T w2 a5 = 8 ∧ vp_in 0 (sj_N w2 a5) ∧ ∀ w4 : sj_W, w4 = sj_sl w2 a5 (0 : Int32).toNatClampNeg (r1.toInt64) → Q 0 w4) (fun E w6 => ((E = "java/lang/IllegalArgumentException" → Q 1 w6) ∧ (E = "java/lang/IndexOutOfBoundsException" → Q 2 w6) ∧ (E = "java/lang/IllegalStateException" → Q 3 w6) ∧ (E = "java/lang/IllegalArgumentException" ∨ E = "java/lang/IndexOutOfBoundsException" ∨ E = "java/lang/IllegalStateException")))
set_option maxHeartbeats 4000000 in
set_option maxRecDepth 100000 in
theorem wk_L_rank (G : sj_G) (l : Launch) (hlt : l.stackTraces = false) (a1 : Nat) (a2 : Int32) (a3 : Int32) (a4 : Int32) (a5 : Nat) (w : sj_W) (Q : Int32 → sj_W → Prop) (QX : String → sj_W → Prop) (hv : vc_L_rank a1 a2 a3 a4 a5 w Q) : sj_MI G l yL_rank (sj_wsW yL_rank cL_rank 6 (some .int) [(0, 12, 15, 13), (0, 12, 19, 15), (0, 12, 23, 17)]) rm_L_rank [.ref a1, .int a2, .int a3, .int a4, .ref a5] w Q QX := by
  refine sj_ofW (by decide +kernel) (Nat.le_of_ble_eq_true rfl) hlt ?_
  intro p e s m args below meth c ls hC htb hk hr hH hl
  have hx := hC.1
  have hb := hC.2.1
  have hl : lv_has ls 6 [(0, .ref a1), (1, .int a2), (2, .int a3), (3, .int a4), (4, .ref a5)] := hl
  refine lv_aload hx hb dL_rank_0 (lv_at hl 4 rfl) ?_
  refine lv_iconst (v := 0) hx hb dL_rank_2 (by decide) ?_
  refine lv_aload_n hx hb dL_rank_3 rfl (lv_at hl 0 rfl) ?_
  refine lv_iload_n hx hb dL_rank_4 rfl (lv_at hl 1 rfl) ?_
  refine lv_iload_n hx hb dL_rank_5 rfl (lv_at hl 2 rfl) ?_
  refine lv_iload_n hx hb dL_rank_6 rfl (lv_at hl 3 rfl) ?_
  refine cx_L_75 hC hH hv.2 hv.1 ⟨Nat.le_of_ble_eq_true rfl, Nat.le_of_ble_eq_true rfl⟩ ⟨(Nat.le_of_ble_eq_true rfl), (Nat.le_of_ble_eq_true rfl)⟩ hl.1 (Nat.le_of_ble_eq_true rfl) dL_rank_7 (fun E ce q9 w6 H locs hH hE7 hq9 hcv hcl => ?_) (fun r1 w2 H locs hH hv3 => ?_)
  · rcases hE7.2.2.2 with rfl | rfl | rfl
    · have hv8 := hE7.1 rfl
      refine sj_catch (E := "java/lang/IllegalArgumentException") hC htb [] ⟨0, 12, 15, 13⟩ [⟨0, 12, 19, 15⟩, ⟨0, 12, 23, 17⟩] rfl (fun _ h => nomatch h) (by decide) (by decide) mb_128 mb_140 hq9 hcv hcl ?_
      refine lv_astore (lv' := [(5, .ref q9), (0, .ref a1), (1, .int a2), (2, .int a3), (3, .int a4), (4, .ref a5)]) hx hb dL_rank_15 hl (by decide) rfl (fun ls hl => ?_)
      refine lv_iconst (v := 1) hx hb dL_rank_17 (by decide) ?_
      exact sj_retI hC hk hH hr rfl hv8 ⟨(Nat.le_of_ble_eq_true rfl), (Nat.le_of_ble_eq_true rfl)⟩ dL_rank_18
    · have hv9 := hE7.2.1 rfl
      refine sj_catch (E := "java/lang/IndexOutOfBoundsException") hC htb [⟨0, 12, 15, 13⟩] ⟨0, 12, 19, 15⟩ [⟨0, 12, 23, 17⟩] rfl (by intro z hz; simp only [List.mem_cons, List.not_mem_nil, or_false] at hz; rcases hz with rfl <;> first | exact ⟨by decide, _, mb_128, by decide +kernel⟩) (by decide) (by decide) mb_129 mb_225 hq9 hcv hcl ?_
      refine lv_astore (lv' := [(5, .ref q9), (0, .ref a1), (1, .int a2), (2, .int a3), (3, .int a4), (4, .ref a5)]) hx hb dL_rank_19 hl (by decide) rfl (fun ls hl => ?_)
      refine lv_iconst (v := 2) hx hb dL_rank_21 (by decide) ?_
      exact sj_retI hC hk hH hr rfl hv9 ⟨(Nat.le_of_ble_eq_true rfl), (Nat.le_of_ble_eq_true rfl)⟩ dL_rank_22
    · have hv10 := hE7.2.2.1 rfl
      refine sj_catch (E := "java/lang/IllegalStateException") hC htb [⟨0, 12, 15, 13⟩, ⟨0, 12, 19, 15⟩] ⟨0, 12, 23, 17⟩ [] rfl (by intro z hz; simp only [List.mem_cons, List.not_mem_nil, or_false] at hz; rcases hz with rfl | rfl <;> first | exact ⟨by decide, _, mb_128, by decide +kernel⟩ | exact ⟨by decide, _, mb_129, by decide +kernel⟩) (by decide) (by decide) mb_130 mb_241 hq9 hcv hcl ?_
      refine lv_astore (lv' := [(5, .ref q9), (0, .ref a1), (1, .int a2), (2, .int a3), (3, .int a4), (4, .ref a5)]) hx hb dL_rank_23 hl (by decide) rfl (fun ls hl => ?_)
      refine lv_iconst (v := 3) hx hb dL_rank_25 (by decide) ?_
      exact sj_retI hC hk hH hr rfl hv10 ⟨(Nat.le_of_ble_eq_true rfl), (Nat.le_of_ble_eq_true rfl)⟩ dL_rank_26
  refine lv_i2l hx hb dL_rank_10 rfl ?_
  refine sj_last hC hH hv3.1 hv3.2.1 dL_rank_11 (fun w4 H locs e5 hH => ?_)
  refine lv_goto (tgt := 27) hx hb dL_rank_12 (by decide) ?_
  refine lv_iconst (v := 0) hx hb dL_rank_27 (by decide) ?_
  exact sj_retI hC hk hH hr rfl (hv3.2.2 w4 e5) ⟨(Nat.le_of_ble_eq_true rfl), (Nat.le_of_ble_eq_true rfl)⟩ dL_rank_28
section SJL_L_rank
variable {p : Program} {l : Launch} {e : Env} {R : Room} {s : State} {m : MethodId} {args : Array Value} {below : List Frame} {meth : Method} {c : Code} {H : Heap} {locs : List Loc} {cells slots : Nat} {Q : State → Prop} {cc : ByteArray} {pc : Nat} {ls : Array Slot} {rest : List Value} {G : sj_G} {nL : Nat} {w : sj_W}
theorem cg_L_204 {b0 : Nat} {b1 : Int32} {b2 : Int32} {b3 : Int32} {b4 : Nat} {Qi : Int32 → sj_W → Prop} (hC : sj_C G p l s m args c cc RL nL) (hH : sj_H G s w H locs) (hv : vc_L_rank b0 b1 b2 b3 b4 w Qi) (hR : rm_L_rank.frames + 1 ≤ R.frames ∧ 8 + (6 + 11) + rm_L_rank.locals ≤ R.locals) (hf : cells + 19 ≤ R.cells ∧ slots + 69 ≤ R.slots) (hls : ls.size = nL) (hW : (rest.map fun v => v.category).sum ≤ 8) (hdg : decode cc pc = .ok (.invokestatic 204, 3)) (kk : ∀ (r : Int32) (w1 : sj_W) (H : Heap) (locs : List Loc), sj_H G s w1 H locs → Qi r w1 → W p l e R s m args below meth c H locs (cells + 19) (slots + 69) Q (F0 m (pc + 3) ls (.int r :: rest))) : W p l e R s m args below meth c H locs cells slots Q (F0 m pc ls (.ref b4 :: .int b3 :: .int b2 :: .int b1 :: .ref b0 :: rest)) :=
  sj_xI hH (sj_runSX (n := 5) hC hH (As := [.ref b0, .int b1, .int b2, .int b3, .ref b4]) (wk_L_rank G l hC.2.2.2.2.2.2 b0 b1 b2 b3 b4 w Qi (fun _ _ => False) hv) mb_445 mb_446 mb_0 mb_447 (by decide +kernel) hR hf rfl hls hW hdg) (fun _ _ _ _ _ _ _ h _ _ _ => h.elim) kk
end SJL_L_rank
abbrev rm_L_refused : Room := { frames := 9, cells := 3, slots := 18, locals := 153 }
def vc_L_refused (a1 : Nat) (a2 : Int32) (a3 : Int32) (a4 : Int32) (a5 : Int32) (a6 : Int32) (a7 : Nat) (w : sj_W) (Q : Int32 → sj_W → Prop) : Prop := sj_T w a1 = 5 ∧ vc_X6_refused a1 a2 a3 a4 a5 a6 w (fun r1 w2 => sj_T w2 a7 = 8 ∧ vp_in 0 (sj_N w2 a7) ∧ ∀ w4 : sj_W, w4 = sj_sl w2 a7 (0 : Int32).toNatClampNeg (r1.toInt64) → Q 0 w4) (fun E w6 => ((E = "java/lang/IllegalArgumentException" → Q 1 w6) ∧ (E = "java/lang/IndexOutOfBoundsException" → Q 2 w6) ∧ (E = "java/lang/IllegalArgumentException" ∨ E = "java/lang/IndexOutOfBoundsException")))
set_option maxHeartbeats 4000000 in
set_option maxRecDepth 100000 in
theorem wk_L_refused (G : sj_G) (l : Launch) (hlt : l.stackTraces = false) (a1 : Nat) (a2 : Int32) (a3 : Int32) (a4 : Int32) (a5 : Int32) (a6 : Int32) (a7 : Nat) (w : sj_W) (Q : Int32 → sj_W → Prop) (QX : String → sj_W → Prop) (hv : vc_L_refused a1 a2 a3 a4 a5 a6 a7 w Q) : sj_MI G l yL_refused (sj_wsW yL_refused cL_refused 8 (some .int) [(0, 16, 19, 13), (0, 16, 23, 15)]) rm_L_refused [.ref a1, .int a2, .int a3, .int a4, .int a5, .int a6, .ref a7] w Q QX := by
  refine sj_ofW (by decide +kernel) (Nat.le_of_ble_eq_true rfl) hlt ?_
  intro p e s m args below meth c ls hC htb hk hr hH hl
  have hx := hC.1
  have hb := hC.2.1
  have hl : lv_has ls 8 [(0, .ref a1), (1, .int a2), (2, .int a3), (3, .int a4), (4, .int a5), (5, .int a6), (6, .ref a7)] := hl
  refine lv_aload hx hb dL_refused_0 (lv_at hl 6 rfl) ?_
  refine lv_iconst (v := 0) hx hb dL_refused_2 (by decide) ?_
  refine lv_aload_n hx hb dL_refused_3 rfl (lv_at hl 0 rfl) ?_
  refine lv_iload_n hx hb dL_refused_4 rfl (lv_at hl 1 rfl) ?_
  refine lv_iload_n hx hb dL_refused_5 rfl (lv_at hl 2 rfl) ?_
  refine lv_iload_n hx hb dL_refused_6 rfl (lv_at hl 3 rfl) ?_
  refine lv_iload hx hb dL_refused_7 (lv_at hl 4 rfl) ?_
  refine lv_iload hx hb dL_refused_9 (lv_at hl 5 rfl) ?_
  refine cx_L_68 hC hH hv.2 hv.1 ⟨Nat.le_of_ble_eq_true rfl, Nat.le_of_ble_eq_true rfl⟩ ⟨(Nat.le_of_ble_eq_true rfl), (Nat.le_of_ble_eq_true rfl)⟩ hl.1 (Nat.le_of_ble_eq_true rfl) dL_refused_11 (fun E ce q9 w6 H locs hH hE7 hq9 hcv hcl => ?_) (fun r1 w2 H locs hH hv3 => ?_)
  · rcases hE7.2.2 with rfl | rfl
    · have hv8 := hE7.1 rfl
      refine sj_catch (E := "java/lang/IllegalArgumentException") hC htb [] ⟨0, 16, 19, 13⟩ [⟨0, 16, 23, 15⟩] rfl (fun _ h => nomatch h) (by decide) (by decide) mb_128 mb_140 hq9 hcv hcl ?_
      refine lv_astore (lv' := [(7, .ref q9), (0, .ref a1), (1, .int a2), (2, .int a3), (3, .int a4), (4, .int a5), (5, .int a6), (6, .ref a7)]) hx hb dL_refused_19 hl (by decide) rfl (fun ls hl => ?_)
      refine lv_iconst (v := 1) hx hb dL_refused_21 (by decide) ?_
      exact sj_retI hC hk hH hr rfl hv8 ⟨(Nat.le_of_ble_eq_true rfl), (Nat.le_of_ble_eq_true rfl)⟩ dL_refused_22
    · have hv9 := hE7.2.1 rfl
      refine sj_catch (E := "java/lang/IndexOutOfBoundsException") hC htb [⟨0, 16, 19, 13⟩] ⟨0, 16, 23, 15⟩ [] rfl (by intro z hz; simp only [List.mem_cons, List.not_mem_nil, or_false] at hz; rcases hz with rfl <;> first | exact ⟨by decide, _, mb_128, by decide +kernel⟩) (by decide) (by decide) mb_129 mb_225 hq9 hcv hcl ?_
      refine lv_astore (lv' := [(7, .ref q9), (0, .ref a1), (1, .int a2), (2, .int a3), (3, .int a4), (4, .int a5), (5, .int a6), (6, .ref a7)]) hx hb dL_refused_23 hl (by decide) rfl (fun ls hl => ?_)
      refine lv_iconst (v := 2) hx hb dL_refused_25 (by decide) ?_
      exact sj_retI hC hk hH hr rfl hv9 ⟨(Nat.le_of_ble_eq_true rfl), (Nat.le_of_ble_eq_true rfl)⟩ dL_refused_26
  refine lv_i2l hx hb dL_refused_14 rfl ?_
  refine sj_last hC hH hv3.1 hv3.2.1 dL_refused_15 (fun w4 H locs e5 hH => ?_)
  refine lv_goto (tgt := 27) hx hb dL_refused_16 (by decide) ?_
  refine lv_iconst (v := 0) hx hb dL_refused_27 (by decide) ?_
  exact sj_retI hC hk hH hr rfl (hv3.2.2 w4 e5) ⟨(Nat.le_of_ble_eq_true rfl), (Nat.le_of_ble_eq_true rfl)⟩ dL_refused_28
section SJL_L_refused
variable {p : Program} {l : Launch} {e : Env} {R : Room} {s : State} {m : MethodId} {args : Array Value} {below : List Frame} {meth : Method} {c : Code} {H : Heap} {locs : List Loc} {cells slots : Nat} {Q : State → Prop} {cc : ByteArray} {pc : Nat} {ls : Array Slot} {rest : List Value} {G : sj_G} {nL : Nat} {w : sj_W}
theorem cg_L_197 {b0 : Nat} {b1 : Int32} {b2 : Int32} {b3 : Int32} {b4 : Int32} {b5 : Int32} {b6 : Nat} {Qi : Int32 → sj_W → Prop} (hC : sj_C G p l s m args c cc RL nL) (hH : sj_H G s w H locs) (hv : vc_L_refused b0 b1 b2 b3 b4 b5 b6 w Qi) (hR : rm_L_refused.frames + 1 ≤ R.frames ∧ 8 + (8 + 11) + rm_L_refused.locals ≤ R.locals) (hf : cells + 3 ≤ R.cells ∧ slots + 18 ≤ R.slots) (hls : ls.size = nL) (hW : (rest.map fun v => v.category).sum ≤ 8) (hdg : decode cc pc = .ok (.invokestatic 197, 3)) (kk : ∀ (r : Int32) (w1 : sj_W) (H : Heap) (locs : List Loc), sj_H G s w1 H locs → Qi r w1 → W p l e R s m args below meth c H locs (cells + 3) (slots + 18) Q (F0 m (pc + 3) ls (.int r :: rest))) : W p l e R s m args below meth c H locs cells slots Q (F0 m pc ls (.ref b6 :: .int b5 :: .int b4 :: .int b3 :: .int b2 :: .int b1 :: .ref b0 :: rest)) :=
  sj_xI hH (sj_runSX (n := 7) hC hH (As := [.ref b0, .int b1, .int b2, .int b3, .int b4, .int b5, .ref b6]) (wk_L_refused G l hC.2.2.2.2.2.2 b0 b1 b2 b3 b4 b5 b6 w Qi (fun _ _ => False) hv) mb_431 mb_432 mb_0 mb_433 (by decide +kernel) hR hf rfl hls hW hdg) (fun _ _ _ _ _ _ _ h _ _ _ => h.elim) kk
end SJL_L_refused
abbrev rm_L_repeat : Room := { frames := 9, cells := 3, slots := 18, locals := 151 }
def vc_L_repeat (a1 : Nat) (a2 : Int32) (a3 : Int32) (a4 : Int32) (a5 : Nat) (w : sj_W) (Q : Int32 → sj_W → Prop) : Prop := sj_T w a1 = 5 ∧ vc_X6_repeat a1 a2 a3 a4 w (fun r1 w2 => sj_T w2 a5 = 8 ∧ vp_in 0 (sj_N w2 a5) ∧ ∀ w4 : sj_W, w4 = sj_sl w2 a5 (0 : Int32).toNatClampNeg (r1.toInt64) → Q 0 w4) (fun E w6 => ((E = "java/lang/IllegalArgumentException" → Q 1 w6) ∧ (E = "java/lang/IndexOutOfBoundsException" → Q 2 w6) ∧ (E = "java/lang/IllegalStateException" → Q 3 w6) ∧ (E = "java/lang/IllegalArgumentException" ∨ E = "java/lang/IndexOutOfBoundsException" ∨ E = "java/lang/IllegalStateException")))
set_option maxHeartbeats 4000000 in
set_option maxRecDepth 100000 in
theorem wk_L_repeat (G : sj_G) (l : Launch) (hlt : l.stackTraces = false) (a1 : Nat) (a2 : Int32) (a3 : Int32) (a4 : Int32) (a5 : Nat) (w : sj_W) (Q : Int32 → sj_W → Prop) (QX : String → sj_W → Prop) (hv : vc_L_repeat a1 a2 a3 a4 a5 w Q) : sj_MI G l yL_repeat (sj_wsW yL_repeat cL_repeat 6 (some .int) [(0, 12, 15, 13), (0, 12, 19, 15), (0, 12, 23, 17)]) rm_L_repeat [.ref a1, .int a2, .int a3, .int a4, .ref a5] w Q QX := by
  refine sj_ofW (by decide +kernel) (Nat.le_of_ble_eq_true rfl) hlt ?_
  intro p e s m args below meth c ls hC htb hk hr hH hl
  have hx := hC.1
  have hb := hC.2.1
  have hl : lv_has ls 6 [(0, .ref a1), (1, .int a2), (2, .int a3), (3, .int a4), (4, .ref a5)] := hl
  refine lv_aload hx hb dL_repeat_0 (lv_at hl 4 rfl) ?_
  refine lv_iconst (v := 0) hx hb dL_repeat_2 (by decide) ?_
  refine lv_aload_n hx hb dL_repeat_3 rfl (lv_at hl 0 rfl) ?_
  refine lv_iload_n hx hb dL_repeat_4 rfl (lv_at hl 1 rfl) ?_
  refine lv_iload_n hx hb dL_repeat_5 rfl (lv_at hl 2 rfl) ?_
  refine lv_iload_n hx hb dL_repeat_6 rfl (lv_at hl 3 rfl) ?_
  refine cx_L_34 hC hH hv.2 hv.1 ⟨Nat.le_of_ble_eq_true rfl, Nat.le_of_ble_eq_true rfl⟩ ⟨(Nat.le_of_ble_eq_true rfl), (Nat.le_of_ble_eq_true rfl)⟩ hl.1 (Nat.le_of_ble_eq_true rfl) dL_repeat_7 (fun E ce q9 w6 H locs hH hE7 hq9 hcv hcl => ?_) (fun r1 w2 H locs hH hv3 => ?_)
  · rcases hE7.2.2.2 with rfl | rfl | rfl
    · have hv8 := hE7.1 rfl
      refine sj_catch (E := "java/lang/IllegalArgumentException") hC htb [] ⟨0, 12, 15, 13⟩ [⟨0, 12, 19, 15⟩, ⟨0, 12, 23, 17⟩] rfl (fun _ h => nomatch h) (by decide) (by decide) mb_128 mb_140 hq9 hcv hcl ?_
      refine lv_astore (lv' := [(5, .ref q9), (0, .ref a1), (1, .int a2), (2, .int a3), (3, .int a4), (4, .ref a5)]) hx hb dL_repeat_15 hl (by decide) rfl (fun ls hl => ?_)
      refine lv_iconst (v := 1) hx hb dL_repeat_17 (by decide) ?_
      exact sj_retI hC hk hH hr rfl hv8 ⟨(Nat.le_of_ble_eq_true rfl), (Nat.le_of_ble_eq_true rfl)⟩ dL_repeat_18
    · have hv9 := hE7.2.1 rfl
      refine sj_catch (E := "java/lang/IndexOutOfBoundsException") hC htb [⟨0, 12, 15, 13⟩] ⟨0, 12, 19, 15⟩ [⟨0, 12, 23, 17⟩] rfl (by intro z hz; simp only [List.mem_cons, List.not_mem_nil, or_false] at hz; rcases hz with rfl <;> first | exact ⟨by decide, _, mb_128, by decide +kernel⟩) (by decide) (by decide) mb_129 mb_225 hq9 hcv hcl ?_
      refine lv_astore (lv' := [(5, .ref q9), (0, .ref a1), (1, .int a2), (2, .int a3), (3, .int a4), (4, .ref a5)]) hx hb dL_repeat_19 hl (by decide) rfl (fun ls hl => ?_)
      refine lv_iconst (v := 2) hx hb dL_repeat_21 (by decide) ?_
      exact sj_retI hC hk hH hr rfl hv9 ⟨(Nat.le_of_ble_eq_true rfl), (Nat.le_of_ble_eq_true rfl)⟩ dL_repeat_22
    · have hv10 := hE7.2.2.1 rfl
      refine sj_catch (E := "java/lang/IllegalStateException") hC htb [⟨0, 12, 15, 13⟩, ⟨0, 12, 19, 15⟩] ⟨0, 12, 23, 17⟩ [] rfl (by intro z hz; simp only [List.mem_cons, List.not_mem_nil, or_false] at hz; rcases hz with rfl | rfl <;> first | exact ⟨by decide, _, mb_128, by decide +kernel⟩ | exact ⟨by decide, _, mb_129, by decide +kernel⟩) (by decide) (by decide) mb_130 mb_241 hq9 hcv hcl ?_
      refine lv_astore (lv' := [(5, .ref q9), (0, .ref a1), (1, .int a2), (2, .int a3), (3, .int a4), (4, .ref a5)]) hx hb dL_repeat_23 hl (by decide) rfl (fun ls hl => ?_)
      refine lv_iconst (v := 3) hx hb dL_repeat_25 (by decide) ?_
      exact sj_retI hC hk hH hr rfl hv10 ⟨(Nat.le_of_ble_eq_true rfl), (Nat.le_of_ble_eq_true rfl)⟩ dL_repeat_26
  refine lv_i2l hx hb dL_repeat_10 rfl ?_
  refine sj_last hC hH hv3.1 hv3.2.1 dL_repeat_11 (fun w4 H locs e5 hH => ?_)
  refine lv_goto (tgt := 27) hx hb dL_repeat_12 (by decide) ?_
  refine lv_iconst (v := 0) hx hb dL_repeat_27 (by decide) ?_
  exact sj_retI hC hk hH hr rfl (hv3.2.2 w4 e5) ⟨(Nat.le_of_ble_eq_true rfl), (Nat.le_of_ble_eq_true rfl)⟩ dL_repeat_28
section SJL_L_repeat
variable {p : Program} {l : Launch} {e : Env} {R : Room} {s : State} {m : MethodId} {args : Array Value} {below : List Frame} {meth : Method} {c : Code} {H : Heap} {locs : List Loc} {cells slots : Nat} {Q : State → Prop} {cc : ByteArray} {pc : Nat} {ls : Array Slot} {rest : List Value} {G : sj_G} {nL : Nat} {w : sj_W}
theorem cg_L_165 {b0 : Nat} {b1 : Int32} {b2 : Int32} {b3 : Int32} {b4 : Nat} {Qi : Int32 → sj_W → Prop} (hC : sj_C G p l s m args c cc RL nL) (hH : sj_H G s w H locs) (hv : vc_L_repeat b0 b1 b2 b3 b4 w Qi) (hR : rm_L_repeat.frames + 1 ≤ R.frames ∧ 8 + (6 + 11) + rm_L_repeat.locals ≤ R.locals) (hf : cells + 3 ≤ R.cells ∧ slots + 18 ≤ R.slots) (hls : ls.size = nL) (hW : (rest.map fun v => v.category).sum ≤ 8) (hdg : decode cc pc = .ok (.invokestatic 165, 3)) (kk : ∀ (r : Int32) (w1 : sj_W) (H : Heap) (locs : List Loc), sj_H G s w1 H locs → Qi r w1 → W p l e R s m args below meth c H locs (cells + 3) (slots + 18) Q (F0 m (pc + 3) ls (.int r :: rest))) : W p l e R s m args below meth c H locs cells slots Q (F0 m pc ls (.ref b4 :: .int b3 :: .int b2 :: .int b1 :: .ref b0 :: rest)) :=
  sj_xI hH (sj_runSX (n := 5) hC hH (As := [.ref b0, .int b1, .int b2, .int b3, .ref b4]) (wk_L_repeat G l hC.2.2.2.2.2.2 b0 b1 b2 b3 b4 w Qi (fun _ _ => False) hv) mb_287 mb_288 mb_0 mb_289 (by decide +kernel) hR hf rfl hls hW hdg) (fun _ _ _ _ _ _ _ h _ _ _ => h.elim) kk
end SJL_L_repeat
abbrev rm_L_reverse : Room := { frames := 9, cells := 2, slots := 12, locals := 151 }
def vc_L_reverse (a1 : Nat) (a2 : Int32) (a3 : Int32) (a4 : Nat) (w : sj_W) (Q : Int32 → sj_W → Prop) : Prop := sj_T w a1 = 5 ∧ vc_X6_reverse a1 a2 a3 w (fun r1 w2 => sj_T w2 a4 = 8 ∧ vp_in 0 (sj_N w2 a4) ∧ ∀ w4 : sj_W, w4 = sj_sl w2 a4 (0 : Int32).toNatClampNeg (r1.toInt64) → Q 0 w4) (fun E w6 => ((E = "java/lang/IllegalArgumentException" → Q 1 w6) ∧ (E = "java/lang/IndexOutOfBoundsException" → Q 2 w6) ∧ (E = "java/lang/IllegalArgumentException" ∨ E = "java/lang/IndexOutOfBoundsException")))
set_option maxHeartbeats 4000000 in
set_option maxRecDepth 100000 in
theorem wk_L_reverse (G : sj_G) (l : Launch) (hlt : l.stackTraces = false) (a1 : Nat) (a2 : Int32) (a3 : Int32) (a4 : Nat) (w : sj_W) (Q : Int32 → sj_W → Prop) (QX : String → sj_W → Prop) (hv : vc_L_reverse a1 a2 a3 a4 w Q) : sj_MI G l yL_reverse (sj_wsW yL_reverse cL_reverse 5 (some .int) [(0, 10, 13, 13), (0, 10, 17, 15)]) rm_L_reverse [.ref a1, .int a2, .int a3, .ref a4] w Q QX := by
  refine sj_ofW (by decide +kernel) (Nat.le_of_ble_eq_true rfl) hlt ?_
  intro p e s m args below meth c ls hC htb hk hr hH hl
  have hx := hC.1
  have hb := hC.2.1
  have hl : lv_has ls 5 [(0, .ref a1), (1, .int a2), (2, .int a3), (3, .ref a4)] := hl
  refine lv_aload_n hx hb dL_reverse_0 rfl (lv_at hl 3 rfl) ?_
  refine lv_iconst (v := 0) hx hb dL_reverse_1 (by decide) ?_
  refine lv_aload_n hx hb dL_reverse_2 rfl (lv_at hl 0 rfl) ?_
  refine lv_iload_n hx hb dL_reverse_3 rfl (lv_at hl 1 rfl) ?_
  refine lv_iload_n hx hb dL_reverse_4 rfl (lv_at hl 2 rfl) ?_
  refine cx_L_38 hC hH hv.2 hv.1 ⟨Nat.le_of_ble_eq_true rfl, Nat.le_of_ble_eq_true rfl⟩ ⟨(Nat.le_of_ble_eq_true rfl), (Nat.le_of_ble_eq_true rfl)⟩ hl.1 (Nat.le_of_ble_eq_true rfl) dL_reverse_5 (fun E ce q9 w6 H locs hH hE7 hq9 hcv hcl => ?_) (fun r1 w2 H locs hH hv3 => ?_)
  · rcases hE7.2.2 with rfl | rfl
    · have hv8 := hE7.1 rfl
      refine sj_catch (E := "java/lang/IllegalArgumentException") hC htb [] ⟨0, 10, 13, 13⟩ [⟨0, 10, 17, 15⟩] rfl (fun _ h => nomatch h) (by decide) (by decide) mb_128 mb_140 hq9 hcv hcl ?_
      refine lv_astore (lv' := [(4, .ref q9), (0, .ref a1), (1, .int a2), (2, .int a3), (3, .ref a4)]) hx hb dL_reverse_13 hl (by decide) rfl (fun ls hl => ?_)
      refine lv_iconst (v := 1) hx hb dL_reverse_15 (by decide) ?_
      exact sj_retI hC hk hH hr rfl hv8 ⟨(Nat.le_of_ble_eq_true rfl), (Nat.le_of_ble_eq_true rfl)⟩ dL_reverse_16
    · have hv9 := hE7.2.1 rfl
      refine sj_catch (E := "java/lang/IndexOutOfBoundsException") hC htb [⟨0, 10, 13, 13⟩] ⟨0, 10, 17, 15⟩ [] rfl (by intro z hz; simp only [List.mem_cons, List.not_mem_nil, or_false] at hz; rcases hz with rfl <;> first | exact ⟨by decide, _, mb_128, by decide +kernel⟩) (by decide) (by decide) mb_129 mb_225 hq9 hcv hcl ?_
      refine lv_astore (lv' := [(4, .ref q9), (0, .ref a1), (1, .int a2), (2, .int a3), (3, .ref a4)]) hx hb dL_reverse_17 hl (by decide) rfl (fun ls hl => ?_)
      refine lv_iconst (v := 2) hx hb dL_reverse_19 (by decide) ?_
      exact sj_retI hC hk hH hr rfl hv9 ⟨(Nat.le_of_ble_eq_true rfl), (Nat.le_of_ble_eq_true rfl)⟩ dL_reverse_20
  refine lv_i2l hx hb dL_reverse_8 rfl ?_
  refine sj_last hC hH hv3.1 hv3.2.1 dL_reverse_9 (fun w4 H locs e5 hH => ?_)
  refine lv_goto (tgt := 21) hx hb dL_reverse_10 (by decide) ?_
  refine lv_iconst (v := 0) hx hb dL_reverse_21 (by decide) ?_
  exact sj_retI hC hk hH hr rfl (hv3.2.2 w4 e5) ⟨(Nat.le_of_ble_eq_true rfl), (Nat.le_of_ble_eq_true rfl)⟩ dL_reverse_22
section SJL_L_reverse
variable {p : Program} {l : Launch} {e : Env} {R : Room} {s : State} {m : MethodId} {args : Array Value} {below : List Frame} {meth : Method} {c : Code} {H : Heap} {locs : List Loc} {cells slots : Nat} {Q : State → Prop} {cc : ByteArray} {pc : Nat} {ls : Array Slot} {rest : List Value} {G : sj_G} {nL : Nat} {w : sj_W}
theorem cg_L_168 {b0 : Nat} {b1 : Int32} {b2 : Int32} {b3 : Nat} {Qi : Int32 → sj_W → Prop} (hC : sj_C G p l s m args c cc RL nL) (hH : sj_H G s w H locs) (hv : vc_L_reverse b0 b1 b2 b3 w Qi) (hR : rm_L_reverse.frames + 1 ≤ R.frames ∧ 8 + (5 + 11) + rm_L_reverse.locals ≤ R.locals) (hf : cells + 2 ≤ R.cells ∧ slots + 12 ≤ R.slots) (hls : ls.size = nL) (hW : (rest.map fun v => v.category).sum ≤ 8) (hdg : decode cc pc = .ok (.invokestatic 168, 3)) (kk : ∀ (r : Int32) (w1 : sj_W) (H : Heap) (locs : List Loc), sj_H G s w1 H locs → Qi r w1 → W p l e R s m args below meth c H locs (cells + 2) (slots + 12) Q (F0 m (pc + 3) ls (.int r :: rest))) : W p l e R s m args below meth c H locs cells slots Q (F0 m pc ls (.ref b3 :: .int b2 :: .int b1 :: .ref b0 :: rest)) :=
  sj_xI hH (sj_runSX (n := 4) hC hH (As := [.ref b0, .int b1, .int b2, .ref b3]) (wk_L_reverse G l hC.2.2.2.2.2.2 b0 b1 b2 b3 w Qi (fun _ _ => False) hv) mb_296 mb_297 mb_0 mb_298 (by decide +kernel) hR hf rfl hls hW hdg) (fun _ _ _ _ _ _ _ h _ _ _ => h.elim) kk
end SJL_L_reverse
abbrev rm_L_root : Room := { frames := 9, cells := 2, slots := 12, locals := 148 }
def vc_L_root (a1 : Nat) (a2 : Int32) (a3 : Int32) (a4 : Nat) (w : sj_W) (Q : Int32 → sj_W → Prop) : Prop := sj_T w a1 = 5 ∧ vc_X6_root a1 a2 a3 w (fun r1 w2 => sj_T w2 a4 = 8 ∧ vp_in 0 (sj_N w2 a4) ∧ ∀ w4 : sj_W, w4 = sj_sl w2 a4 (0 : Int32).toNatClampNeg (r1.toInt64) → Q 0 w4) (fun E w6 => ((E = "java/lang/IllegalArgumentException" → Q 1 w6) ∧ (E = "java/lang/IndexOutOfBoundsException" → Q 2 w6) ∧ (E = "java/lang/IllegalArgumentException" ∨ E = "java/lang/IndexOutOfBoundsException")))
set_option maxHeartbeats 4000000 in
set_option maxRecDepth 100000 in
theorem wk_L_root (G : sj_G) (l : Launch) (hlt : l.stackTraces = false) (a1 : Nat) (a2 : Int32) (a3 : Int32) (a4 : Nat) (w : sj_W) (Q : Int32 → sj_W → Prop) (QX : String → sj_W → Prop) (hv : vc_L_root a1 a2 a3 a4 w Q) : sj_MI G l yL_root (sj_wsW yL_root cL_root 5 (some .int) [(0, 10, 13, 13), (0, 10, 17, 15)]) rm_L_root [.ref a1, .int a2, .int a3, .ref a4] w Q QX := by
  refine sj_ofW (by decide +kernel) (Nat.le_of_ble_eq_true rfl) hlt ?_
  intro p e s m args below meth c ls hC htb hk hr hH hl
  have hx := hC.1
  have hb := hC.2.1
  have hl : lv_has ls 5 [(0, .ref a1), (1, .int a2), (2, .int a3), (3, .ref a4)] := hl
  refine lv_aload_n hx hb dL_root_0 rfl (lv_at hl 3 rfl) ?_
  refine lv_iconst (v := 0) hx hb dL_root_1 (by decide) ?_
  refine lv_aload_n hx hb dL_root_2 rfl (lv_at hl 0 rfl) ?_
  refine lv_iload_n hx hb dL_root_3 rfl (lv_at hl 1 rfl) ?_
  refine lv_iload_n hx hb dL_root_4 rfl (lv_at hl 2 rfl) ?_
  refine cx_L_106 hC hH hv.2 hv.1 ⟨Nat.le_of_ble_eq_true rfl, Nat.le_of_ble_eq_true rfl⟩ ⟨(Nat.le_of_ble_eq_true rfl), (Nat.le_of_ble_eq_true rfl)⟩ hl.1 (Nat.le_of_ble_eq_true rfl) dL_root_5 (fun E ce q9 w6 H locs hH hE7 hq9 hcv hcl => ?_) (fun r1 w2 H locs hH hv3 => ?_)
  · rcases hE7.2.2 with rfl | rfl
    · have hv8 := hE7.1 rfl
      refine sj_catch (E := "java/lang/IllegalArgumentException") hC htb [] ⟨0, 10, 13, 13⟩ [⟨0, 10, 17, 15⟩] rfl (fun _ h => nomatch h) (by decide) (by decide) mb_128 mb_140 hq9 hcv hcl ?_
      refine lv_astore (lv' := [(4, .ref q9), (0, .ref a1), (1, .int a2), (2, .int a3), (3, .ref a4)]) hx hb dL_root_13 hl (by decide) rfl (fun ls hl => ?_)
      refine lv_iconst (v := 1) hx hb dL_root_15 (by decide) ?_
      exact sj_retI hC hk hH hr rfl hv8 ⟨(Nat.le_of_ble_eq_true rfl), (Nat.le_of_ble_eq_true rfl)⟩ dL_root_16
    · have hv9 := hE7.2.1 rfl
      refine sj_catch (E := "java/lang/IndexOutOfBoundsException") hC htb [⟨0, 10, 13, 13⟩] ⟨0, 10, 17, 15⟩ [] rfl (by intro z hz; simp only [List.mem_cons, List.not_mem_nil, or_false] at hz; rcases hz with rfl <;> first | exact ⟨by decide, _, mb_128, by decide +kernel⟩) (by decide) (by decide) mb_129 mb_225 hq9 hcv hcl ?_
      refine lv_astore (lv' := [(4, .ref q9), (0, .ref a1), (1, .int a2), (2, .int a3), (3, .ref a4)]) hx hb dL_root_17 hl (by decide) rfl (fun ls hl => ?_)
      refine lv_iconst (v := 2) hx hb dL_root_19 (by decide) ?_
      exact sj_retI hC hk hH hr rfl hv9 ⟨(Nat.le_of_ble_eq_true rfl), (Nat.le_of_ble_eq_true rfl)⟩ dL_root_20
  refine lv_i2l hx hb dL_root_8 rfl ?_
  refine sj_last hC hH hv3.1 hv3.2.1 dL_root_9 (fun w4 H locs e5 hH => ?_)
  refine lv_goto (tgt := 21) hx hb dL_root_10 (by decide) ?_
  refine lv_iconst (v := 0) hx hb dL_root_21 (by decide) ?_
  exact sj_retI hC hk hH hr rfl (hv3.2.2 w4 e5) ⟨(Nat.le_of_ble_eq_true rfl), (Nat.le_of_ble_eq_true rfl)⟩ dL_root_22
section SJL_L_root
variable {p : Program} {l : Launch} {e : Env} {R : Room} {s : State} {m : MethodId} {args : Array Value} {below : List Frame} {meth : Method} {c : Code} {H : Heap} {locs : List Loc} {cells slots : Nat} {Q : State → Prop} {cc : ByteArray} {pc : Nat} {ls : Array Slot} {rest : List Value} {G : sj_G} {nL : Nat} {w : sj_W}
theorem cg_L_234 {b0 : Nat} {b1 : Int32} {b2 : Int32} {b3 : Nat} {Qi : Int32 → sj_W → Prop} (hC : sj_C G p l s m args c cc RL nL) (hH : sj_H G s w H locs) (hv : vc_L_root b0 b1 b2 b3 w Qi) (hR : rm_L_root.frames + 1 ≤ R.frames ∧ 8 + (5 + 11) + rm_L_root.locals ≤ R.locals) (hf : cells + 2 ≤ R.cells ∧ slots + 12 ≤ R.slots) (hls : ls.size = nL) (hW : (rest.map fun v => v.category).sum ≤ 8) (hdg : decode cc pc = .ok (.invokestatic 234, 3)) (kk : ∀ (r : Int32) (w1 : sj_W) (H : Heap) (locs : List Loc), sj_H G s w1 H locs → Qi r w1 → W p l e R s m args below meth c H locs (cells + 2) (slots + 12) Q (F0 m (pc + 3) ls (.int r :: rest))) : W p l e R s m args below meth c H locs cells slots Q (F0 m pc ls (.ref b3 :: .int b2 :: .int b1 :: .ref b0 :: rest)) :=
  sj_xI hH (sj_runSX (n := 4) hC hH (As := [.ref b0, .int b1, .int b2, .ref b3]) (wk_L_root G l hC.2.2.2.2.2.2 b0 b1 b2 b3 w Qi (fun _ _ => False) hv) mb_549 mb_550 mb_0 mb_551 (by decide +kernel) hR hf rfl hls hW hdg) (fun _ _ _ _ _ _ _ h _ _ _ => h.elim) kk
end SJL_L_root
abbrev rm_L_rotation : Room := { frames := 9, cells := 3, slots := 18, locals := 152 }
def vc_L_rotation (a1 : Nat) (a2 : Int32) (a3 : Int32) (a4 : Int32) (a5 : Nat) (w : sj_W) (Q : Int32 → sj_W → Prop) : Prop := sj_T w a1 = 5 ∧ vc_X6_rotation a1 a2 a3 a4 w (fun r1 w2 => sj_T w2 a5 = 8 ∧ vp_in 0 (sj_N w2 a5) ∧ ∀ w4 : sj_W, w4 = sj_sl w2 a5 (0 : Int32).toNatClampNeg (r1.toInt64) → Q 0 w4) (fun E w6 => ((E = "java/lang/IllegalArgumentException" → Q 1 w6) ∧ (E = "java/lang/IndexOutOfBoundsException" → Q 2 w6) ∧ (E = "java/lang/IllegalArgumentException" ∨ E = "java/lang/IndexOutOfBoundsException")))
set_option maxHeartbeats 4000000 in
set_option maxRecDepth 100000 in
theorem wk_L_rotation (G : sj_G) (l : Launch) (hlt : l.stackTraces = false) (a1 : Nat) (a2 : Int32) (a3 : Int32) (a4 : Int32) (a5 : Nat) (w : sj_W) (Q : Int32 → sj_W → Prop) (QX : String → sj_W → Prop) (hv : vc_L_rotation a1 a2 a3 a4 a5 w Q) : sj_MI G l yL_rotation (sj_wsW yL_rotation cL_rotation 6 (some .int) [(0, 12, 15, 13), (0, 12, 19, 15)]) rm_L_rotation [.ref a1, .int a2, .int a3, .int a4, .ref a5] w Q QX := by
  refine sj_ofW (by decide +kernel) (Nat.le_of_ble_eq_true rfl) hlt ?_
  intro p e s m args below meth c ls hC htb hk hr hH hl
  have hx := hC.1
  have hb := hC.2.1
  have hl : lv_has ls 6 [(0, .ref a1), (1, .int a2), (2, .int a3), (3, .int a4), (4, .ref a5)] := hl
  refine lv_aload hx hb dL_rotation_0 (lv_at hl 4 rfl) ?_
  refine lv_iconst (v := 0) hx hb dL_rotation_2 (by decide) ?_
  refine lv_aload_n hx hb dL_rotation_3 rfl (lv_at hl 0 rfl) ?_
  refine lv_iload_n hx hb dL_rotation_4 rfl (lv_at hl 1 rfl) ?_
  refine lv_iload_n hx hb dL_rotation_5 rfl (lv_at hl 2 rfl) ?_
  refine lv_iload_n hx hb dL_rotation_6 rfl (lv_at hl 3 rfl) ?_
  refine cx_L_109 hC hH hv.2 hv.1 ⟨Nat.le_of_ble_eq_true rfl, Nat.le_of_ble_eq_true rfl⟩ ⟨(Nat.le_of_ble_eq_true rfl), (Nat.le_of_ble_eq_true rfl)⟩ hl.1 (Nat.le_of_ble_eq_true rfl) dL_rotation_7 (fun E ce q9 w6 H locs hH hE7 hq9 hcv hcl => ?_) (fun r1 w2 H locs hH hv3 => ?_)
  · rcases hE7.2.2 with rfl | rfl
    · have hv8 := hE7.1 rfl
      refine sj_catch (E := "java/lang/IllegalArgumentException") hC htb [] ⟨0, 12, 15, 13⟩ [⟨0, 12, 19, 15⟩] rfl (fun _ h => nomatch h) (by decide) (by decide) mb_128 mb_140 hq9 hcv hcl ?_
      refine lv_astore (lv' := [(5, .ref q9), (0, .ref a1), (1, .int a2), (2, .int a3), (3, .int a4), (4, .ref a5)]) hx hb dL_rotation_15 hl (by decide) rfl (fun ls hl => ?_)
      refine lv_iconst (v := 1) hx hb dL_rotation_17 (by decide) ?_
      exact sj_retI hC hk hH hr rfl hv8 ⟨(Nat.le_of_ble_eq_true rfl), (Nat.le_of_ble_eq_true rfl)⟩ dL_rotation_18
    · have hv9 := hE7.2.1 rfl
      refine sj_catch (E := "java/lang/IndexOutOfBoundsException") hC htb [⟨0, 12, 15, 13⟩] ⟨0, 12, 19, 15⟩ [] rfl (by intro z hz; simp only [List.mem_cons, List.not_mem_nil, or_false] at hz; rcases hz with rfl <;> first | exact ⟨by decide, _, mb_128, by decide +kernel⟩) (by decide) (by decide) mb_129 mb_225 hq9 hcv hcl ?_
      refine lv_astore (lv' := [(5, .ref q9), (0, .ref a1), (1, .int a2), (2, .int a3), (3, .int a4), (4, .ref a5)]) hx hb dL_rotation_19 hl (by decide) rfl (fun ls hl => ?_)
      refine lv_iconst (v := 2) hx hb dL_rotation_21 (by decide) ?_
      exact sj_retI hC hk hH hr rfl hv9 ⟨(Nat.le_of_ble_eq_true rfl), (Nat.le_of_ble_eq_true rfl)⟩ dL_rotation_22
  refine lv_i2l hx hb dL_rotation_10 rfl ?_
  refine sj_last hC hH hv3.1 hv3.2.1 dL_rotation_11 (fun w4 H locs e5 hH => ?_)
  refine lv_goto (tgt := 23) hx hb dL_rotation_12 (by decide) ?_
  refine lv_iconst (v := 0) hx hb dL_rotation_23 (by decide) ?_
  exact sj_retI hC hk hH hr rfl (hv3.2.2 w4 e5) ⟨(Nat.le_of_ble_eq_true rfl), (Nat.le_of_ble_eq_true rfl)⟩ dL_rotation_24
section SJL_L_rotation
variable {p : Program} {l : Launch} {e : Env} {R : Room} {s : State} {m : MethodId} {args : Array Value} {below : List Frame} {meth : Method} {c : Code} {H : Heap} {locs : List Loc} {cells slots : Nat} {Q : State → Prop} {cc : ByteArray} {pc : Nat} {ls : Array Slot} {rest : List Value} {G : sj_G} {nL : Nat} {w : sj_W}
theorem cg_L_237 {b0 : Nat} {b1 : Int32} {b2 : Int32} {b3 : Int32} {b4 : Nat} {Qi : Int32 → sj_W → Prop} (hC : sj_C G p l s m args c cc RL nL) (hH : sj_H G s w H locs) (hv : vc_L_rotation b0 b1 b2 b3 b4 w Qi) (hR : rm_L_rotation.frames + 1 ≤ R.frames ∧ 8 + (6 + 11) + rm_L_rotation.locals ≤ R.locals) (hf : cells + 3 ≤ R.cells ∧ slots + 18 ≤ R.slots) (hls : ls.size = nL) (hW : (rest.map fun v => v.category).sum ≤ 8) (hdg : decode cc pc = .ok (.invokestatic 237, 3)) (kk : ∀ (r : Int32) (w1 : sj_W) (H : Heap) (locs : List Loc), sj_H G s w1 H locs → Qi r w1 → W p l e R s m args below meth c H locs (cells + 3) (slots + 18) Q (F0 m (pc + 3) ls (.int r :: rest))) : W p l e R s m args below meth c H locs cells slots Q (F0 m pc ls (.ref b4 :: .int b3 :: .int b2 :: .int b1 :: .ref b0 :: rest)) :=
  sj_xI hH (sj_runSX (n := 5) hC hH (As := [.ref b0, .int b1, .int b2, .int b3, .ref b4]) (wk_L_rotation G l hC.2.2.2.2.2.2 b0 b1 b2 b3 b4 w Qi (fun _ _ => False) hv) mb_556 mb_557 mb_0 mb_558 (by decide +kernel) hR hf rfl hls hW hdg) (fun _ _ _ _ _ _ _ h _ _ _ => h.elim) kk
end SJL_L_rotation
abbrev rm_L_rowIsTrue : Room := { frames := 9, cells := 3, slots := 18, locals := 151 }
def vc_L_rowIsTrue (a1 : Nat) (a2 : Int32) (a3 : Int32) (a4 : Int32) (a5 : Nat) (w : sj_W) (Q : Int32 → sj_W → Prop) : Prop := sj_T w a1 = 5 ∧ vc_X6_rowIsTrue a1 a2 a3 a4 w (fun r1 w2 => ((r1 = 0 → sj_T w2 a5 = 8 ∧ vp_in 0 (sj_N w2 a5) ∧ ∀ w5 : sj_W, w5 = sj_sl w2 a5 (0 : Int32).toNatClampNeg 0 → Q 0 w5) ∧ (¬ r1 = 0 → sj_T w2 a5 = 8 ∧ vp_in 0 (sj_N w2 a5) ∧ ∀ w8 : sj_W, w8 = sj_sl w2 a5 (0 : Int32).toNatClampNeg 1 → Q 0 w8))) (fun E w10 => ((E = "java/lang/IllegalArgumentException" → Q 1 w10) ∧ (E = "java/lang/IndexOutOfBoundsException" → Q 2 w10) ∧ (E = "java/lang/IllegalArgumentException" ∨ E = "java/lang/IndexOutOfBoundsException")))
set_option maxHeartbeats 4000000 in
set_option maxRecDepth 100000 in
theorem wk_L_rowIsTrue (G : sj_G) (l : Launch) (hlt : l.stackTraces = false) (a1 : Nat) (a2 : Int32) (a3 : Int32) (a4 : Int32) (a5 : Nat) (w : sj_W) (Q : Int32 → sj_W → Prop) (QX : String → sj_W → Prop) (hv : vc_L_rowIsTrue a1 a2 a3 a4 a5 w Q) : sj_MI G l yL_rowIsTrue (sj_wsW yL_rowIsTrue cL_rowIsTrue 6 (some .int) [(0, 19, 22, 13), (0, 19, 26, 15)]) rm_L_rowIsTrue [.ref a1, .int a2, .int a3, .int a4, .ref a5] w Q QX := by
  refine sj_ofW (by decide +kernel) (Nat.le_of_ble_eq_true rfl) hlt ?_
  intro p e s m args below meth c ls hC htb hk hr hH hl
  have hx := hC.1
  have hb := hC.2.1
  have hl : lv_has ls 6 [(0, .ref a1), (1, .int a2), (2, .int a3), (3, .int a4), (4, .ref a5)] := hl
  refine lv_aload hx hb dL_rowIsTrue_0 (lv_at hl 4 rfl) ?_
  refine lv_iconst (v := 0) hx hb dL_rowIsTrue_2 (by decide) ?_
  refine lv_aload_n hx hb dL_rowIsTrue_3 rfl (lv_at hl 0 rfl) ?_
  refine lv_iload_n hx hb dL_rowIsTrue_4 rfl (lv_at hl 1 rfl) ?_
  refine lv_iload_n hx hb dL_rowIsTrue_5 rfl (lv_at hl 2 rfl) ?_
  refine lv_iload_n hx hb dL_rowIsTrue_6 rfl (lv_at hl 3 rfl) ?_
  refine cx_L_130 hC hH hv.2 hv.1 ⟨Nat.le_of_ble_eq_true rfl, Nat.le_of_ble_eq_true rfl⟩ ⟨(Nat.le_of_ble_eq_true rfl), (Nat.le_of_ble_eq_true rfl)⟩ hl.1 (Nat.le_of_ble_eq_true rfl) dL_rowIsTrue_7 (fun E ce q9 w10 H locs hH hE11 hq9 hcv hcl => ?_) (fun r1 w2 H locs hH hv3 => ?_)
  · rcases hE11.2.2 with rfl | rfl
    · have hv12 := hE11.1 rfl
      refine sj_catch (E := "java/lang/IllegalArgumentException") hC htb [] ⟨0, 19, 22, 13⟩ [⟨0, 19, 26, 15⟩] rfl (fun _ h => nomatch h) (by decide) (by decide) mb_128 mb_140 hq9 hcv hcl ?_
      refine lv_astore (lv' := [(5, .ref q9), (0, .ref a1), (1, .int a2), (2, .int a3), (3, .int a4), (4, .ref a5)]) hx hb dL_rowIsTrue_22 hl (by decide) rfl (fun ls hl => ?_)
      refine lv_iconst (v := 1) hx hb dL_rowIsTrue_24 (by decide) ?_
      exact sj_retI hC hk hH hr rfl hv12 ⟨(Nat.le_of_ble_eq_true rfl), (Nat.le_of_ble_eq_true rfl)⟩ dL_rowIsTrue_25
    · have hv13 := hE11.2.1 rfl
      refine sj_catch (E := "java/lang/IndexOutOfBoundsException") hC htb [⟨0, 19, 22, 13⟩] ⟨0, 19, 26, 15⟩ [] rfl (by intro z hz; simp only [List.mem_cons, List.not_mem_nil, or_false] at hz; rcases hz with rfl <;> first | exact ⟨by decide, _, mb_128, by decide +kernel⟩) (by decide) (by decide) mb_129 mb_225 hq9 hcv hcl ?_
      refine lv_astore (lv' := [(5, .ref q9), (0, .ref a1), (1, .int a2), (2, .int a3), (3, .int a4), (4, .ref a5)]) hx hb dL_rowIsTrue_26 hl (by decide) rfl (fun ls hl => ?_)
      refine lv_iconst (v := 2) hx hb dL_rowIsTrue_28 (by decide) ?_
      exact sj_retI hC hk hH hr rfl hv13 ⟨(Nat.le_of_ble_eq_true rfl), (Nat.le_of_ble_eq_true rfl)⟩ dL_rowIsTrue_29
  refine lv_if_eq (tgt := 17) hx hb dL_rowIsTrue_10 (by decide) (fun hc => ?_) (fun hc => ?_)
  · have hv4 := hv3.1 hc
    refine lv_lconst (v := 0) hx hb dL_rowIsTrue_17 (by decide) ?_
    refine sj_last hC hH hv4.1 hv4.2.1 dL_rowIsTrue_18 (fun w5 H locs e6 hH => ?_)
    refine lv_goto (tgt := 30) hx hb dL_rowIsTrue_19 (by decide) ?_
    refine lv_iconst (v := 0) hx hb dL_rowIsTrue_30 (by decide) ?_
    exact sj_retI hC hk hH hr rfl (hv4.2.2 w5 e6) ⟨(Nat.le_of_ble_eq_true rfl), (Nat.le_of_ble_eq_true rfl)⟩ dL_rowIsTrue_31
  · have hv7 := hv3.2 hc
    refine lv_lconst (v := 1) hx hb dL_rowIsTrue_13 (by decide) ?_
    refine lv_goto (tgt := 18) hx hb dL_rowIsTrue_14 (by decide) ?_
    refine sj_last hC hH hv7.1 hv7.2.1 dL_rowIsTrue_18 (fun w8 H locs e9 hH => ?_)
    refine lv_goto (tgt := 30) hx hb dL_rowIsTrue_19 (by decide) ?_
    refine lv_iconst (v := 0) hx hb dL_rowIsTrue_30 (by decide) ?_
    exact sj_retI hC hk hH hr rfl (hv7.2.2 w8 e9) ⟨(Nat.le_of_ble_eq_true rfl), (Nat.le_of_ble_eq_true rfl)⟩ dL_rowIsTrue_31
section SJL_L_rowIsTrue
variable {p : Program} {l : Launch} {e : Env} {R : Room} {s : State} {m : MethodId} {args : Array Value} {below : List Frame} {meth : Method} {c : Code} {H : Heap} {locs : List Loc} {cells slots : Nat} {Q : State → Prop} {cc : ByteArray} {pc : Nat} {ls : Array Slot} {rest : List Value} {G : sj_G} {nL : Nat} {w : sj_W}
theorem cg_L_261 {b0 : Nat} {b1 : Int32} {b2 : Int32} {b3 : Int32} {b4 : Nat} {Qi : Int32 → sj_W → Prop} (hC : sj_C G p l s m args c cc RL nL) (hH : sj_H G s w H locs) (hv : vc_L_rowIsTrue b0 b1 b2 b3 b4 w Qi) (hR : rm_L_rowIsTrue.frames + 1 ≤ R.frames ∧ 8 + (6 + 11) + rm_L_rowIsTrue.locals ≤ R.locals) (hf : cells + 3 ≤ R.cells ∧ slots + 18 ≤ R.slots) (hls : ls.size = nL) (hW : (rest.map fun v => v.category).sum ≤ 8) (hdg : decode cc pc = .ok (.invokestatic 261, 3)) (kk : ∀ (r : Int32) (w1 : sj_W) (H : Heap) (locs : List Loc), sj_H G s w1 H locs → Qi r w1 → W p l e R s m args below meth c H locs (cells + 3) (slots + 18) Q (F0 m (pc + 3) ls (.int r :: rest))) : W p l e R s m args below meth c H locs cells slots Q (F0 m pc ls (.ref b4 :: .int b3 :: .int b2 :: .int b1 :: .ref b0 :: rest)) :=
  sj_xI hH (sj_runSX (n := 5) hC hH (As := [.ref b0, .int b1, .int b2, .int b3, .ref b4]) (wk_L_rowIsTrue G l hC.2.2.2.2.2.2 b0 b1 b2 b3 b4 w Qi (fun _ _ => False) hv) mb_661 mb_662 mb_0 mb_663 (by decide +kernel) hR hf rfl hls hW hdg) (fun _ _ _ _ _ _ _ h _ _ _ => h.elim) kk
end SJL_L_rowIsTrue
abbrev rm_L_set : Room := { frames := 9, cells := 4, slots := 24, locals := 153 }
def vc_L_set (a1 : Nat) (a2 : Int32) (a3 : Int32) (a4 : Int32) (a5 : Int64) (a6 : Nat) (w : sj_W) (Q : Int32 → sj_W → Prop) : Prop := sj_T w a1 = 5 ∧ vc_X6_set a1 a2 a3 a4 a5 w (fun r1 w2 => sj_T w2 a6 = 8 ∧ vp_in 0 (sj_N w2 a6) ∧ ∀ w4 : sj_W, w4 = sj_sl w2 a6 (0 : Int32).toNatClampNeg r1 → Q 0 w4) (fun E w6 => ((E = "java/lang/IllegalArgumentException" → Q 1 w6) ∧ (E = "java/lang/IndexOutOfBoundsException" → Q 2 w6) ∧ (E = "java/lang/IllegalArgumentException" ∨ E = "java/lang/IndexOutOfBoundsException")))
set_option maxHeartbeats 4000000 in
set_option maxRecDepth 100000 in
theorem wk_L_set (G : sj_G) (l : Launch) (hlt : l.stackTraces = false) (a1 : Nat) (a2 : Int32) (a3 : Int32) (a4 : Int32) (a5 : Int64) (a6 : Nat) (w : sj_W) (Q : Int32 → sj_W → Prop) (QX : String → sj_W → Prop) (hv : vc_L_set a1 a2 a3 a4 a5 a6 w Q) : sj_MI G l yL_set (sj_wsW yL_set cL_set 8 (some .int) [(0, 13, 16, 13), (0, 13, 20, 15)]) rm_L_set [.ref a1, .int a2, .int a3, .int a4, .long a5, .ref a6] w Q QX := by
  refine sj_ofW (by decide +kernel) (Nat.le_of_ble_eq_true rfl) hlt ?_
  intro p e s m args below meth c ls hC htb hk hr hH hl
  have hx := hC.1
  have hb := hC.2.1
  have hl : lv_has ls 8 [(0, .ref a1), (1, .int a2), (2, .int a3), (3, .int a4), (4, .long a5), (6, .ref a6)] := hl
  refine lv_aload hx hb dL_set_0 (lv_at hl 5 rfl) ?_
  refine lv_iconst (v := 0) hx hb dL_set_2 (by decide) ?_
  refine lv_aload_n hx hb dL_set_3 rfl (lv_at hl 0 rfl) ?_
  refine lv_iload_n hx hb dL_set_4 rfl (lv_at hl 1 rfl) ?_
  refine lv_iload_n hx hb dL_set_5 rfl (lv_at hl 2 rfl) ?_
  refine lv_iload_n hx hb dL_set_6 rfl (lv_at hl 3 rfl) ?_
  refine lv_lload hx hb dL_set_7 (lv_at hl 4 rfl) ?_
  refine cx_L_19 hC hH hv.2 hv.1 ⟨Nat.le_of_ble_eq_true rfl, Nat.le_of_ble_eq_true rfl⟩ ⟨(Nat.le_of_ble_eq_true rfl), (Nat.le_of_ble_eq_true rfl)⟩ hl.1 (Nat.le_of_ble_eq_true rfl) dL_set_9 (fun E ce q9 w6 H locs hH hE7 hq9 hcv hcl => ?_) (fun r1 w2 H locs hH hv3 => ?_)
  · rcases hE7.2.2 with rfl | rfl
    · have hv8 := hE7.1 rfl
      refine sj_catch (E := "java/lang/IllegalArgumentException") hC htb [] ⟨0, 13, 16, 13⟩ [⟨0, 13, 20, 15⟩] rfl (fun _ h => nomatch h) (by decide) (by decide) mb_128 mb_140 hq9 hcv hcl ?_
      refine lv_astore (lv' := [(7, .ref q9), (0, .ref a1), (1, .int a2), (2, .int a3), (3, .int a4), (4, .long a5), (6, .ref a6)]) hx hb dL_set_16 hl (by decide) rfl (fun ls hl => ?_)
      refine lv_iconst (v := 1) hx hb dL_set_18 (by decide) ?_
      exact sj_retI hC hk hH hr rfl hv8 ⟨(Nat.le_of_ble_eq_true rfl), (Nat.le_of_ble_eq_true rfl)⟩ dL_set_19
    · have hv9 := hE7.2.1 rfl
      refine sj_catch (E := "java/lang/IndexOutOfBoundsException") hC htb [⟨0, 13, 16, 13⟩] ⟨0, 13, 20, 15⟩ [] rfl (by intro z hz; simp only [List.mem_cons, List.not_mem_nil, or_false] at hz; rcases hz with rfl <;> first | exact ⟨by decide, _, mb_128, by decide +kernel⟩) (by decide) (by decide) mb_129 mb_225 hq9 hcv hcl ?_
      refine lv_astore (lv' := [(7, .ref q9), (0, .ref a1), (1, .int a2), (2, .int a3), (3, .int a4), (4, .long a5), (6, .ref a6)]) hx hb dL_set_20 hl (by decide) rfl (fun ls hl => ?_)
      refine lv_iconst (v := 2) hx hb dL_set_22 (by decide) ?_
      exact sj_retI hC hk hH hr rfl hv9 ⟨(Nat.le_of_ble_eq_true rfl), (Nat.le_of_ble_eq_true rfl)⟩ dL_set_23
  refine sj_last hC hH hv3.1 hv3.2.1 dL_set_12 (fun w4 H locs e5 hH => ?_)
  refine lv_goto (tgt := 24) hx hb dL_set_13 (by decide) ?_
  refine lv_iconst (v := 0) hx hb dL_set_24 (by decide) ?_
  exact sj_retI hC hk hH hr rfl (hv3.2.2 w4 e5) ⟨(Nat.le_of_ble_eq_true rfl), (Nat.le_of_ble_eq_true rfl)⟩ dL_set_25
section SJL_L_set
variable {p : Program} {l : Launch} {e : Env} {R : Room} {s : State} {m : MethodId} {args : Array Value} {below : List Frame} {meth : Method} {c : Code} {H : Heap} {locs : List Loc} {cells slots : Nat} {Q : State → Prop} {cc : ByteArray} {pc : Nat} {ls : Array Slot} {rest : List Value} {G : sj_G} {nL : Nat} {w : sj_W}
theorem cg_L_150 {b0 : Nat} {b1 : Int32} {b2 : Int32} {b3 : Int32} {b4 : Int64} {b5 : Nat} {Qi : Int32 → sj_W → Prop} (hC : sj_C G p l s m args c cc RL nL) (hH : sj_H G s w H locs) (hv : vc_L_set b0 b1 b2 b3 b4 b5 w Qi) (hR : rm_L_set.frames + 1 ≤ R.frames ∧ 8 + (8 + 11) + rm_L_set.locals ≤ R.locals) (hf : cells + 4 ≤ R.cells ∧ slots + 24 ≤ R.slots) (hls : ls.size = nL) (hW : (rest.map fun v => v.category).sum ≤ 8) (hdg : decode cc pc = .ok (.invokestatic 150, 3)) (kk : ∀ (r : Int32) (w1 : sj_W) (H : Heap) (locs : List Loc), sj_H G s w1 H locs → Qi r w1 → W p l e R s m args below meth c H locs (cells + 4) (slots + 24) Q (F0 m (pc + 3) ls (.int r :: rest))) : W p l e R s m args below meth c H locs cells slots Q (F0 m pc ls (.ref b5 :: .long b4 :: .int b3 :: .int b2 :: .int b1 :: .ref b0 :: rest)) :=
  sj_xI hH (sj_runSX (n := 6) hC hH (As := [.ref b0, .int b1, .int b2, .int b3, .long b4, .ref b5]) (wk_L_set G l hC.2.2.2.2.2.2 b0 b1 b2 b3 b4 b5 w Qi (fun _ _ => False) hv) mb_255 mb_256 mb_0 mb_257 (by decide +kernel) hR hf rfl hls hW hdg) (fun _ _ _ _ _ _ _ h _ _ _ => h.elim) kk
end SJL_L_set

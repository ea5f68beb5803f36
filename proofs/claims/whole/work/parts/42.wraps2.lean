abbrev rm_L_share : Room := { frames := 8, cells := 241, slots := 726, locals := 127 }
def vc_L_share (a1 : Nat) (a2 : Int32) (a3 : Nat) (w : sj_W) (Q : Int32 → sj_W → Prop) : Prop := sj_T w a1 = 5 ∧ vc_X6_share a1 a2 w (fun r1 w2 => vf_n64 (FP.f2d r1) ∧ sj_T w2 a3 = 9 ∧ vp_in 0 (sj_N w2 a3) ∧ ∀ w4 : sj_W, w4 = sj_sd w2 a3 (0 : Int32).toNatClampNeg (FP.f2d r1) → Q 0 w4) (fun E w6 => ((E = "java/lang/IllegalArgumentException" → Q 1 w6) ∧ (E = "java/lang/IllegalStateException" → Q 2 w6) ∧ (E = "java/lang/IllegalArgumentException" ∨ E = "java/lang/IllegalStateException")))
set_option maxHeartbeats 4000000 in
set_option maxRecDepth 100000 in
theorem wk_L_share (G : sj_G) (l : Launch) (hlt : l.stackTraces = false) (a1 : Nat) (a2 : Int32) (a3 : Nat) (w : sj_W) (Q : Int32 → sj_W → Prop) (QX : String → sj_W → Prop) (hv : vc_L_share a1 a2 a3 w Q) : sj_MI G l yL_share (sj_wsW yL_share cL_share 4 (some .int) [(0, 9, 12, 13), (0, 9, 15, 17)]) rm_L_share [.ref a1, .int a2, .ref a3] w Q QX := by
  refine sj_ofW (by decide +kernel) (Nat.le_of_ble_eq_true rfl) hlt ?_
  intro p e s m args below meth c ls hC htb hk hr hH hl
  have hx := hC.1
  have hb := hC.2.1
  have hl : lv_has ls 4 [(0, .ref a1), (1, .int a2), (2, .ref a3)] := hl
  refine lv_aload_n hx hb dL_share_0 rfl (lv_at hl 2 rfl) ?_
  refine lv_iconst (v := 0) hx hb dL_share_1 (by decide) ?_
  refine lv_aload_n hx hb dL_share_2 rfl (lv_at hl 0 rfl) ?_
  refine lv_iload_n hx hb dL_share_3 rfl (lv_at hl 1 rfl) ?_
  refine cx_L_118 hC hH hv.2 hv.1 ⟨Nat.le_of_ble_eq_true rfl, Nat.le_of_ble_eq_true rfl⟩ ⟨(Nat.le_of_ble_eq_true rfl), (Nat.le_of_ble_eq_true rfl)⟩ hl.1 (Nat.le_of_ble_eq_true rfl) dL_share_4 (fun E ce q9 w6 H locs hH hE7 hq9 hcv hcl => ?_) (fun r1 w2 H locs hH hv3 => ?_)
  · rcases hE7.2.2 with rfl | rfl
    · have hv8 := hE7.1 rfl
      refine sj_catch (E := "java/lang/IllegalArgumentException") hC htb [] ⟨0, 9, 12, 13⟩ [⟨0, 9, 15, 17⟩] rfl (fun _ h => nomatch h) (by decide) (by decide) mb_128 mb_140 hq9 hcv hcl ?_
      refine lv_astore_n (lv' := [(3, .ref q9), (0, .ref a1), (1, .int a2), (2, .ref a3)]) hx hb dL_share_12 rfl hl (by decide) rfl (fun ls hl => ?_)
      refine lv_iconst (v := 1) hx hb dL_share_13 (by decide) ?_
      exact sj_retI hC hk hH hr rfl hv8 ⟨(Nat.le_of_ble_eq_true rfl), (Nat.le_of_ble_eq_true rfl)⟩ dL_share_14
    · have hv9 := hE7.2.1 rfl
      refine sj_catch (E := "java/lang/IllegalStateException") hC htb [⟨0, 9, 12, 13⟩] ⟨0, 9, 15, 17⟩ [] rfl (by intro z hz; simp only [List.mem_cons, List.not_mem_nil, or_false] at hz; rcases hz with rfl <;> first | exact ⟨by decide, _, mb_128, by decide +kernel⟩) (by decide) (by decide) mb_130 mb_241 hq9 hcv hcl ?_
      refine lv_astore_n (lv' := [(3, .ref q9), (0, .ref a1), (1, .int a2), (2, .ref a3)]) hx hb dL_share_15 rfl hl (by decide) rfl (fun ls hl => ?_)
      refine lv_iconst (v := 2) hx hb dL_share_16 (by decide) ?_
      exact sj_retI hC hk hH hr rfl hv9 ⟨(Nat.le_of_ble_eq_true rfl), (Nat.le_of_ble_eq_true rfl)⟩ dL_share_17
  refine lv_f2d hx hb dL_share_7 hv3.1 ?_
  refine sj_dast hC hH hv3.2.1 hv3.2.2.1 dL_share_8 (fun w4 H locs e5 hH => ?_)
  refine lv_goto (tgt := 18) hx hb dL_share_9 (by decide) ?_
  refine lv_iconst (v := 0) hx hb dL_share_18 (by decide) ?_
  exact sj_retI hC hk hH hr rfl (hv3.2.2.2 w4 e5) ⟨(Nat.le_of_ble_eq_true rfl), (Nat.le_of_ble_eq_true rfl)⟩ dL_share_19
section SJL_L_share
variable {p : Program} {l : Launch} {e : Env} {R : Room} {s : State} {m : MethodId} {args : Array Value} {below : List Frame} {meth : Method} {c : Code} {H : Heap} {locs : List Loc} {cells slots : Nat} {Q : State → Prop} {cc : ByteArray} {pc : Nat} {ls : Array Slot} {rest : List Value} {G : sj_G} {nL : Nat} {w : sj_W}
theorem cg_L_246 {b0 : Nat} {b1 : Int32} {b2 : Nat} {Qi : Int32 → sj_W → Prop} (hC : sj_C G p l s m args c cc RL nL) (hH : sj_H G s w H locs) (hv : vc_L_share b0 b1 b2 w Qi) (hR : rm_L_share.frames + 1 ≤ R.frames ∧ 8 + (4 + 11) + rm_L_share.locals ≤ R.locals) (hf : cells + 241 ≤ R.cells ∧ slots + 726 ≤ R.slots) (hls : ls.size = nL) (hW : (rest.map fun v => v.category).sum ≤ 8) (hdg : decode cc pc = .ok (.invokestatic 246, 3)) (kk : ∀ (r : Int32) (w1 : sj_W) (H : Heap) (locs : List Loc), sj_H G s w1 H locs → Qi r w1 → W p l e R s m args below meth c H locs (cells + 241) (slots + 726) Q (F0 m (pc + 3) ls (.int r :: rest))) : W p l e R s m args below meth c H locs cells slots Q (F0 m pc ls (.ref b2 :: .int b1 :: .ref b0 :: rest)) :=
  sj_xI hH (sj_runSX (n := 3) hC hH (As := [.ref b0, .int b1, .ref b2]) (wk_L_share G l hC.2.2.2.2.2.2 b0 b1 b2 w Qi (fun _ _ => False) hv) mb_590 mb_591 mb_0 mb_592 (by decide +kernel) hR hf rfl hls hW hdg) (fun _ _ _ _ _ _ _ h _ _ _ => h.elim) kk
end SJL_L_share
abbrev rm_L_sort : Room := { frames := 8, cells := 242, slots := 732, locals := 127 }
def vc_L_sort (a1 : Nat) (a2 : Int32) (a3 : Int32) (a4 : Nat) (w : sj_W) (Q : Int32 → sj_W → Prop) : Prop := sj_T w a1 = 5 ∧ vc_X6_sort a1 a2 a3 w (fun r1 w2 => sj_T w2 a4 = 8 ∧ vp_in 0 (sj_N w2 a4) ∧ ∀ w4 : sj_W, w4 = sj_sl w2 a4 (0 : Int32).toNatClampNeg (r1.toInt64) → Q 0 w4) (fun E w6 => ((E = "java/lang/IllegalArgumentException" → Q 1 w6) ∧ (E = "java/lang/IllegalArgumentException")))
set_option maxHeartbeats 4000000 in
set_option maxRecDepth 100000 in
theorem wk_L_sort (G : sj_G) (l : Launch) (hlt : l.stackTraces = false) (a1 : Nat) (a2 : Int32) (a3 : Int32) (a4 : Nat) (w : sj_W) (Q : Int32 → sj_W → Prop) (QX : String → sj_W → Prop) (hv : vc_L_sort a1 a2 a3 a4 w Q) : sj_MI G l yL_sort (sj_wsW yL_sort cL_sort 5 (some .int) [(0, 10, 13, 13)]) rm_L_sort [.ref a1, .int a2, .int a3, .ref a4] w Q QX := by
  refine sj_ofW (by decide +kernel) (Nat.le_of_ble_eq_true rfl) hlt ?_
  intro p e s m args below meth c ls hC htb hk hr hH hl
  have hx := hC.1
  have hb := hC.2.1
  have hl : lv_has ls 5 [(0, .ref a1), (1, .int a2), (2, .int a3), (3, .ref a4)] := hl
  refine lv_aload_n hx hb dL_sort_0 rfl (lv_at hl 3 rfl) ?_
  refine lv_iconst (v := 0) hx hb dL_sort_1 (by decide) ?_
  refine lv_aload_n hx hb dL_sort_2 rfl (lv_at hl 0 rfl) ?_
  refine lv_iload_n hx hb dL_sort_3 rfl (lv_at hl 1 rfl) ?_
  refine lv_iload_n hx hb dL_sort_4 rfl (lv_at hl 2 rfl) ?_
  refine cx_L_79 hC hH hv.2 hv.1 ⟨Nat.le_of_ble_eq_true rfl, Nat.le_of_ble_eq_true rfl⟩ ⟨(Nat.le_of_ble_eq_true rfl), (Nat.le_of_ble_eq_true rfl)⟩ hl.1 (Nat.le_of_ble_eq_true rfl) dL_sort_5 (fun E ce q9 w6 H locs hH hE7 hq9 hcv hcl => ?_) (fun r1 w2 H locs hH hv3 => ?_)
  · rcases hE7.2 with rfl
    · have hv8 := hE7.1 rfl
      refine sj_catch (E := "java/lang/IllegalArgumentException") hC htb [] ⟨0, 10, 13, 13⟩ [] rfl (fun _ h => nomatch h) (by decide) (by decide) mb_128 mb_140 hq9 hcv hcl ?_
      refine lv_astore (lv' := [(4, .ref q9), (0, .ref a1), (1, .int a2), (2, .int a3), (3, .ref a4)]) hx hb dL_sort_13 hl (by decide) rfl (fun ls hl => ?_)
      refine lv_iconst (v := 1) hx hb dL_sort_15 (by decide) ?_
      exact sj_retI hC hk hH hr rfl hv8 ⟨(Nat.le_of_ble_eq_true rfl), (Nat.le_of_ble_eq_true rfl)⟩ dL_sort_16
  refine lv_i2l hx hb dL_sort_8 rfl ?_
  refine sj_last hC hH hv3.1 hv3.2.1 dL_sort_9 (fun w4 H locs e5 hH => ?_)
  refine lv_goto (tgt := 17) hx hb dL_sort_10 (by decide) ?_
  refine lv_iconst (v := 0) hx hb dL_sort_17 (by decide) ?_
  exact sj_retI hC hk hH hr rfl (hv3.2.2 w4 e5) ⟨(Nat.le_of_ble_eq_true rfl), (Nat.le_of_ble_eq_true rfl)⟩ dL_sort_18
section SJL_L_sort
variable {p : Program} {l : Launch} {e : Env} {R : Room} {s : State} {m : MethodId} {args : Array Value} {below : List Frame} {meth : Method} {c : Code} {H : Heap} {locs : List Loc} {cells slots : Nat} {Q : State → Prop} {cc : ByteArray} {pc : Nat} {ls : Array Slot} {rest : List Value} {G : sj_G} {nL : Nat} {w : sj_W}
theorem cg_L_208 {b0 : Nat} {b1 : Int32} {b2 : Int32} {b3 : Nat} {Qi : Int32 → sj_W → Prop} (hC : sj_C G p l s m args c cc RL nL) (hH : sj_H G s w H locs) (hv : vc_L_sort b0 b1 b2 b3 w Qi) (hR : rm_L_sort.frames + 1 ≤ R.frames ∧ 8 + (5 + 11) + rm_L_sort.locals ≤ R.locals) (hf : cells + 242 ≤ R.cells ∧ slots + 732 ≤ R.slots) (hls : ls.size = nL) (hW : (rest.map fun v => v.category).sum ≤ 8) (hdg : decode cc pc = .ok (.invokestatic 208, 3)) (kk : ∀ (r : Int32) (w1 : sj_W) (H : Heap) (locs : List Loc), sj_H G s w1 H locs → Qi r w1 → W p l e R s m args below meth c H locs (cells + 242) (slots + 732) Q (F0 m (pc + 3) ls (.int r :: rest))) : W p l e R s m args below meth c H locs cells slots Q (F0 m pc ls (.ref b3 :: .int b2 :: .int b1 :: .ref b0 :: rest)) :=
  sj_xI hH (sj_runSX (n := 4) hC hH (As := [.ref b0, .int b1, .int b2, .ref b3]) (wk_L_sort G l hC.2.2.2.2.2.2 b0 b1 b2 b3 w Qi (fun _ _ => False) hv) mb_456 mb_457 mb_0 mb_458 (by decide +kernel) hR hf rfl hls hW hdg) (fun _ _ _ _ _ _ _ h _ _ _ => h.elim) kk
end SJL_L_sort
abbrev rm_L_sorted : Room := { frames := 8, cells := 1, slots := 6, locals := 124 }
def vc_L_sorted (a1 : Nat) (a2 : Int32) (a3 : Nat) (w : sj_W) (Q : Int32 → sj_W → Prop) : Prop := sj_T w a1 = 5 ∧ vc_X6_sorted a1 a2 w (fun r1 w2 => sj_T w2 a3 = 8 ∧ vp_in 0 (sj_N w2 a3) ∧ ∀ w4 : sj_W, w4 = sj_sl w2 a3 (0 : Int32).toNatClampNeg (r1.toInt64) → Q 0 w4) (fun E w6 => ((E = "java/lang/IndexOutOfBoundsException" → Q 1 w6) ∧ (E = "java/lang/IndexOutOfBoundsException")))
set_option maxHeartbeats 4000000 in
set_option maxRecDepth 100000 in
theorem wk_L_sorted (G : sj_G) (l : Launch) (hlt : l.stackTraces = false) (a1 : Nat) (a2 : Int32) (a3 : Nat) (w : sj_W) (Q : Int32 → sj_W → Prop) (QX : String → sj_W → Prop) (hv : vc_L_sorted a1 a2 a3 w Q) : sj_MI G l yL_sorted (sj_wsW yL_sorted cL_sorted 4 (some .int) [(0, 9, 12, 15)]) rm_L_sorted [.ref a1, .int a2, .ref a3] w Q QX := by
  refine sj_ofW (by decide +kernel) (Nat.le_of_ble_eq_true rfl) hlt ?_
  intro p e s m args below meth c ls hC htb hk hr hH hl
  have hx := hC.1
  have hb := hC.2.1
  have hl : lv_has ls 4 [(0, .ref a1), (1, .int a2), (2, .ref a3)] := hl
  refine lv_aload_n hx hb dL_sorted_0 rfl (lv_at hl 2 rfl) ?_
  refine lv_iconst (v := 0) hx hb dL_sorted_1 (by decide) ?_
  refine lv_aload_n hx hb dL_sorted_2 rfl (lv_at hl 0 rfl) ?_
  refine lv_iload_n hx hb dL_sorted_3 rfl (lv_at hl 1 rfl) ?_
  refine cx_L_83 hC hH hv.2 hv.1 ⟨Nat.le_of_ble_eq_true rfl, Nat.le_of_ble_eq_true rfl⟩ ⟨(Nat.le_of_ble_eq_true rfl), (Nat.le_of_ble_eq_true rfl)⟩ hl.1 (Nat.le_of_ble_eq_true rfl) dL_sorted_4 (fun E ce q9 w6 H locs hH hE7 hq9 hcv hcl => ?_) (fun r1 w2 H locs hH hv3 => ?_)
  · rcases hE7.2 with rfl
    · have hv8 := hE7.1 rfl
      refine sj_catch (E := "java/lang/IndexOutOfBoundsException") hC htb [] ⟨0, 9, 12, 15⟩ [] rfl (fun _ h => nomatch h) (by decide) (by decide) mb_129 mb_225 hq9 hcv hcl ?_
      refine lv_astore_n (lv' := [(3, .ref q9), (0, .ref a1), (1, .int a2), (2, .ref a3)]) hx hb dL_sorted_12 rfl hl (by decide) rfl (fun ls hl => ?_)
      refine lv_iconst (v := 1) hx hb dL_sorted_13 (by decide) ?_
      exact sj_retI hC hk hH hr rfl hv8 ⟨(Nat.le_of_ble_eq_true rfl), (Nat.le_of_ble_eq_true rfl)⟩ dL_sorted_14
  refine lv_i2l hx hb dL_sorted_7 rfl ?_
  refine sj_last hC hH hv3.1 hv3.2.1 dL_sorted_8 (fun w4 H locs e5 hH => ?_)
  refine lv_goto (tgt := 15) hx hb dL_sorted_9 (by decide) ?_
  refine lv_iconst (v := 0) hx hb dL_sorted_15 (by decide) ?_
  exact sj_retI hC hk hH hr rfl (hv3.2.2 w4 e5) ⟨(Nat.le_of_ble_eq_true rfl), (Nat.le_of_ble_eq_true rfl)⟩ dL_sorted_16
section SJL_L_sorted
variable {p : Program} {l : Launch} {e : Env} {R : Room} {s : State} {m : MethodId} {args : Array Value} {below : List Frame} {meth : Method} {c : Code} {H : Heap} {locs : List Loc} {cells slots : Nat} {Q : State → Prop} {cc : ByteArray} {pc : Nat} {ls : Array Slot} {rest : List Value} {G : sj_G} {nL : Nat} {w : sj_W}
theorem cg_L_212 {b0 : Nat} {b1 : Int32} {b2 : Nat} {Qi : Int32 → sj_W → Prop} (hC : sj_C G p l s m args c cc RL nL) (hH : sj_H G s w H locs) (hv : vc_L_sorted b0 b1 b2 w Qi) (hR : rm_L_sorted.frames + 1 ≤ R.frames ∧ 8 + (4 + 11) + rm_L_sorted.locals ≤ R.locals) (hf : cells + 1 ≤ R.cells ∧ slots + 6 ≤ R.slots) (hls : ls.size = nL) (hW : (rest.map fun v => v.category).sum ≤ 8) (hdg : decode cc pc = .ok (.invokestatic 212, 3)) (kk : ∀ (r : Int32) (w1 : sj_W) (H : Heap) (locs : List Loc), sj_H G s w1 H locs → Qi r w1 → W p l e R s m args below meth c H locs (cells + 1) (slots + 6) Q (F0 m (pc + 3) ls (.int r :: rest))) : W p l e R s m args below meth c H locs cells slots Q (F0 m pc ls (.ref b2 :: .int b1 :: .ref b0 :: rest)) :=
  sj_xI hH (sj_runSX (n := 3) hC hH (As := [.ref b0, .int b1, .ref b2]) (wk_L_sorted G l hC.2.2.2.2.2.2 b0 b1 b2 w Qi (fun _ _ => False) hv) mb_467 mb_468 mb_0 mb_469 (by decide +kernel) hR hf rfl hls hW hdg) (fun _ _ _ _ _ _ _ h _ _ _ => h.elim) kk
end SJL_L_sorted
abbrev rm_L_span : Room := { frames := 8, cells := 3, slots := 18, locals := 128 }
def vc_L_span (a1 : Nat) (a2 : Int32) (a3 : Int32) (a4 : Int32) (a5 : Int32) (a6 : Nat) (w : sj_W) (Q : Int32 → sj_W → Prop) : Prop := sj_T w a1 = 5 ∧ vc_X6_span a1 a2 a3 a4 a5 w (fun r1 w2 => sj_T w2 a6 = 8 ∧ vp_in 0 (sj_N w2 a6) ∧ ∀ w4 : sj_W, w4 = sj_sl w2 a6 (0 : Int32).toNatClampNeg (r1.toInt64) → Q 0 w4) (fun E w6 => ((E = "java/lang/IndexOutOfBoundsException" → Q 1 w6) ∧ (E = "java/lang/IllegalArgumentException" → Q 2 w6) ∧ (E = "java/lang/IndexOutOfBoundsException" ∨ E = "java/lang/IllegalArgumentException")))
set_option maxHeartbeats 4000000 in
set_option maxRecDepth 100000 in
theorem wk_L_span (G : sj_G) (l : Launch) (hlt : l.stackTraces = false) (a1 : Nat) (a2 : Int32) (a3 : Int32) (a4 : Int32) (a5 : Int32) (a6 : Nat) (w : sj_W) (Q : Int32 → sj_W → Prop) (QX : String → sj_W → Prop) (hv : vc_L_span a1 a2 a3 a4 a5 a6 w Q) : sj_MI G l yL_span (sj_wsW yL_span cL_span 7 (some .int) [(0, 14, 17, 15), (0, 14, 21, 13)]) rm_L_span [.ref a1, .int a2, .int a3, .int a4, .int a5, .ref a6] w Q QX := by
  refine sj_ofW (by decide +kernel) (Nat.le_of_ble_eq_true rfl) hlt ?_
  intro p e s m args below meth c ls hC htb hk hr hH hl
  have hx := hC.1
  have hb := hC.2.1
  have hl : lv_has ls 7 [(0, .ref a1), (1, .int a2), (2, .int a3), (3, .int a4), (4, .int a5), (5, .ref a6)] := hl
  refine lv_aload hx hb dL_span_0 (lv_at hl 5 rfl) ?_
  refine lv_iconst (v := 0) hx hb dL_span_2 (by decide) ?_
  refine lv_aload_n hx hb dL_span_3 rfl (lv_at hl 0 rfl) ?_
  refine lv_iload_n hx hb dL_span_4 rfl (lv_at hl 1 rfl) ?_
  refine lv_iload_n hx hb dL_span_5 rfl (lv_at hl 2 rfl) ?_
  refine lv_iload_n hx hb dL_span_6 rfl (lv_at hl 3 rfl) ?_
  refine lv_iload hx hb dL_span_7 (lv_at hl 4 rfl) ?_
  refine cx_L_49 hC hH hv.2 hv.1 ⟨Nat.le_of_ble_eq_true rfl, Nat.le_of_ble_eq_true rfl⟩ ⟨(Nat.le_of_ble_eq_true rfl), (Nat.le_of_ble_eq_true rfl)⟩ hl.1 (Nat.le_of_ble_eq_true rfl) dL_span_9 (fun E ce q9 w6 H locs hH hE7 hq9 hcv hcl => ?_) (fun r1 w2 H locs hH hv3 => ?_)
  · rcases hE7.2.2 with rfl | rfl
    · have hv8 := hE7.1 rfl
      refine sj_catch (E := "java/lang/IndexOutOfBoundsException") hC htb [] ⟨0, 14, 17, 15⟩ [⟨0, 14, 21, 13⟩] rfl (fun _ h => nomatch h) (by decide) (by decide) mb_129 mb_225 hq9 hcv hcl ?_
      refine lv_astore (lv' := [(6, .ref q9), (0, .ref a1), (1, .int a2), (2, .int a3), (3, .int a4), (4, .int a5), (5, .ref a6)]) hx hb dL_span_17 hl (by decide) rfl (fun ls hl => ?_)
      refine lv_iconst (v := 1) hx hb dL_span_19 (by decide) ?_
      exact sj_retI hC hk hH hr rfl hv8 ⟨(Nat.le_of_ble_eq_true rfl), (Nat.le_of_ble_eq_true rfl)⟩ dL_span_20
    · have hv9 := hE7.2.1 rfl
      refine sj_catch (E := "java/lang/IllegalArgumentException") hC htb [⟨0, 14, 17, 15⟩] ⟨0, 14, 21, 13⟩ [] rfl (by intro z hz; simp only [List.mem_cons, List.not_mem_nil, or_false] at hz; rcases hz with rfl <;> first | exact ⟨by decide, _, mb_129, by decide +kernel⟩) (by decide) (by decide) mb_128 mb_140 hq9 hcv hcl ?_
      refine lv_astore (lv' := [(6, .ref q9), (0, .ref a1), (1, .int a2), (2, .int a3), (3, .int a4), (4, .int a5), (5, .ref a6)]) hx hb dL_span_21 hl (by decide) rfl (fun ls hl => ?_)
      refine lv_iconst (v := 2) hx hb dL_span_23 (by decide) ?_
      exact sj_retI hC hk hH hr rfl hv9 ⟨(Nat.le_of_ble_eq_true rfl), (Nat.le_of_ble_eq_true rfl)⟩ dL_span_24
  refine lv_i2l hx hb dL_span_12 rfl ?_
  refine sj_last hC hH hv3.1 hv3.2.1 dL_span_13 (fun w4 H locs e5 hH => ?_)
  refine lv_goto (tgt := 25) hx hb dL_span_14 (by decide) ?_
  refine lv_iconst (v := 0) hx hb dL_span_25 (by decide) ?_
  exact sj_retI hC hk hH hr rfl (hv3.2.2 w4 e5) ⟨(Nat.le_of_ble_eq_true rfl), (Nat.le_of_ble_eq_true rfl)⟩ dL_span_26
section SJL_L_span
variable {p : Program} {l : Launch} {e : Env} {R : Room} {s : State} {m : MethodId} {args : Array Value} {below : List Frame} {meth : Method} {c : Code} {H : Heap} {locs : List Loc} {cells slots : Nat} {Q : State → Prop} {cc : ByteArray} {pc : Nat} {ls : Array Slot} {rest : List Value} {G : sj_G} {nL : Nat} {w : sj_W}
theorem cg_L_179 {b0 : Nat} {b1 : Int32} {b2 : Int32} {b3 : Int32} {b4 : Int32} {b5 : Nat} {Qi : Int32 → sj_W → Prop} (hC : sj_C G p l s m args c cc RL nL) (hH : sj_H G s w H locs) (hv : vc_L_span b0 b1 b2 b3 b4 b5 w Qi) (hR : rm_L_span.frames + 1 ≤ R.frames ∧ 8 + (7 + 11) + rm_L_span.locals ≤ R.locals) (hf : cells + 3 ≤ R.cells ∧ slots + 18 ≤ R.slots) (hls : ls.size = nL) (hW : (rest.map fun v => v.category).sum ≤ 8) (hdg : decode cc pc = .ok (.invokestatic 179, 3)) (kk : ∀ (r : Int32) (w1 : sj_W) (H : Heap) (locs : List Loc), sj_H G s w1 H locs → Qi r w1 → W p l e R s m args below meth c H locs (cells + 3) (slots + 18) Q (F0 m (pc + 3) ls (.int r :: rest))) : W p l e R s m args below meth c H locs cells slots Q (F0 m pc ls (.ref b5 :: .int b4 :: .int b3 :: .int b2 :: .int b1 :: .ref b0 :: rest)) :=
  sj_xI hH (sj_runSX (n := 6) hC hH (As := [.ref b0, .int b1, .int b2, .int b3, .int b4, .ref b5]) (wk_L_span G l hC.2.2.2.2.2.2 b0 b1 b2 b3 b4 b5 w Qi (fun _ _ => False) hv) mb_327 mb_328 mb_0 mb_329 (by decide +kernel) hR hf rfl hls hW hdg) (fun _ _ _ _ _ _ _ h _ _ _ => h.elim) kk
end SJL_L_span
abbrev rm_L_tells : Room := { frames := 8, cells := 2, slots := 12, locals := 126 }
def vc_L_tells (a1 : Nat) (a2 : Int32) (a3 : Int32) (a4 : Nat) (w : sj_W) (Q : Int32 → sj_W → Prop) : Prop := sj_T w a1 = 5 ∧ vc_X6_tells a1 a2 a3 w (fun r1 w2 => sj_T w2 a4 = 8 ∧ vp_in 0 (sj_N w2 a4) ∧ ∀ w4 : sj_W, w4 = sj_sl w2 a4 (0 : Int32).toNatClampNeg (r1.toInt64) → Q 0 w4) (fun E w6 => ((E = "java/lang/IndexOutOfBoundsException" → Q 1 w6) ∧ (E = "java/lang/IllegalArgumentException" → Q 2 w6) ∧ (E = "java/lang/IndexOutOfBoundsException" ∨ E = "java/lang/IllegalArgumentException")))
set_option maxHeartbeats 4000000 in
set_option maxRecDepth 100000 in
theorem wk_L_tells (G : sj_G) (l : Launch) (hlt : l.stackTraces = false) (a1 : Nat) (a2 : Int32) (a3 : Int32) (a4 : Nat) (w : sj_W) (Q : Int32 → sj_W → Prop) (QX : String → sj_W → Prop) (hv : vc_L_tells a1 a2 a3 a4 w Q) : sj_MI G l yL_tells (sj_wsW yL_tells cL_tells 5 (some .int) [(0, 10, 13, 15), (0, 10, 17, 13)]) rm_L_tells [.ref a1, .int a2, .int a3, .ref a4] w Q QX := by
  refine sj_ofW (by decide +kernel) (Nat.le_of_ble_eq_true rfl) hlt ?_
  intro p e s m args below meth c ls hC htb hk hr hH hl
  have hx := hC.1
  have hb := hC.2.1
  have hl : lv_has ls 5 [(0, .ref a1), (1, .int a2), (2, .int a3), (3, .ref a4)] := hl
  refine lv_aload_n hx hb dL_tells_0 rfl (lv_at hl 3 rfl) ?_
  refine lv_iconst (v := 0) hx hb dL_tells_1 (by decide) ?_
  refine lv_aload_n hx hb dL_tells_2 rfl (lv_at hl 0 rfl) ?_
  refine lv_iload_n hx hb dL_tells_3 rfl (lv_at hl 1 rfl) ?_
  refine lv_iload_n hx hb dL_tells_4 rfl (lv_at hl 2 rfl) ?_
  refine cx_L_53 hC hH hv.2 hv.1 ⟨Nat.le_of_ble_eq_true rfl, Nat.le_of_ble_eq_true rfl⟩ ⟨(Nat.le_of_ble_eq_true rfl), (Nat.le_of_ble_eq_true rfl)⟩ hl.1 (Nat.le_of_ble_eq_true rfl) dL_tells_5 (fun E ce q9 w6 H locs hH hE7 hq9 hcv hcl => ?_) (fun r1 w2 H locs hH hv3 => ?_)
  · rcases hE7.2.2 with rfl | rfl
    · have hv8 := hE7.1 rfl
      refine sj_catch (E := "java/lang/IndexOutOfBoundsException") hC htb [] ⟨0, 10, 13, 15⟩ [⟨0, 10, 17, 13⟩] rfl (fun _ h => nomatch h) (by decide) (by decide) mb_129 mb_225 hq9 hcv hcl ?_
      refine lv_astore (lv' := [(4, .ref q9), (0, .ref a1), (1, .int a2), (2, .int a3), (3, .ref a4)]) hx hb dL_tells_13 hl (by decide) rfl (fun ls hl => ?_)
      refine lv_iconst (v := 1) hx hb dL_tells_15 (by decide) ?_
      exact sj_retI hC hk hH hr rfl hv8 ⟨(Nat.le_of_ble_eq_true rfl), (Nat.le_of_ble_eq_true rfl)⟩ dL_tells_16
    · have hv9 := hE7.2.1 rfl
      refine sj_catch (E := "java/lang/IllegalArgumentException") hC htb [⟨0, 10, 13, 15⟩] ⟨0, 10, 17, 13⟩ [] rfl (by intro z hz; simp only [List.mem_cons, List.not_mem_nil, or_false] at hz; rcases hz with rfl <;> first | exact ⟨by decide, _, mb_129, by decide +kernel⟩) (by decide) (by decide) mb_128 mb_140 hq9 hcv hcl ?_
      refine lv_astore (lv' := [(4, .ref q9), (0, .ref a1), (1, .int a2), (2, .int a3), (3, .ref a4)]) hx hb dL_tells_17 hl (by decide) rfl (fun ls hl => ?_)
      refine lv_iconst (v := 2) hx hb dL_tells_19 (by decide) ?_
      exact sj_retI hC hk hH hr rfl hv9 ⟨(Nat.le_of_ble_eq_true rfl), (Nat.le_of_ble_eq_true rfl)⟩ dL_tells_20
  refine lv_i2l hx hb dL_tells_8 rfl ?_
  refine sj_last hC hH hv3.1 hv3.2.1 dL_tells_9 (fun w4 H locs e5 hH => ?_)
  refine lv_goto (tgt := 21) hx hb dL_tells_10 (by decide) ?_
  refine lv_iconst (v := 0) hx hb dL_tells_21 (by decide) ?_
  exact sj_retI hC hk hH hr rfl (hv3.2.2 w4 e5) ⟨(Nat.le_of_ble_eq_true rfl), (Nat.le_of_ble_eq_true rfl)⟩ dL_tells_22
section SJL_L_tells
variable {p : Program} {l : Launch} {e : Env} {R : Room} {s : State} {m : MethodId} {args : Array Value} {below : List Frame} {meth : Method} {c : Code} {H : Heap} {locs : List Loc} {cells slots : Nat} {Q : State → Prop} {cc : ByteArray} {pc : Nat} {ls : Array Slot} {rest : List Value} {G : sj_G} {nL : Nat} {w : sj_W}
theorem cg_L_183 {b0 : Nat} {b1 : Int32} {b2 : Int32} {b3 : Nat} {Qi : Int32 → sj_W → Prop} (hC : sj_C G p l s m args c cc RL nL) (hH : sj_H G s w H locs) (hv : vc_L_tells b0 b1 b2 b3 w Qi) (hR : rm_L_tells.frames + 1 ≤ R.frames ∧ 8 + (5 + 11) + rm_L_tells.locals ≤ R.locals) (hf : cells + 2 ≤ R.cells ∧ slots + 12 ≤ R.slots) (hls : ls.size = nL) (hW : (rest.map fun v => v.category).sum ≤ 8) (hdg : decode cc pc = .ok (.invokestatic 183, 3)) (kk : ∀ (r : Int32) (w1 : sj_W) (H : Heap) (locs : List Loc), sj_H G s w1 H locs → Qi r w1 → W p l e R s m args below meth c H locs (cells + 2) (slots + 12) Q (F0 m (pc + 3) ls (.int r :: rest))) : W p l e R s m args below meth c H locs cells slots Q (F0 m pc ls (.ref b3 :: .int b2 :: .int b1 :: .ref b0 :: rest)) :=
  sj_xI hH (sj_runSX (n := 4) hC hH (As := [.ref b0, .int b1, .int b2, .ref b3]) (wk_L_tells G l hC.2.2.2.2.2.2 b0 b1 b2 b3 w Qi (fun _ _ => False) hv) mb_339 mb_340 mb_0 mb_341 (by decide +kernel) hR hf rfl hls hW hdg) (fun _ _ _ _ _ _ _ h _ _ _ => h.elim) kk
end SJL_L_tells

abbrev rm_X4_changedBy : Room := { frames := 2, cells := 2, slots := 35, locals := 35 }
def vb_X4_changedBy_10 (f0 : Nat) (f1 : Int32) (f2 : Int32) (f3 : Nat) (Q : Nat → sj_W → Prop) (E : sj_W → Prop) (K : Int32 → sj_W → Prop) (v4 : Int32) (w : sj_W) : Prop := (7 ≤ sj_T w f3 ∧ sj_T w f3 ≤ 13) ∧ (((nI (sj_N w f3)) ≤ v4 → E w) ∧ (¬ (nI (sj_N w f3)) ≤ v4 → sj_T w f0 = 4 ∧ vc_X4_at f0 v4 w (fun r11 w12 => vc_X6_changed f1 f2 r11 w12 (fun r14 w15 => sj_T w15 f3 = 8 ∧ vp_in v4 (sj_N w15 f3) ∧ ∀ w17 : sj_W, w17 = sj_sl w15 f3 v4.toNatClampNeg r14 → K (v4 + 1) w17))))
def vc_X4_changedBy (self : Nat) (a1 : Int32) (a2 : Int32) (w : sj_W) (Q : Nat → sj_W → Prop) : Prop := sj_T w self = 4 ∧ vc_X4_size self w (fun r1 w2 => ¬ r1 < 0 ∧ r1.toNatClampNeg ≤ 32 ∧ ∀ q4 : Nat, q4 ≠ 0 → sj_T w2 q4 = 0 → ∀ w5 : sj_W, w5 = sj_nw w2 q4 8 r1.toNatClampNeg → sj_lp1 (vb_X4_changedBy_10 self a1 a2 q4 Q (fun w_10 => ∀ q20 : Nat, q20 ≠ 0 → sj_T w_10 q20 = 0 → ∀ w21 : sj_W, w21 = sj_nw w_10 q20 4 0 → (7 ≤ sj_T w21 q4 ∧ sj_T w21 q4 ≤ 13) ∧ vc_X4_init q20 q4 0 (nI (sj_N w21 q4)) w21 (fun w26 => Q q20 w26))) 64 0 w5)
set_option maxHeartbeats 4000000 in
set_option maxRecDepth 100000 in
theorem wl_X4_changedBy_10 {p : Program} {l : Launch} {e : Env} {s : State} {m : MethodId} {args : Array Value} {below : List Frame} {meth : Method} {c : Code} {G : sj_G} {f0 : Nat} {f1 : Int32} {f2 : Int32} {f3 : Nat} {Q : Nat → sj_W → Prop} {QX : String → sj_W → Prop} {E : sj_W → Prop} (hC : sj_C G p l s m args c cX4_changedBy RX4 5) (hD : sj_D meth c) (hr : meth.sig.returnType = (some (.object "Spanjudge$Word"))) (hin : meth.name = "changedBy") (hE : ∀ (w : sj_W) (H : Heap) (locs : List Loc) (ls : Array Slot), lv_has ls 5 [(3, .ref f3)] → sj_H G s w H locs → E w → W p l e rm_X4_changedBy s m args below meth c H locs 1 32 (sj_MQ G below (va_Qq (sj_QR Q) (sj_B G) (sj_F G)) QX args s rm_X4_changedBy) (F0 m 38 ls [])) : ∀ (n : Nat) (v4 : Int32) (w : sj_W) (H : Heap) (locs : List Loc) (ls : Array Slot), lv_has ls 5 [(0, .ref f0), (1, .int f1), (2, .int f2), (3, .ref f3), (4, .int v4)] → sj_H G s w H locs → sj_lp1 (vb_X4_changedBy_10 f0 f1 f2 f3 Q E) n v4 w → W p l e rm_X4_changedBy s m args below meth c H locs 1 32 (sj_MQ G below (va_Qq (sj_QR Q) (sj_B G) (sj_F G)) QX args s rm_X4_changedBy) (F0 m 10 ls []) := by
  have hx := hC.1
  have hb := hC.2.1
  intro n
  induction n with
  | zero =>
    intro v4 w H locs ls _ _ hv
    exact hv.elim
  | succ n ih =>
    intro v4 w H locs ls hl hH hv
    have hv : vb_X4_changedBy_10 f0 f1 f2 f3 Q E (sj_lp1 (vb_X4_changedBy_10 f0 f1 f2 f3 Q E) n) v4 w := hv
    have hc1 : rm_X4_changedBy.cells = 2 := rfl
    have hc2 : rm_X4_changedBy.slots = 35 := rfl
    refine lv_iload hx hb dX4_changedBy_10 (lv_at hl 4 rfl) ?_
    refine lv_aload_n hx hb dX4_changedBy_12 rfl (lv_at hl 3 rfl) ?_
    refine sj_alen hC hH hv.1 dX4_changedBy_13 ?_
    refine lv_icmp_ge (tgt := 38) hx hb dX4_changedBy_14 (by decide) (fun hc => ?_) (fun hc => ?_)
    · have hv9 := hv.2.1 hc
      exact hE  w _ _ _ (lv_sub hl [3] rfl) hH hv9
    · have hv10 := hv.2.2 hc
      refine lv_aload_n hx hb dX4_changedBy_17 rfl (lv_at hl 3 rfl) ?_
      refine lv_iload hx hb dX4_changedBy_18 (lv_at hl 4 rfl) ?_
      refine lv_iload_n hx hb dX4_changedBy_20 rfl (lv_at hl 1 rfl) ?_
      refine lv_iload_n hx hb dX4_changedBy_21 rfl (lv_at hl 2 rfl) ?_
      refine lv_aload_n hx hb dX4_changedBy_22 rfl (lv_at hl 0 rfl) ?_
      refine lv_iload hx hb dX4_changedBy_23 (lv_at hl 4 rfl) ?_
      refine cl_X4_24 hC hD hH hv10.2 hv10.1 ⟨Nat.le_of_ble_eq_true rfl, Nat.le_of_ble_eq_true rfl⟩ ⟨(Nat.le_of_ble_eq_true rfl), (Nat.le_of_ble_eq_true rfl)⟩ ⟨(Nat.le_of_ble_eq_true rfl), (Nat.le_of_ble_eq_true rfl)⟩ hl.1 (Nat.le_of_ble_eq_true rfl) dX4_changedBy_25 (fun r11 w12 H locs hH hv13 => ?_)
      refine cl_X4_28 hC hD hH hv13 ⟨Nat.le_of_ble_eq_true rfl, Nat.le_of_ble_eq_true rfl⟩ ⟨(Nat.le_of_ble_eq_true rfl), (Nat.le_of_ble_eq_true rfl)⟩ ⟨(Nat.le_of_ble_eq_true rfl), (Nat.le_of_ble_eq_true rfl)⟩ hl.1 (Nat.le_of_ble_eq_true rfl) dX4_changedBy_28 (fun r14 w15 H locs hH hv16 => ?_)
      refine sj_last hC hH hv16.1 hv16.2.1 dX4_changedBy_31 (fun w17 H locs e18 hH => ?_)
      refine lv_iinc (v := (v4 + 1)) (lv' := [(4, .int (v4 + 1)), (0, .ref f0), (1, .int f1), (2, .int f2), (3, .ref f3)]) hx hb dX4_changedBy_32 hl (k := 4) rfl rfl (by decide) rfl (fun ls hl => ?_)
      refine lv_goto (tgt := 10) hx hb dX4_changedBy_35 (by decide) ?_
      exact ih (v4 + 1) w17 _ _ _ (lv_sub hl [1, 2, 3, 4, 0] rfl) hH (hv16.2.2 w17 e18)
set_option maxHeartbeats 4000000 in
set_option maxRecDepth 100000 in
theorem wk_X4_changedBy (G : sj_G) (l : Launch) (hlt : l.stackTraces = false) (self : Nat) (a1 : Int32) (a2 : Int32) (w : sj_W) (Q : Nat → sj_W → Prop) (QX : String → sj_W → Prop) (hv : vc_X4_changedBy self a1 a2 w Q) : sj_MR G l yX4_changedBy (sj_ws yX4_changedBy cX4_changedBy 5 (some (.object "Spanjudge$Word"))) rm_X4_changedBy [.ref self, .int a1, .int a2] w Q QX := by
  refine sj_of (by decide +kernel) (Nat.le_of_ble_eq_true rfl) hlt ?_
  intro p e s m args below meth c ls hC hD hr hin hH hl
  have hx := hC.1
  have hb := hC.2.1
  have hl : lv_has ls 5 [(0, .ref self), (1, .int a1), (2, .int a2)] := hl
  refine lv_aload_n hx hb dX4_changedBy_0 rfl (lv_at hl 0 rfl) ?_
  refine cl_X4_20 hC hD hH hv.2 hv.1 ⟨Nat.le_of_ble_eq_true rfl, Nat.le_of_ble_eq_true rfl⟩ ⟨(Nat.le_of_ble_eq_true rfl), (Nat.le_of_ble_eq_true rfl)⟩ ⟨(Nat.le_of_ble_eq_true rfl), (Nat.le_of_ble_eq_true rfl)⟩ hl.1 (Nat.le_of_ble_eq_true rfl) dX4_changedBy_1 (fun r1 w2 H locs hH hv3 => ?_)
  have hN := hv3.2.1
  refine sj_newJ hC hH mb_70 hv3.1 rfl (Nat.le_trans hN (by decide)) (Nat.le_of_ble_eq_true rfl) (Nat.le_trans (Nat.add_le_add_left hN _) (Nat.le_of_ble_eq_true rfl)) dX4_changedBy_4 (fun q4 w5 H h7 h8 e6 hH => ?_)
  refine W.widen (k := 1) (n := 32) (Nat.le_refl _) (Nat.add_le_add_left hN _) ?_
  refine lv_astore_n (lv' := [(3, .ref q4), (0, .ref self), (1, .int a1), (2, .int a2)]) hx hb dX4_changedBy_6 rfl hl (by decide) rfl (fun ls hl => ?_)
  refine lv_iconst (v := 0) hx hb dX4_changedBy_7 (by decide) ?_
  refine lv_istore (lv' := [(4, .int 0), (3, .ref q4), (0, .ref self), (1, .int a1), (2, .int a2)]) hx hb dX4_changedBy_8 hl (by decide) rfl (fun ls hl => ?_)
  refine wl_X4_changedBy_10 hC hD hr hin (fun w_10 H locs ls hl hH hv19 => ?_) 64 0 w5 _ _ _ (lv_sub hl [2, 3, 4, 1, 0] rfl) hH (hv3.2.2 q4 h7 h8 w5 e6)
  refine nw_X4_8 hC hH (Nat.le_of_ble_eq_true rfl) (Nat.le_of_ble_eq_true rfl) dX4_changedBy_38 (fun q20 w21 H h23 h24 e22 hH => ?_)
  refine lv_dup hx hb dX4_changedBy_41 rfl ?_
  refine lv_aload_n hx hb dX4_changedBy_42 rfl (lv_at hl 0 rfl) ?_
  refine lv_iconst (v := 0) hx hb dX4_changedBy_43 (by decide) ?_
  refine lv_aload_n hx hb dX4_changedBy_44 rfl (lv_at hl 0 rfl) ?_
  refine sj_alen hC hH (hv19 q20 h23 h24 w21 e22).1 dX4_changedBy_45 ?_
  refine cl_X4_34 hC hD hH (hv19 q20 h23 h24 w21 e22).2 ⟨Nat.le_of_ble_eq_true rfl, Nat.le_of_ble_eq_true rfl⟩ ⟨(Nat.le_of_ble_eq_true rfl), (Nat.le_of_ble_eq_true rfl)⟩ ⟨(Nat.le_of_ble_eq_true rfl), (Nat.le_of_ble_eq_true rfl)⟩ hl.1 (Nat.le_of_ble_eq_true rfl) dX4_changedBy_46 (fun w26 H locs hH hv27 => ?_)
  exact sj_retR (Or.inl ⟨_, rfl⟩) hC hD.2 hH hr hv27 ⟨(Nat.le_of_ble_eq_true rfl), (Nat.le_of_ble_eq_true rfl)⟩ dX4_changedBy_49
section SJL_X4_changedBy
variable {p : Program} {l : Launch} {e : Env} {R : Room} {s : State} {m : MethodId} {args : Array Value} {below : List Frame} {meth : Method} {c : Code} {H : Heap} {locs : List Loc} {cells slots : Nat} {Q : State → Prop} {cc : ByteArray} {pc : Nat} {ls : Array Slot} {rest : List Value} {G : sj_G} {nL : Nat} {w : sj_W}
theorem cl_X5_33 {rmM : Room} {QcM : Array Value → State → Outcome → State → Prop} {QX : String → sj_W → Prop} {b : Nat} {b0 : Int32} {b1 : Int32} {Qi : Nat → sj_W → Prop} (hC : sj_C G p l s m args c cc RX5 nL) (hD : sj_D meth c) (hH : sj_H G s w H locs) (hv : vc_X4_changedBy b b0 b1 w Qi) (hT : sj_T w b = 4) (hR : rm_X4_changedBy.frames + 1 ≤ R.frames ∧ 8 + (5 + 11) + rm_X4_changedBy.locals ≤ R.locals) (hf : cells + 2 ≤ R.cells ∧ slots + 35 ≤ R.slots) (hfM : cells + 2 ≤ rmM.cells ∧ slots + 35 ≤ rmM.slots) (hls : ls.size = nL) (hW : (rest.map fun v => v.category).sum ≤ 8) (hdg : decode cc pc = .ok (.invokevirtual 33, 3)) (kk : ∀ (r : Nat) (w1 : sj_W) (H : Heap) (locs : List Loc), sj_H G s w1 H locs → Qi r w1 → W p l e R s m args below meth c H locs (cells + 2) (slots + 35) (sj_MQ G below QcM QX args s rmM) (F0 m (pc + 3) ls (.ref r :: rest))) : W p l e R s m args below meth c H locs cells slots (sj_MQ G below QcM QX args s rmM) (F0 m pc ls (.int b1 :: .int b0 :: .ref b :: rest)) :=
  sj_cR hD hH (sj_runVN (n := 2) hC hH (As := [.int b0, .int b1]) (wk_X4_changedBy G l hC.2.2.2.2.2.2 b b0 b1 w Qi QX hv) (ci := 3) rfl (by decide) hT mb_629 mb_631 mb_s21 mb_12 mb_632 (by decide +kernel) hR hf rfl hls hW hdg) hfM kk
end SJL_X4_changedBy
abbrev rm_X5_changedWords : Room := { frames := 3, cells := 13, slots := 213, locals := 59 }
def vb_X5_changedWords_9 (f0 : Int32) (f1 : Int32) (f2 : Nat) (f3 : Nat) (Q : Nat → sj_W → Prop) (E : sj_W → Prop) (K : Int32 → sj_W → Prop) (v4 : Int32) (w : sj_W) : Prop := (7 ≤ sj_T w f2 ∧ sj_T w f2 ≤ 13) ∧ (((nI (sj_N w f2)) ≤ v4 → E w) ∧ (¬ (nI (sj_N w f2)) ≤ v4 → (sj_T w f2 = 10 ∨ sj_T w f2 = 11 ∨ sj_T w f2 = 12) ∧ vp_in v4 (sj_N w f2) ∧ (sj_r w f2 v4.toNatClampNeg) ≠ 0 ∧ sj_T w (sj_r w f2 v4.toNatClampNeg) = 4 ∧ vc_X4_changedBy (sj_r w f2 v4.toNatClampNeg) f0 f1 w (fun r8 w9 => sj_T w9 f3 = 12 ∧ sj_T w9 r8 = 4 ∧ vp_in v4 (sj_N w9 f3) ∧ r8 ≠ 0 ∧ ∀ w11 : sj_W, w11 = sj_sr w9 f3 v4.toNatClampNeg r8 → K (v4 + 1) w11)))
def vc_X5_changedWords (a1 : Int32) (a2 : Int32) (a3 : Nat) (w : sj_W) (Q : Nat → sj_W → Prop) : Prop := (7 ≤ sj_T w a3 ∧ sj_T w a3 ≤ 13) ∧ ¬ (nI (sj_N w a3)) < 0 ∧ (nI (sj_N w a3)).toNatClampNeg ≤ 3 ∧ ∀ q1 : Nat, q1 ≠ 0 → sj_T w q1 = 0 → ∀ w2 : sj_W, w2 = sj_nw w q1 12 (nI (sj_N w a3)).toNatClampNeg → sj_lp1 (vb_X5_changedWords_9 a1 a2 a3 q1 Q (fun w_9 => Q q1 w_9)) 5 0 w2
set_option maxHeartbeats 4000000 in
set_option maxRecDepth 100000 in
theorem wl_X5_changedWords_9 {p : Program} {l : Launch} {e : Env} {s : State} {m : MethodId} {args : Array Value} {below : List Frame} {meth : Method} {c : Code} {G : sj_G} {f0 : Int32} {f1 : Int32} {f2 : Nat} {f3 : Nat} {Q : Nat → sj_W → Prop} {QX : String → sj_W → Prop} {E : sj_W → Prop} (hC : sj_C G p l s m args c cX5_changedWords RX5 5) (hD : sj_D meth c) (hr : meth.sig.returnType = (some (.array (.object "Spanjudge$Word")))) (hin : meth.name = "changedWords") (hE : ∀ (w : sj_W) (H : Heap) (locs : List Loc) (ls : Array Slot), lv_has ls 5 [(3, .ref f3)] → sj_H G s w H locs → E w → W p l e rm_X5_changedWords s m args below meth c H locs 11 178 (sj_MQ G below (va_Qq (sj_QR Q) (sj_B G) (sj_F G)) QX args s rm_X5_changedWords) (F0 m 35 ls [])) : ∀ (n : Nat) (v4 : Int32) (w : sj_W) (H : Heap) (locs : List Loc) (ls : Array Slot) (cells slots : Nat), cells + n * 2 ≤ 11 → slots + n * 35 ≤ 178 → lv_has ls 5 [(0, .int f0), (1, .int f1), (2, .ref f2), (3, .ref f3), (4, .int v4)] → sj_H G s w H locs → sj_lp1 (vb_X5_changedWords_9 f0 f1 f2 f3 Q E) n v4 w → W p l e rm_X5_changedWords s m args below meth c H locs cells slots (sj_MQ G below (va_Qq (sj_QR Q) (sj_B G) (sj_F G)) QX args s rm_X5_changedWords) (F0 m 9 ls []) := by
  have hx := hC.1
  have hb := hC.2.1
  intro n
  induction n with
  | zero =>
    intro v4 w H locs ls cells slots _ _ _ _ hv
    exact hv.elim
  | succ n ih =>
    intro v4 w H locs ls cells slots hcc hcs hl hH hv
    have hv : vb_X5_changedWords_9 f0 f1 f2 f3 Q E (sj_lp1 (vb_X5_changedWords_9 f0 f1 f2 f3 Q E) n) v4 w := hv
    have hc1 : rm_X5_changedWords.cells = 13 := rfl
    have hc2 : rm_X5_changedWords.slots = 213 := rfl
    refine lv_iload hx hb dX5_changedWords_9 (lv_at hl 4 rfl) ?_
    refine lv_aload_n hx hb dX5_changedWords_11 rfl (lv_at hl 2 rfl) ?_
    refine sj_alen hC hH hv.1 dX5_changedWords_12 ?_
    refine lv_icmp_ge (tgt := 35) hx hb dX5_changedWords_13 (by decide) (fun hc => ?_) (fun hc => ?_)
    · have hv6 := hv.2.1 hc
      refine W.widen (k := 11) (n := 178) (by omega) (by omega) ?_
      exact hE  w _ _ _ (lv_sub hl [3] rfl) hH hv6
    · have hv7 := hv.2.2 hc
      refine lv_aload_n hx hb dX5_changedWords_16 rfl (lv_at hl 3 rfl) ?_
      refine lv_iload hx hb dX5_changedWords_17 (lv_at hl 4 rfl) ?_
      refine lv_aload_n hx hb dX5_changedWords_19 rfl (lv_at hl 2 rfl) ?_
      refine lv_iload hx hb dX5_changedWords_20 (lv_at hl 4 rfl) ?_
      refine sj_aald hC hH hv7.1 hv7.2.1 hv7.2.2.1 dX5_changedWords_22 ?_
      refine lv_iload_n hx hb dX5_changedWords_23 rfl (lv_at hl 0 rfl) ?_
      refine lv_iload_n hx hb dX5_changedWords_24 rfl (lv_at hl 1 rfl) ?_
      refine cl_X5_33 hC hD hH hv7.2.2.2.2 hv7.2.2.2.1 ⟨Nat.le_of_ble_eq_true rfl, Nat.le_of_ble_eq_true rfl⟩ ⟨(by have hc1 : rm_X5_changedWords.cells = 13 := rfl; omega), (by have hc1 : rm_X5_changedWords.slots = 213 := rfl; omega)⟩ ⟨(by have hc1 : rm_X5_changedWords.cells = 13 := rfl; omega), (by have hc1 : rm_X5_changedWords.slots = 213 := rfl; omega)⟩ hl.1 (Nat.le_of_ble_eq_true rfl) dX5_changedWords_25 (fun r8 w9 H locs hH hv10 => ?_)
      refine sj_aast (t := 5) (ci := 3) (r := (RX4, TX4, 3)) hC hH hv10.1 (by decide) rfl (by decide) rfl hv10.2.1 hv10.2.2.1 hv10.2.2.2.1 dX5_changedWords_28 (fun w11 H locs e12 hH => ?_)
      refine lv_iinc (v := (v4 + 1)) (lv' := [(4, .int (v4 + 1)), (0, .int f0), (1, .int f1), (2, .ref f2), (3, .ref f3)]) hx hb dX5_changedWords_29 hl (k := 4) rfl rfl (by decide) rfl (fun ls hl => ?_)
      refine lv_goto (tgt := 9) hx hb dX5_changedWords_32 (by decide) ?_
      refine W.widen (k := cells + 2) (n := slots + 35) (by omega) (by omega) ?_
      exact ih (v4 + 1) w11 _ _ _ _ _ (by omega) (by omega) (lv_sub hl [1, 2, 3, 4, 0] rfl) hH (hv10.2.2.2.2 w11 e12)
set_option maxHeartbeats 4000000 in
set_option maxRecDepth 100000 in
theorem wk_X5_changedWords (G : sj_G) (l : Launch) (hlt : l.stackTraces = false) (a1 : Int32) (a2 : Int32) (a3 : Nat) (w : sj_W) (Q : Nat → sj_W → Prop) (QX : String → sj_W → Prop) (hv : vc_X5_changedWords a1 a2 a3 w Q) : sj_MR G l yX5_changedWords (sj_ws yX5_changedWords cX5_changedWords 5 (some (.array (.object "Spanjudge$Word")))) rm_X5_changedWords [.int a1, .int a2, .ref a3] w Q QX := by
  refine sj_of (by decide +kernel) (Nat.le_of_ble_eq_true rfl) hlt ?_
  intro p e s m args below meth c ls hC hD hr hin hH hl
  have hx := hC.1
  have hb := hC.2.1
  have hl : lv_has ls 5 [(0, .int a1), (1, .int a2), (2, .ref a3)] := hl
  refine lv_aload_n hx hb dX5_changedWords_0 rfl (lv_at hl 2 rfl) ?_
  refine sj_alen hC hH hv.1 dX5_changedWords_1 ?_
  have hN := hv.2.2.1
  refine sj_newQ (t := 5) hC hH (by decide) (by decide) mb_628 rfl hv.2.1 rfl (Nat.le_trans hN (by decide)) (Nat.le_of_ble_eq_true rfl) (Nat.le_trans (Nat.add_le_add_left hN _) (Nat.le_of_ble_eq_true rfl)) dX5_changedWords_2 (fun q1 w2 H h4 h5 e3 hH => ?_)
  refine W.widen (k := 1) (n := 3) (Nat.le_refl _) (Nat.add_le_add_left hN _) ?_
  refine lv_astore_n (lv' := [(3, .ref q1), (0, .int a1), (1, .int a2), (2, .ref a3)]) hx hb dX5_changedWords_5 rfl hl (by decide) rfl (fun ls hl => ?_)
  refine lv_iconst (v := 0) hx hb dX5_changedWords_6 (by decide) ?_
  refine lv_istore (lv' := [(4, .int 0), (3, .ref q1), (0, .int a1), (1, .int a2), (2, .ref a3)]) hx hb dX5_changedWords_7 hl (by decide) rfl (fun ls hl => ?_)
  refine wl_X5_changedWords_9 hC hD hr hin (fun w_9 H locs ls hl hH hv13 => ?_) 5 0 w2 _ _ _ 1 3 (Nat.le_of_ble_eq_true rfl) (Nat.le_of_ble_eq_true rfl) (lv_sub hl [2, 3, 4, 1, 0] rfl) hH (hv.2.2.2 q1 h4 h5 w2 e3)
  refine lv_aload_n hx hb dX5_changedWords_35 rfl (lv_at hl 0 rfl) ?_
  exact sj_retR (Or.inr ⟨_, rfl⟩) hC hD.2 hH hr hv13 ⟨(Nat.le_of_ble_eq_true rfl), (Nat.le_of_ble_eq_true rfl)⟩ dX5_changedWords_36
section SJL_X5_changedWords
variable {p : Program} {l : Launch} {e : Env} {R : Room} {s : State} {m : MethodId} {args : Array Value} {below : List Frame} {meth : Method} {c : Code} {H : Heap} {locs : List Loc} {cells slots : Nat} {Q : State → Prop} {cc : ByteArray} {pc : Nat} {ls : Array Slot} {rest : List Value} {G : sj_G} {nL : Nat} {w : sj_W}
theorem cl_X5_9 {rmM : Room} {QcM : Array Value → State → Outcome → State → Prop} {QX : String → sj_W → Prop} {b0 : Int32} {b1 : Int32} {b2 : Nat} {Qi : Nat → sj_W → Prop} (hC : sj_C G p l s m args c cc RX5 nL) (hD : sj_D meth c) (hH : sj_H G s w H locs) (hv : vc_X5_changedWords b0 b1 b2 w Qi) (hR : rm_X5_changedWords.frames + 1 ≤ R.frames ∧ 8 + (5 + 11) + rm_X5_changedWords.locals ≤ R.locals) (hf : cells + 13 ≤ R.cells ∧ slots + 213 ≤ R.slots) (hfM : cells + 13 ≤ rmM.cells ∧ slots + 213 ≤ rmM.slots) (hls : ls.size = nL) (hW : (rest.map fun v => v.category).sum ≤ 8) (hdg : decode cc pc = .ok (.invokestatic 9, 3)) (kk : ∀ (r : Nat) (w1 : sj_W) (H : Heap) (locs : List Loc), sj_H G s w1 H locs → Qi r w1 → W p l e R s m args below meth c H locs (cells + 13) (slots + 213) (sj_MQ G below QcM QX args s rmM) (F0 m (pc + 3) ls (.ref r :: rest))) : W p l e R s m args below meth c H locs cells slots (sj_MQ G below QcM QX args s rmM) (F0 m pc ls (.ref b2 :: .int b1 :: .int b0 :: rest)) :=
  sj_cR hD hH (sj_runS (n := 3) hC hH (As := [.int b0, .int b1, .ref b2]) (wk_X5_changedWords G l hC.2.2.2.2.2.2 b0 b1 b2 w Qi QX hv) mb_625 mb_626 mb_14 mb_627 (by decide +kernel) hR hf rfl hls hW hdg) hfM kk
end SJL_X5_changedWords
abbrev rm_X5_alikeIsTrue : Room := { frames := 3, cells := 0, slots := 0, locals := 67 }
def vb_X5_alikeIsTrue_59 (f0 : Nat) (f1 : Nat) (f3 : Int32) (f4 : Int32) (Q : Int32 → sj_W → Prop) (E : sj_W → Prop) (K : Int32 → sj_W → Prop) (v5 : Int32) (w : sj_W) : Prop := ((f4 ≤ v5 → E w) ∧ (¬ f4 ≤ v5 → sj_T w f0 = 4 ∧ vc_X4_at f0 v5 w (fun r36 w37 => sj_T w37 f1 = 4 ∧ vc_X4_at f1 v5 w37 (fun r39 w40 => (((lg_cmp r36 r39) = 0 → K (v5 + 1) w40) ∧ (¬ (lg_cmp r36 r39) = 0 → Q 0 w40))))))
def vc_X5_alikeIsTrue (a1 : Nat) (a2 : Nat) (w : sj_W) (Q : Int32 → sj_W → Prop) : Prop := vc_X6_mismatch a1 a2 w (fun r1 w2 => sj_jn1 (fun (E4 : Int32 → sj_W → Prop) => ((¬ r1 = (-1) → E4 0 w2) ∧ (r1 = (-1) → E4 1 w2))) (fun (y0_16 : Int32) (w_16 : sj_W) => sj_jn1 (fun (E12 : Int32 → sj_W → Prop) => ((y0_16 = 0 → E12 r1 w_16) ∧ (¬ y0_16 = 0 → sj_T w_16 a1 = 4 ∧ vc_X4_size a1 w_16 (fun r20 w21 => E12 r20 w21)))) (fun (y0_29 : Int32) (w_29 : sj_W) => ((y0_29 < 0 → Q 0 w_29) ∧ (¬ y0_29 < 0 → sj_T w_29 a1 = 4 ∧ vc_X4_size a1 w_29 (fun r25 w26 => ((r25 < y0_29 → Q 0 w26) ∧ (¬ r25 < y0_29 → sj_T w26 a2 = 4 ∧ vc_X4_size a2 w26 (fun r30 w31 => ((y0_29 ≤ r30 → sj_lp1 (vb_X5_alikeIsTrue_59 a1 a2 y0_16 y0_29 Q (fun w_59 => sj_T w_59 a1 = 4 ∧ vc_X4_size a1 w_59 (fun r45 w46 => sj_jn1 (fun (E48 : Int32 → sj_W → Prop) => ((r45 ≤ y0_29 → E48 0 w46) ∧ (¬ r45 ≤ y0_29 → sj_T w46 a2 = 4 ∧ vc_X4_size a2 w46 (fun r56 w57 => ((r56 ≤ y0_29 → E48 0 w57) ∧ (¬ r56 ≤ y0_29 → E48 1 w57)))))) (fun (y0_113 : Int32) (w_113 : sj_W) => sj_T w_113 a1 = 4 ∧ vc_X4_size a1 w_113 (fun r61 w62 => sj_jn1 (fun (E64 : Int32 → sj_W → Prop) => ((¬ y0_29 = r61 → E64 0 w62) ∧ (y0_29 = r61 → sj_T w62 a2 = 4 ∧ vc_X4_size a2 w62 (fun r72 w73 => ((¬ y0_29 = r72 → E64 0 w73) ∧ (y0_29 = r72 → E64 1 w73)))))) (fun (y0_138 : Int32) (w_138 : sj_W) => ((y0_113 = 0 → ((¬ y0_16 = y0_138 → Q 0 w_138) ∧ (y0_16 = y0_138 → vc_X6_isSame a1 a2 w_138 (fun r80 w81 => ((¬ y0_16 = r80 → Q 0 w81) ∧ (y0_16 = r80 → vc_X6_compareWords a1 a2 0 w81 (fun r85 w86 => sj_jn2 (fun (E88 : Int32 → Int32 → sj_W → Prop) => ((¬ r85 = 0 → E88 0 y0_16 w86) ∧ (r85 = 0 → E88 1 y0_16 w86))) (fun (y0_191 : Int32) (y1_191 : Int32) (w_191 : sj_W) => ((¬ y1_191 = y0_191 → Q 0 w_191) ∧ (y1_191 = y0_191 → vc_X6_compareWords a1 a2 1 w_191 (fun r98 w99 => sj_jn2 (fun (E101 : Int32 → Int32 → sj_W → Prop) => ((¬ r98 = 0 → E101 0 y0_16 w99) ∧ (r98 = 0 → E101 1 y0_16 w99))) (fun (y0_209 : Int32) (y1_209 : Int32) (w_209 : sj_W) => ((¬ y1_209 = y0_209 → Q 0 w_209) ∧ (y1_209 = y0_209 → Q 1 w_209)))))))))))))) ∧ (¬ y0_113 = 0 → sj_T w_138 a1 = 4 ∧ vc_X4_at a1 y0_29 w_138 (fun r112 w113 => sj_T w113 a2 = 4 ∧ vc_X4_at a2 y0_29 w113 (fun r115 w116 => (((lg_cmp r112 r115) = 0 → Q 0 w116) ∧ (¬ (lg_cmp r112 r115) = 0 → ((¬ y0_16 = y0_138 → Q 0 w116) ∧ (y0_16 = y0_138 → vc_X6_isSame a1 a2 w116 (fun r122 w123 => ((¬ y0_16 = r122 → Q 0 w123) ∧ (y0_16 = r122 → vc_X6_compareWords a1 a2 0 w123 (fun r127 w128 => sj_jn2 (fun (E130 : Int32 → Int32 → sj_W → Prop) => ((¬ r127 = 0 → E130 0 y0_16 w128) ∧ (r127 = 0 → E130 1 y0_16 w128))) (fun (y0_191 : Int32) (y1_191 : Int32) (w_191 : sj_W) => ((¬ y1_191 = y0_191 → Q 0 w_191) ∧ (y1_191 = y0_191 → vc_X6_compareWords a1 a2 1 w_191 (fun r140 w141 => sj_jn2 (fun (E143 : Int32 → Int32 → sj_W → Prop) => ((¬ r140 = 0 → E143 0 y0_16 w141) ∧ (r140 = 0 → E143 1 y0_16 w141))) (fun (y0_209 : Int32) (y1_209 : Int32) (w_209 : sj_W) => ((¬ y1_209 = y0_209 → Q 0 w_209) ∧ (y1_209 = y0_209 → Q 1 w_209))))))))))))))))))))))))) 64 0 w31) ∧ (¬ y0_29 ≤ r30 → Q 0 w31)))))))))))
set_option maxHeartbeats 4000000 in
set_option maxRecDepth 100000 in
theorem wl_X5_alikeIsTrue_59 {p : Program} {l : Launch} {e : Env} {s : State} {m : MethodId} {args : Array Value} {below : List Frame} {meth : Method} {c : Code} {G : sj_G} {f0 : Nat} {f1 : Nat} {f3 : Int32} {f4 : Int32} {Q : Int32 → sj_W → Prop} {QX : String → sj_W → Prop} {E : sj_W → Prop} (hC : sj_C G p l s m args c cX5_alikeIsTrue RX5 7) (hD : sj_D meth c) (hr : meth.sig.returnType = (some .boolean)) (hin : meth.name = "alikeIsTrue") (hE : ∀ (w : sj_W) (H : Heap) (locs : List Loc) (ls : Array Slot), lv_has ls 7 [(0, .ref f0), (1, .ref f1), (3, .int f3), (4, .int f4)] → sj_H G s w H locs → E w → W p l e rm_X5_alikeIsTrue s m args below meth c H locs 0 0 (sj_MQ G below (va_Qi Q (sj_B G) (sj_F G)) QX args s rm_X5_alikeIsTrue) (F0 m 90 ls [])) : ∀ (n : Nat) (v5 : Int32) (w : sj_W) (H : Heap) (locs : List Loc) (ls : Array Slot), lv_has ls 7 [(0, .ref f0), (1, .ref f1), (3, .int f3), (4, .int f4), (5, .int v5)] → sj_H G s w H locs → sj_lp1 (vb_X5_alikeIsTrue_59 f0 f1 f3 f4 Q E) n v5 w → W p l e rm_X5_alikeIsTrue s m args below meth c H locs 0 0 (sj_MQ G below (va_Qi Q (sj_B G) (sj_F G)) QX args s rm_X5_alikeIsTrue) (F0 m 59 ls []) := by
  have hx := hC.1
  have hb := hC.2.1
  intro n
  induction n with
  | zero =>
    intro v5 w H locs ls _ _ hv
    exact hv.elim
  | succ n ih =>
    intro v5 w H locs ls hl hH hv
    have hv : vb_X5_alikeIsTrue_59 f0 f1 f3 f4 Q E (sj_lp1 (vb_X5_alikeIsTrue_59 f0 f1 f3 f4 Q E) n) v5 w := hv
    have hc1 : rm_X5_alikeIsTrue.cells = 0 := rfl
    have hc2 : rm_X5_alikeIsTrue.slots = 0 := rfl
    refine lv_iload hx hb dX5_alikeIsTrue_59 (lv_at hl 4 rfl) ?_
    refine lv_iload hx hb dX5_alikeIsTrue_61 (lv_at hl 3 rfl) ?_
    refine lv_icmp_ge (tgt := 90) hx hb dX5_alikeIsTrue_63 (by decide) (fun hc => ?_) (fun hc => ?_)
    · have hv34 := hv.1 hc
      exact hE  w _ _ _ (lv_sub hl [0, 1, 2, 3] rfl) hH hv34
    · have hv35 := hv.2 hc
      refine lv_aload_n hx hb dX5_alikeIsTrue_66 rfl (lv_at hl 0 rfl) ?_
      refine lv_iload hx hb dX5_alikeIsTrue_67 (lv_at hl 4 rfl) ?_
      refine cl_X5_45 hC hD hH hv35.2 hv35.1 ⟨Nat.le_of_ble_eq_true rfl, Nat.le_of_ble_eq_true rfl⟩ ⟨(Nat.le_of_ble_eq_true rfl), (Nat.le_of_ble_eq_true rfl)⟩ ⟨(Nat.le_of_ble_eq_true rfl), (Nat.le_of_ble_eq_true rfl)⟩ hl.1 (Nat.le_of_ble_eq_true rfl) dX5_alikeIsTrue_69 (fun r36 w37 H locs hH hv38 => ?_)
      refine lv_aload_n hx hb dX5_alikeIsTrue_72 rfl (lv_at hl 1 rfl) ?_
      refine lv_iload hx hb dX5_alikeIsTrue_73 (lv_at hl 4 rfl) ?_
      refine cl_X5_45 hC hD hH hv38.2 hv38.1 ⟨Nat.le_of_ble_eq_true rfl, Nat.le_of_ble_eq_true rfl⟩ ⟨(Nat.le_of_ble_eq_true rfl), (Nat.le_of_ble_eq_true rfl)⟩ ⟨(Nat.le_of_ble_eq_true rfl), (Nat.le_of_ble_eq_true rfl)⟩ hl.1 (Nat.le_of_ble_eq_true rfl) dX5_alikeIsTrue_75 (fun r39 w40 H locs hH hv41 => ?_)
      refine W.lcmp hx hb dX5_alikeIsTrue_78 ?_
      refine lv_if_eq (tgt := 84) hx hb dX5_alikeIsTrue_79 (by decide) (fun hc => ?_) (fun hc => ?_)
      · have hv42 := hv41.1 hc
        refine lv_iinc (v := (v5 + 1)) (lv' := [(5, .int (v5 + 1)), (0, .ref f0), (1, .ref f1), (3, .int f3), (4, .int f4)]) hx hb dX5_alikeIsTrue_84 hl (k := 4) rfl rfl (by decide) rfl (fun ls hl => ?_)
        refine lv_goto (tgt := 59) hx hb dX5_alikeIsTrue_87 (by decide) ?_
        exact ih (v5 + 1) w40 _ _ _ (lv_sub hl [1, 2, 3, 4, 0] rfl) hH hv42
      · have hv43 := hv41.2 hc
        refine lv_iconst (v := 0) hx hb dX5_alikeIsTrue_82 (by decide) ?_
        exact sj_retI hC hD.2 hH hr rfl hv43 ⟨(Nat.le_of_ble_eq_true rfl), (Nat.le_of_ble_eq_true rfl)⟩ dX5_alikeIsTrue_83
set_option maxHeartbeats 4000000 in
set_option maxRecDepth 100000 in
theorem wk_X5_alikeIsTrue (G : sj_G) (l : Launch) (hlt : l.stackTraces = false) (a1 : Nat) (a2 : Nat) (w : sj_W) (Q : Int32 → sj_W → Prop) (QX : String → sj_W → Prop) (hv : vc_X5_alikeIsTrue a1 a2 w Q) : sj_MI G l yX5_alikeIsTrue (sj_ws yX5_alikeIsTrue cX5_alikeIsTrue 7 (some .boolean)) rm_X5_alikeIsTrue [.ref a1, .ref a2] w Q QX := by
  refine sj_of (by decide +kernel) (Nat.le_of_ble_eq_true rfl) hlt ?_
  intro p e s m args below meth c ls hC hD hr hin hH hl
  have hx := hC.1
  have hb := hC.2.1
  have hl : lv_has ls 7 [(0, .ref a1), (1, .ref a2)] := hl
  refine lv_aload_n hx hb dX5_alikeIsTrue_0 rfl (lv_at hl 0 rfl) ?_
  refine lv_aload_n hx hb dX5_alikeIsTrue_1 rfl (lv_at hl 1 rfl) ?_
  refine cl_X5_37 hC hD hH hv ⟨Nat.le_of_ble_eq_true rfl, Nat.le_of_ble_eq_true rfl⟩ ⟨(Nat.le_of_ble_eq_true rfl), (Nat.le_of_ble_eq_true rfl)⟩ ⟨(Nat.le_of_ble_eq_true rfl), (Nat.le_of_ble_eq_true rfl)⟩ hl.1 (Nat.le_of_ble_eq_true rfl) dX5_alikeIsTrue_2 (fun r1 w2 H locs hH hv3 => ?_)
  refine lv_istore_n (lv' := [(2, .int r1), (0, .ref a1), (1, .ref a2)]) hx hb dX5_alikeIsTrue_5 rfl hl (by decide) rfl (fun ls hl => ?_)
  refine lv_iload_n hx hb dX5_alikeIsTrue_6 rfl (lv_at hl 0 rfl) ?_
  refine lv_iconst (v := (-1)) hx hb dX5_alikeIsTrue_7 (by decide) ?_
  obtain ⟨E4, hE5, hv8⟩ := sj_jn1_e hv3
  have hJ6 : ∀ (y0_16 : Int32) (w_16 : sj_W) (H : Heap) (locs : List Loc) (ls : Array Slot), lv_has ls 7 [(0, .ref a1), (1, .ref a2), (2, .int r1)] → sj_H G s w_16 H locs → E4 y0_16 w_16 → W p l e rm_X5_alikeIsTrue s m args below meth c H locs 0 0 (sj_MQ G below (va_Qi Q (sj_B G) (sj_F G)) QX args s rm_X5_alikeIsTrue) (F0 m 16 ls [.int y0_16]) := by
    intro y0_16 w_16 H locs ls hl hH hv9
    rw [hE5] at hv9
    refine lv_istore_n (lv' := [(3, .int y0_16), (0, .ref a1), (1, .ref a2), (2, .int r1)]) hx hb dX5_alikeIsTrue_16 rfl hl (by decide) rfl (fun ls hl => ?_)
    refine lv_iload_n hx hb dX5_alikeIsTrue_17 rfl (lv_at hl 0 rfl) ?_
    obtain ⟨E12, hE13, hv16⟩ := sj_jn1_e hv9
    have hJ14 : ∀ (y0_29 : Int32) (w_29 : sj_W) (H : Heap) (locs : List Loc) (ls : Array Slot), lv_has ls 7 [(0, .ref a1), (1, .ref a2), (3, .int y0_16)] → sj_H G s w_29 H locs → E12 y0_29 w_29 → W p l e rm_X5_alikeIsTrue s m args below meth c H locs 0 0 (sj_MQ G below (va_Qi Q (sj_B G) (sj_F G)) QX args s rm_X5_alikeIsTrue) (F0 m 29 ls [.int y0_29]) := by
      intro y0_29 w_29 H locs ls hl hH hv17
      rw [hE13] at hv17
      refine lv_istore (lv' := [(4, .int y0_29), (0, .ref a1), (1, .ref a2), (3, .int y0_16)]) hx hb dX5_alikeIsTrue_29 hl (by decide) rfl (fun ls hl => ?_)
      refine lv_iload hx hb dX5_alikeIsTrue_31 (lv_at hl 0 rfl) ?_
      refine lv_if_lt (tgt := 54) hx hb dX5_alikeIsTrue_33 (by decide) (fun hc => ?_) (fun hc => ?_)
      · have hv23 := hv17.1 hc
        refine lv_iconst (v := 0) hx hb dX5_alikeIsTrue_54 (by decide) ?_
        exact sj_retI hC hD.2 hH hr rfl hv23 ⟨(Nat.le_of_ble_eq_true rfl), (Nat.le_of_ble_eq_true rfl)⟩ dX5_alikeIsTrue_55
      · have hv24 := hv17.2 hc
        refine lv_iload hx hb dX5_alikeIsTrue_36 (lv_at hl 0 rfl) ?_
        refine lv_aload_n hx hb dX5_alikeIsTrue_38 rfl (lv_at hl 1 rfl) ?_
        refine cl_X5_41 hC hD hH hv24.2 hv24.1 ⟨Nat.le_of_ble_eq_true rfl, Nat.le_of_ble_eq_true rfl⟩ ⟨(Nat.le_of_ble_eq_true rfl), (Nat.le_of_ble_eq_true rfl)⟩ ⟨(Nat.le_of_ble_eq_true rfl), (Nat.le_of_ble_eq_true rfl)⟩ hl.1 (Nat.le_of_ble_eq_true rfl) dX5_alikeIsTrue_39 (fun r25 w26 H locs hH hv27 => ?_)
        refine lv_icmp_gt (tgt := 54) hx hb dX5_alikeIsTrue_42 (by decide) (fun hc => ?_) (fun hc => ?_)
        · have hv28 := hv27.1 hc
          refine lv_iconst (v := 0) hx hb dX5_alikeIsTrue_54 (by decide) ?_
          exact sj_retI hC hD.2 hH hr rfl hv28 ⟨(Nat.le_of_ble_eq_true rfl), (Nat.le_of_ble_eq_true rfl)⟩ dX5_alikeIsTrue_55
        · have hv29 := hv27.2 hc
          refine lv_iload hx hb dX5_alikeIsTrue_45 (lv_at hl 0 rfl) ?_
          refine lv_aload_n hx hb dX5_alikeIsTrue_47 rfl (lv_at hl 2 rfl) ?_
          refine cl_X5_41 hC hD hH hv29.2 hv29.1 ⟨Nat.le_of_ble_eq_true rfl, Nat.le_of_ble_eq_true rfl⟩ ⟨(Nat.le_of_ble_eq_true rfl), (Nat.le_of_ble_eq_true rfl)⟩ ⟨(Nat.le_of_ble_eq_true rfl), (Nat.le_of_ble_eq_true rfl)⟩ hl.1 (Nat.le_of_ble_eq_true rfl) dX5_alikeIsTrue_48 (fun r30 w31 H locs hH hv32 => ?_)
          refine lv_icmp_le (tgt := 56) hx hb dX5_alikeIsTrue_51 (by decide) (fun hc => ?_) (fun hc => ?_)
          · have hv33 := hv32.1 hc
            refine lv_iconst (v := 0) hx hb dX5_alikeIsTrue_56 (by decide) ?_
            refine lv_istore (lv' := [(5, .int 0), (4, .int y0_29), (0, .ref a1), (1, .ref a2), (3, .int y0_16)]) hx hb dX5_alikeIsTrue_57 hl (by decide) rfl (fun ls hl => ?_)
            refine wl_X5_alikeIsTrue_59 hC hD hr hin (fun w_59 H locs ls hl hH hv44 => ?_) 64 0 w31 _ _ _ (lv_sub hl [2, 3, 4, 1, 0] rfl) hH hv33
            refine lv_iload hx hb dX5_alikeIsTrue_90 (lv_at hl 3 rfl) ?_
            refine lv_aload_n hx hb dX5_alikeIsTrue_92 rfl (lv_at hl 0 rfl) ?_
            refine cl_X5_41 hC hD hH hv44.2 hv44.1 ⟨Nat.le_of_ble_eq_true rfl, Nat.le_of_ble_eq_true rfl⟩ ⟨(Nat.le_of_ble_eq_true rfl), (Nat.le_of_ble_eq_true rfl)⟩ ⟨(Nat.le_of_ble_eq_true rfl), (Nat.le_of_ble_eq_true rfl)⟩ hl.1 (Nat.le_of_ble_eq_true rfl) dX5_alikeIsTrue_93 (fun r45 w46 H locs hH hv47 => ?_)
            obtain ⟨E48, hE49, hv52⟩ := sj_jn1_e hv47
            have hJ50 : ∀ (y0_113 : Int32) (w_113 : sj_W) (H : Heap) (locs : List Loc) (ls : Array Slot), lv_has ls 7 [(0, .ref a1), (1, .ref a2), (3, .int y0_16), (4, .int y0_29)] → sj_H G s w_113 H locs → E48 y0_113 w_113 → W p l e rm_X5_alikeIsTrue s m args below meth c H locs 0 0 (sj_MQ G below (va_Qi Q (sj_B G) (sj_F G)) QX args s rm_X5_alikeIsTrue) (F0 m 113 ls [.int y0_113]) := by
              intro y0_113 w_113 H locs ls hl hH hv53
              rw [hE49] at hv53
              refine lv_istore (lv' := [(5, .int y0_113), (0, .ref a1), (1, .ref a2), (3, .int y0_16), (4, .int y0_29)]) hx hb dX5_alikeIsTrue_113 hl (by decide) rfl (fun ls hl => ?_)
              refine lv_iload hx hb dX5_alikeIsTrue_115 (lv_at hl 4 rfl) ?_
              refine lv_aload_n hx hb dX5_alikeIsTrue_117 rfl (lv_at hl 1 rfl) ?_
              refine cl_X5_41 hC hD hH hv53.2 hv53.1 ⟨Nat.le_of_ble_eq_true rfl, Nat.le_of_ble_eq_true rfl⟩ ⟨(Nat.le_of_ble_eq_true rfl), (Nat.le_of_ble_eq_true rfl)⟩ ⟨(Nat.le_of_ble_eq_true rfl), (Nat.le_of_ble_eq_true rfl)⟩ hl.1 (Nat.le_of_ble_eq_true rfl) dX5_alikeIsTrue_118 (fun r61 w62 H locs hH hv63 => ?_)
              obtain ⟨E64, hE65, hv68⟩ := sj_jn1_e hv63
              have hJ66 : ∀ (y0_138 : Int32) (w_138 : sj_W) (H : Heap) (locs : List Loc) (ls : Array Slot), lv_has ls 7 [(0, .ref a1), (1, .ref a2), (3, .int y0_16), (4, .int y0_29), (5, .int y0_113)] → sj_H G s w_138 H locs → E64 y0_138 w_138 → W p l e rm_X5_alikeIsTrue s m args below meth c H locs 0 0 (sj_MQ G below (va_Qi Q (sj_B G) (sj_F G)) QX args s rm_X5_alikeIsTrue) (F0 m 138 ls [.int y0_138]) := by
                intro y0_138 w_138 H locs ls hl hH hv69
                rw [hE65] at hv69
                refine lv_istore (lv' := [(6, .int y0_138), (0, .ref a1), (1, .ref a2), (3, .int y0_16), (4, .int y0_29), (5, .int y0_113)]) hx hb dX5_alikeIsTrue_138 hl (by decide) rfl (fun ls hl => ?_)
                refine lv_iload hx hb dX5_alikeIsTrue_140 (lv_at hl 5 rfl) ?_
                refine lv_if_eq (tgt := 161) hx hb dX5_alikeIsTrue_142 (by decide) (fun hc => ?_) (fun hc => ?_)
                · have hv77 := hv69.1 hc
                  refine lv_iload_n hx hb dX5_alikeIsTrue_161 rfl (lv_at hl 3 rfl) ?_
                  refine lv_iload hx hb dX5_alikeIsTrue_162 (lv_at hl 0 rfl) ?_
                  refine lv_icmp_ne (tgt := 216) hx hb dX5_alikeIsTrue_164 (by decide) (fun hc => ?_) (fun hc => ?_)
                  · have hv78 := hv77.1 hc
                    refine lv_iconst (v := 0) hx hb dX5_alikeIsTrue_216 (by decide) ?_
                    exact sj_retI hC hD.2 hH hr rfl hv78 ⟨(Nat.le_of_ble_eq_true rfl), (Nat.le_of_ble_eq_true rfl)⟩ dX5_alikeIsTrue_217
                  · have hv79 := hv77.2 hc
                    refine lv_iload_n hx hb dX5_alikeIsTrue_167 rfl (lv_at hl 3 rfl) ?_
                    refine lv_aload_n hx hb dX5_alikeIsTrue_168 rfl (lv_at hl 1 rfl) ?_
                    refine lv_aload_n hx hb dX5_alikeIsTrue_169 rfl (lv_at hl 2 rfl) ?_
                    refine cl_X5_49 hC hD hH hv79 ⟨Nat.le_of_ble_eq_true rfl, Nat.le_of_ble_eq_true rfl⟩ ⟨(Nat.le_of_ble_eq_true rfl), (Nat.le_of_ble_eq_true rfl)⟩ ⟨(Nat.le_of_ble_eq_true rfl), (Nat.le_of_ble_eq_true rfl)⟩ hl.1 (Nat.le_of_ble_eq_true rfl) dX5_alikeIsTrue_170 (fun r80 w81 H locs hH hv82 => ?_)
                    refine lv_icmp_ne (tgt := 216) hx hb dX5_alikeIsTrue_173 (by decide) (fun hc => ?_) (fun hc => ?_)
                    · have hv83 := hv82.1 hc
                      refine lv_iconst (v := 0) hx hb dX5_alikeIsTrue_216 (by decide) ?_
                      exact sj_retI hC hD.2 hH hr rfl hv83 ⟨(Nat.le_of_ble_eq_true rfl), (Nat.le_of_ble_eq_true rfl)⟩ dX5_alikeIsTrue_217
                    · have hv84 := hv82.2 hc
                      refine lv_iload_n hx hb dX5_alikeIsTrue_176 rfl (lv_at hl 3 rfl) ?_
                      refine lv_aload_n hx hb dX5_alikeIsTrue_177 rfl (lv_at hl 1 rfl) ?_
                      refine lv_aload_n hx hb dX5_alikeIsTrue_178 rfl (lv_at hl 2 rfl) ?_
                      refine lv_iconst (v := 0) hx hb dX5_alikeIsTrue_179 (by decide) ?_
                      refine cl_X5_52 hC hD hH hv84 ⟨Nat.le_of_ble_eq_true rfl, Nat.le_of_ble_eq_true rfl⟩ ⟨(Nat.le_of_ble_eq_true rfl), (Nat.le_of_ble_eq_true rfl)⟩ ⟨(Nat.le_of_ble_eq_true rfl), (Nat.le_of_ble_eq_true rfl)⟩ hl.1 (Nat.le_of_ble_eq_true rfl) dX5_alikeIsTrue_180 (fun r85 w86 H locs hH hv87 => ?_)
                      obtain ⟨E88, hE89, hv92⟩ := sj_jn2_e hv87
                      have hJ90 : ∀ (y0_191 : Int32) (y1_191 : Int32) (w_191 : sj_W) (H : Heap) (locs : List Loc) (ls : Array Slot), lv_has ls 7 [(0, .ref a1), (1, .ref a2), (3, .int y0_16)] → sj_H G s w_191 H locs → E88 y0_191 y1_191 w_191 → W p l e rm_X5_alikeIsTrue s m args below meth c H locs 0 0 (sj_MQ G below (va_Qi Q (sj_B G) (sj_F G)) QX args s rm_X5_alikeIsTrue) (F0 m 191 ls [.int y0_191, .int y1_191]) := by
                        intro y0_191 y1_191 w_191 H locs ls hl hH hv93
                        rw [hE89] at hv93
                        refine lv_icmp_ne (tgt := 216) hx hb dX5_alikeIsTrue_191 (by decide) (fun hc => ?_) (fun hc => ?_)
                        · have hv96 := hv93.1 hc
                          refine lv_iconst (v := 0) hx hb dX5_alikeIsTrue_216 (by decide) ?_
                          exact sj_retI hC hD.2 hH hr rfl hv96 ⟨(Nat.le_of_ble_eq_true rfl), (Nat.le_of_ble_eq_true rfl)⟩ dX5_alikeIsTrue_217
                        · have hv97 := hv93.2 hc
                          refine lv_iload_n hx hb dX5_alikeIsTrue_194 rfl (lv_at hl 2 rfl) ?_
                          refine lv_aload_n hx hb dX5_alikeIsTrue_195 rfl (lv_at hl 0 rfl) ?_
                          refine lv_aload_n hx hb dX5_alikeIsTrue_196 rfl (lv_at hl 1 rfl) ?_
                          refine lv_iconst (v := 1) hx hb dX5_alikeIsTrue_197 (by decide) ?_
                          refine cl_X5_52 hC hD hH hv97 ⟨Nat.le_of_ble_eq_true rfl, Nat.le_of_ble_eq_true rfl⟩ ⟨(Nat.le_of_ble_eq_true rfl), (Nat.le_of_ble_eq_true rfl)⟩ ⟨(Nat.le_of_ble_eq_true rfl), (Nat.le_of_ble_eq_true rfl)⟩ hl.1 (Nat.le_of_ble_eq_true rfl) dX5_alikeIsTrue_198 (fun r98 w99 H locs hH hv100 => ?_)
                          obtain ⟨E101, hE102, hv105⟩ := sj_jn2_e hv100
                          have hJ103 : ∀ (y0_209 : Int32) (y1_209 : Int32) (w_209 : sj_W) (H : Heap) (locs : List Loc) (ls : Array Slot), lv_has ls 7 [] → sj_H G s w_209 H locs → E101 y0_209 y1_209 w_209 → W p l e rm_X5_alikeIsTrue s m args below meth c H locs 0 0 (sj_MQ G below (va_Qi Q (sj_B G) (sj_F G)) QX args s rm_X5_alikeIsTrue) (F0 m 209 ls [.int y0_209, .int y1_209]) := by
                            intro y0_209 y1_209 w_209 H locs ls hl hH hv106
                            rw [hE102] at hv106
                            refine lv_icmp_ne (tgt := 216) hx hb dX5_alikeIsTrue_209 (by decide) (fun hc => ?_) (fun hc => ?_)
                            · have hv109 := hv106.1 hc
                              refine lv_iconst (v := 0) hx hb dX5_alikeIsTrue_216 (by decide) ?_
                              exact sj_retI hC hD.2 hH hr rfl hv109 ⟨(Nat.le_of_ble_eq_true rfl), (Nat.le_of_ble_eq_true rfl)⟩ dX5_alikeIsTrue_217
                            · have hv110 := hv106.2 hc
                              refine lv_iconst (v := 1) hx hb dX5_alikeIsTrue_212 (by decide) ?_
                              refine lv_goto (tgt := 217) hx hb dX5_alikeIsTrue_213 (by decide) ?_
                              exact sj_retI hC hD.2 hH hr rfl hv110 ⟨(Nat.le_of_ble_eq_true rfl), (Nat.le_of_ble_eq_true rfl)⟩ dX5_alikeIsTrue_217
                          clear hE102
                          refine lv_if_ne (tgt := 208) hx hb dX5_alikeIsTrue_201 (by decide) (fun hc => ?_) (fun hc => ?_)
                          · have hv107 := hv105.1 hc
                            refine lv_iconst (v := 0) hx hb dX5_alikeIsTrue_208 (by decide) ?_
                            exact hJ103 0 y0_16 w99 _ _ _ (lv_sub hl [] rfl) hH hv107
                          · have hv108 := hv105.2 hc
                            refine lv_iconst (v := 1) hx hb dX5_alikeIsTrue_204 (by decide) ?_
                            refine lv_goto (tgt := 209) hx hb dX5_alikeIsTrue_205 (by decide) ?_
                            exact hJ103 1 y0_16 w99 _ _ _ (lv_sub hl [] rfl) hH hv108
                      clear hE89
                      refine lv_if_ne (tgt := 190) hx hb dX5_alikeIsTrue_183 (by decide) (fun hc => ?_) (fun hc => ?_)
                      · have hv94 := hv92.1 hc
                        refine lv_iconst (v := 0) hx hb dX5_alikeIsTrue_190 (by decide) ?_
                        exact hJ90 0 y0_16 w86 _ _ _ (lv_sub hl [1, 2, 3] rfl) hH hv94
                      · have hv95 := hv92.2 hc
                        refine lv_iconst (v := 1) hx hb dX5_alikeIsTrue_186 (by decide) ?_
                        refine lv_goto (tgt := 191) hx hb dX5_alikeIsTrue_187 (by decide) ?_
                        exact hJ90 1 y0_16 w86 _ _ _ (lv_sub hl [1, 2, 3] rfl) hH hv95
                · have hv111 := hv69.2 hc
                  refine lv_aload_n hx hb dX5_alikeIsTrue_145 rfl (lv_at hl 1 rfl) ?_
                  refine lv_iload hx hb dX5_alikeIsTrue_146 (lv_at hl 4 rfl) ?_
                  refine cl_X5_45 hC hD hH hv111.2 hv111.1 ⟨Nat.le_of_ble_eq_true rfl, Nat.le_of_ble_eq_true rfl⟩ ⟨(Nat.le_of_ble_eq_true rfl), (Nat.le_of_ble_eq_true rfl)⟩ ⟨(Nat.le_of_ble_eq_true rfl), (Nat.le_of_ble_eq_true rfl)⟩ hl.1 (Nat.le_of_ble_eq_true rfl) dX5_alikeIsTrue_148 (fun r112 w113 H locs hH hv114 => ?_)
                  refine lv_aload_n hx hb dX5_alikeIsTrue_151 rfl (lv_at hl 2 rfl) ?_
                  refine lv_iload hx hb dX5_alikeIsTrue_152 (lv_at hl 4 rfl) ?_
                  refine cl_X5_45 hC hD hH hv114.2 hv114.1 ⟨Nat.le_of_ble_eq_true rfl, Nat.le_of_ble_eq_true rfl⟩ ⟨(Nat.le_of_ble_eq_true rfl), (Nat.le_of_ble_eq_true rfl)⟩ ⟨(Nat.le_of_ble_eq_true rfl), (Nat.le_of_ble_eq_true rfl)⟩ hl.1 (Nat.le_of_ble_eq_true rfl) dX5_alikeIsTrue_154 (fun r115 w116 H locs hH hv117 => ?_)
                  refine W.lcmp hx hb dX5_alikeIsTrue_157 ?_
                  refine lv_if_eq (tgt := 216) hx hb dX5_alikeIsTrue_158 (by decide) (fun hc => ?_) (fun hc => ?_)
                  · have hv118 := hv117.1 hc
                    refine lv_iconst (v := 0) hx hb dX5_alikeIsTrue_216 (by decide) ?_
                    exact sj_retI hC hD.2 hH hr rfl hv118 ⟨(Nat.le_of_ble_eq_true rfl), (Nat.le_of_ble_eq_true rfl)⟩ dX5_alikeIsTrue_217
                  · have hv119 := hv117.2 hc
                    refine lv_iload_n hx hb dX5_alikeIsTrue_161 rfl (lv_at hl 3 rfl) ?_
                    refine lv_iload hx hb dX5_alikeIsTrue_162 (lv_at hl 0 rfl) ?_
                    refine lv_icmp_ne (tgt := 216) hx hb dX5_alikeIsTrue_164 (by decide) (fun hc => ?_) (fun hc => ?_)
                    · have hv120 := hv119.1 hc
                      refine lv_iconst (v := 0) hx hb dX5_alikeIsTrue_216 (by decide) ?_
                      exact sj_retI hC hD.2 hH hr rfl hv120 ⟨(Nat.le_of_ble_eq_true rfl), (Nat.le_of_ble_eq_true rfl)⟩ dX5_alikeIsTrue_217
                    · have hv121 := hv119.2 hc
                      refine lv_iload_n hx hb dX5_alikeIsTrue_167 rfl (lv_at hl 3 rfl) ?_
                      refine lv_aload_n hx hb dX5_alikeIsTrue_168 rfl (lv_at hl 1 rfl) ?_
                      refine lv_aload_n hx hb dX5_alikeIsTrue_169 rfl (lv_at hl 2 rfl) ?_
                      refine cl_X5_49 hC hD hH hv121 ⟨Nat.le_of_ble_eq_true rfl, Nat.le_of_ble_eq_true rfl⟩ ⟨(Nat.le_of_ble_eq_true rfl), (Nat.le_of_ble_eq_true rfl)⟩ ⟨(Nat.le_of_ble_eq_true rfl), (Nat.le_of_ble_eq_true rfl)⟩ hl.1 (Nat.le_of_ble_eq_true rfl) dX5_alikeIsTrue_170 (fun r122 w123 H locs hH hv124 => ?_)
                      refine lv_icmp_ne (tgt := 216) hx hb dX5_alikeIsTrue_173 (by decide) (fun hc => ?_) (fun hc => ?_)
                      · have hv125 := hv124.1 hc
                        refine lv_iconst (v := 0) hx hb dX5_alikeIsTrue_216 (by decide) ?_
                        exact sj_retI hC hD.2 hH hr rfl hv125 ⟨(Nat.le_of_ble_eq_true rfl), (Nat.le_of_ble_eq_true rfl)⟩ dX5_alikeIsTrue_217
                      · have hv126 := hv124.2 hc
                        refine lv_iload_n hx hb dX5_alikeIsTrue_176 rfl (lv_at hl 3 rfl) ?_
                        refine lv_aload_n hx hb dX5_alikeIsTrue_177 rfl (lv_at hl 1 rfl) ?_
                        refine lv_aload_n hx hb dX5_alikeIsTrue_178 rfl (lv_at hl 2 rfl) ?_
                        refine lv_iconst (v := 0) hx hb dX5_alikeIsTrue_179 (by decide) ?_
                        refine cl_X5_52 hC hD hH hv126 ⟨Nat.le_of_ble_eq_true rfl, Nat.le_of_ble_eq_true rfl⟩ ⟨(Nat.le_of_ble_eq_true rfl), (Nat.le_of_ble_eq_true rfl)⟩ ⟨(Nat.le_of_ble_eq_true rfl), (Nat.le_of_ble_eq_true rfl)⟩ hl.1 (Nat.le_of_ble_eq_true rfl) dX5_alikeIsTrue_180 (fun r127 w128 H locs hH hv129 => ?_)
                        obtain ⟨E130, hE131, hv134⟩ := sj_jn2_e hv129
                        have hJ132 : ∀ (y0_191 : Int32) (y1_191 : Int32) (w_191 : sj_W) (H : Heap) (locs : List Loc) (ls : Array Slot), lv_has ls 7 [(0, .ref a1), (1, .ref a2), (3, .int y0_16)] → sj_H G s w_191 H locs → E130 y0_191 y1_191 w_191 → W p l e rm_X5_alikeIsTrue s m args below meth c H locs 0 0 (sj_MQ G below (va_Qi Q (sj_B G) (sj_F G)) QX args s rm_X5_alikeIsTrue) (F0 m 191 ls [.int y0_191, .int y1_191]) := by
                          intro y0_191 y1_191 w_191 H locs ls hl hH hv135
                          rw [hE131] at hv135
                          refine lv_icmp_ne (tgt := 216) hx hb dX5_alikeIsTrue_191 (by decide) (fun hc => ?_) (fun hc => ?_)
                          · have hv138 := hv135.1 hc
                            refine lv_iconst (v := 0) hx hb dX5_alikeIsTrue_216 (by decide) ?_
                            exact sj_retI hC hD.2 hH hr rfl hv138 ⟨(Nat.le_of_ble_eq_true rfl), (Nat.le_of_ble_eq_true rfl)⟩ dX5_alikeIsTrue_217
                          · have hv139 := hv135.2 hc
                            refine lv_iload_n hx hb dX5_alikeIsTrue_194 rfl (lv_at hl 2 rfl) ?_
                            refine lv_aload_n hx hb dX5_alikeIsTrue_195 rfl (lv_at hl 0 rfl) ?_
                            refine lv_aload_n hx hb dX5_alikeIsTrue_196 rfl (lv_at hl 1 rfl) ?_
                            refine lv_iconst (v := 1) hx hb dX5_alikeIsTrue_197 (by decide) ?_
                            refine cl_X5_52 hC hD hH hv139 ⟨Nat.le_of_ble_eq_true rfl, Nat.le_of_ble_eq_true rfl⟩ ⟨(Nat.le_of_ble_eq_true rfl), (Nat.le_of_ble_eq_true rfl)⟩ ⟨(Nat.le_of_ble_eq_true rfl), (Nat.le_of_ble_eq_true rfl)⟩ hl.1 (Nat.le_of_ble_eq_true rfl) dX5_alikeIsTrue_198 (fun r140 w141 H locs hH hv142 => ?_)
                            obtain ⟨E143, hE144, hv147⟩ := sj_jn2_e hv142
                            have hJ145 : ∀ (y0_209 : Int32) (y1_209 : Int32) (w_209 : sj_W) (H : Heap) (locs : List Loc) (ls : Array Slot), lv_has ls 7 [] → sj_H G s w_209 H locs → E143 y0_209 y1_209 w_209 → W p l e rm_X5_alikeIsTrue s m args below meth c H locs 0 0 (sj_MQ G below (va_Qi Q (sj_B G) (sj_F G)) QX args s rm_X5_alikeIsTrue) (F0 m 209 ls [.int y0_209, .int y1_209]) := by
                              intro y0_209 y1_209 w_209 H locs ls hl hH hv148
                              rw [hE144] at hv148
                              refine lv_icmp_ne (tgt := 216) hx hb dX5_alikeIsTrue_209 (by decide) (fun hc => ?_) (fun hc => ?_)
                              · have hv151 := hv148.1 hc
                                refine lv_iconst (v := 0) hx hb dX5_alikeIsTrue_216 (by decide) ?_
                                exact sj_retI hC hD.2 hH hr rfl hv151 ⟨(Nat.le_of_ble_eq_true rfl), (Nat.le_of_ble_eq_true rfl)⟩ dX5_alikeIsTrue_217
                              · have hv152 := hv148.2 hc
                                refine lv_iconst (v := 1) hx hb dX5_alikeIsTrue_212 (by decide) ?_
                                refine lv_goto (tgt := 217) hx hb dX5_alikeIsTrue_213 (by decide) ?_
                                exact sj_retI hC hD.2 hH hr rfl hv152 ⟨(Nat.le_of_ble_eq_true rfl), (Nat.le_of_ble_eq_true rfl)⟩ dX5_alikeIsTrue_217
                            clear hE144
                            refine lv_if_ne (tgt := 208) hx hb dX5_alikeIsTrue_201 (by decide) (fun hc => ?_) (fun hc => ?_)
                            · have hv149 := hv147.1 hc
                              refine lv_iconst (v := 0) hx hb dX5_alikeIsTrue_208 (by decide) ?_
                              exact hJ145 0 y0_16 w141 _ _ _ (lv_sub hl [] rfl) hH hv149
                            · have hv150 := hv147.2 hc
                              refine lv_iconst (v := 1) hx hb dX5_alikeIsTrue_204 (by decide) ?_
                              refine lv_goto (tgt := 209) hx hb dX5_alikeIsTrue_205 (by decide) ?_
                              exact hJ145 1 y0_16 w141 _ _ _ (lv_sub hl [] rfl) hH hv150
                        clear hE131
                        refine lv_if_ne (tgt := 190) hx hb dX5_alikeIsTrue_183 (by decide) (fun hc => ?_) (fun hc => ?_)
                        · have hv136 := hv134.1 hc
                          refine lv_iconst (v := 0) hx hb dX5_alikeIsTrue_190 (by decide) ?_
                          exact hJ132 0 y0_16 w128 _ _ _ (lv_sub hl [1, 2, 3] rfl) hH hv136
                        · have hv137 := hv134.2 hc
                          refine lv_iconst (v := 1) hx hb dX5_alikeIsTrue_186 (by decide) ?_
                          refine lv_goto (tgt := 191) hx hb dX5_alikeIsTrue_187 (by decide) ?_
                          exact hJ132 1 y0_16 w128 _ _ _ (lv_sub hl [1, 2, 3] rfl) hH hv137
              clear hE65
              refine lv_icmp_ne (tgt := 137) hx hb dX5_alikeIsTrue_121 (by decide) (fun hc => ?_) (fun hc => ?_)
              · have hv70 := hv68.1 hc
                refine lv_iconst (v := 0) hx hb dX5_alikeIsTrue_137 (by decide) ?_
                exact hJ66 0 w62 _ _ _ (lv_sub hl [1, 2, 3, 4, 0] rfl) hH hv70
              · have hv71 := hv68.2 hc
                refine lv_iload hx hb dX5_alikeIsTrue_124 (lv_at hl 4 rfl) ?_
                refine lv_aload_n hx hb dX5_alikeIsTrue_126 rfl (lv_at hl 2 rfl) ?_
                refine cl_X5_41 hC hD hH hv71.2 hv71.1 ⟨Nat.le_of_ble_eq_true rfl, Nat.le_of_ble_eq_true rfl⟩ ⟨(Nat.le_of_ble_eq_true rfl), (Nat.le_of_ble_eq_true rfl)⟩ ⟨(Nat.le_of_ble_eq_true rfl), (Nat.le_of_ble_eq_true rfl)⟩ hl.1 (Nat.le_of_ble_eq_true rfl) dX5_alikeIsTrue_127 (fun r72 w73 H locs hH hv74 => ?_)
                refine lv_icmp_ne (tgt := 137) hx hb dX5_alikeIsTrue_130 (by decide) (fun hc => ?_) (fun hc => ?_)
                · have hv75 := hv74.1 hc
                  refine lv_iconst (v := 0) hx hb dX5_alikeIsTrue_137 (by decide) ?_
                  exact hJ66 0 w73 _ _ _ (lv_sub hl [1, 2, 3, 4, 0] rfl) hH hv75
                · have hv76 := hv74.2 hc
                  refine lv_iconst (v := 1) hx hb dX5_alikeIsTrue_133 (by decide) ?_
                  refine lv_goto (tgt := 138) hx hb dX5_alikeIsTrue_134 (by decide) ?_
                  exact hJ66 1 w73 _ _ _ (lv_sub hl [1, 2, 3, 4, 0] rfl) hH hv76
            clear hE49
            refine lv_icmp_ge (tgt := 112) hx hb dX5_alikeIsTrue_96 (by decide) (fun hc => ?_) (fun hc => ?_)
            · have hv54 := hv52.1 hc
              refine lv_iconst (v := 0) hx hb dX5_alikeIsTrue_112 (by decide) ?_
              exact hJ50 0 w46 _ _ _ (lv_sub hl [0, 1, 2, 3] rfl) hH hv54
            · have hv55 := hv52.2 hc
              refine lv_iload hx hb dX5_alikeIsTrue_99 (lv_at hl 3 rfl) ?_
              refine lv_aload_n hx hb dX5_alikeIsTrue_101 rfl (lv_at hl 1 rfl) ?_
              refine cl_X5_41 hC hD hH hv55.2 hv55.1 ⟨Nat.le_of_ble_eq_true rfl, Nat.le_of_ble_eq_true rfl⟩ ⟨(Nat.le_of_ble_eq_true rfl), (Nat.le_of_ble_eq_true rfl)⟩ ⟨(Nat.le_of_ble_eq_true rfl), (Nat.le_of_ble_eq_true rfl)⟩ hl.1 (Nat.le_of_ble_eq_true rfl) dX5_alikeIsTrue_102 (fun r56 w57 H locs hH hv58 => ?_)
              refine lv_icmp_ge (tgt := 112) hx hb dX5_alikeIsTrue_105 (by decide) (fun hc => ?_) (fun hc => ?_)
              · have hv59 := hv58.1 hc
                refine lv_iconst (v := 0) hx hb dX5_alikeIsTrue_112 (by decide) ?_
                exact hJ50 0 w57 _ _ _ (lv_sub hl [0, 1, 2, 3] rfl) hH hv59
              · have hv60 := hv58.2 hc
                refine lv_iconst (v := 1) hx hb dX5_alikeIsTrue_108 (by decide) ?_
                refine lv_goto (tgt := 113) hx hb dX5_alikeIsTrue_109 (by decide) ?_
                exact hJ50 1 w57 _ _ _ (lv_sub hl [0, 1, 2, 3] rfl) hH hv60
          · have hv153 := hv32.2 hc
            refine lv_iconst (v := 0) hx hb dX5_alikeIsTrue_54 (by decide) ?_
            exact sj_retI hC hD.2 hH hr rfl hv153 ⟨(Nat.le_of_ble_eq_true rfl), (Nat.le_of_ble_eq_true rfl)⟩ dX5_alikeIsTrue_55
    clear hE13
    refine lv_if_eq (tgt := 28) hx hb dX5_alikeIsTrue_18 (by decide) (fun hc => ?_) (fun hc => ?_)
    · have hv18 := hv16.1 hc
      refine lv_iload_n hx hb dX5_alikeIsTrue_28 rfl (lv_at hl 3 rfl) ?_
      exact hJ14 r1 w_16 _ _ _ (lv_sub hl [1, 2, 0] rfl) hH hv18
    · have hv19 := hv16.2 hc
      refine lv_aload_n hx hb dX5_alikeIsTrue_21 rfl (lv_at hl 1 rfl) ?_
      refine cl_X5_41 hC hD hH hv19.2 hv19.1 ⟨Nat.le_of_ble_eq_true rfl, Nat.le_of_ble_eq_true rfl⟩ ⟨(Nat.le_of_ble_eq_true rfl), (Nat.le_of_ble_eq_true rfl)⟩ ⟨(Nat.le_of_ble_eq_true rfl), (Nat.le_of_ble_eq_true rfl)⟩ hl.1 (Nat.le_of_ble_eq_true rfl) dX5_alikeIsTrue_22 (fun r20 w21 H locs hH hv22 => ?_)
      refine lv_goto (tgt := 29) hx hb dX5_alikeIsTrue_25 (by decide) ?_
      exact hJ14 r20 w21 _ _ _ (lv_sub hl [1, 2, 0] rfl) hH hv22
  clear hE5
  refine lv_icmp_ne (tgt := 15) hx hb dX5_alikeIsTrue_8 (by decide) (fun hc => ?_) (fun hc => ?_)
  · have hv10 := hv8.1 hc
    refine lv_iconst (v := 0) hx hb dX5_alikeIsTrue_15 (by decide) ?_
    exact hJ6 0 w2 _ _ _ (lv_sub hl [1, 2, 0] rfl) hH hv10
  · have hv11 := hv8.2 hc
    refine lv_iconst (v := 1) hx hb dX5_alikeIsTrue_11 (by decide) ?_
    refine lv_goto (tgt := 16) hx hb dX5_alikeIsTrue_12 (by decide) ?_
    exact hJ6 1 w2 _ _ _ (lv_sub hl [1, 2, 0] rfl) hH hv11
section SJL_X5_alikeIsTrue
variable {p : Program} {l : Launch} {e : Env} {R : Room} {s : State} {m : MethodId} {args : Array Value} {below : List Frame} {meth : Method} {c : Code} {H : Heap} {locs : List Loc} {cells slots : Nat} {Q : State → Prop} {cc : ByteArray} {pc : Nat} {ls : Array Slot} {rest : List Value} {G : sj_G} {nL : Nat} {w : sj_W}
theorem cl_X5_15 {rmM : Room} {QcM : Array Value → State → Outcome → State → Prop} {QX : String → sj_W → Prop} {b0 : Nat} {b1 : Nat} {Qi : Int32 → sj_W → Prop} (hC : sj_C G p l s m args c cc RX5 nL) (hD : sj_D meth c) (hH : sj_H G s w H locs) (hv : vc_X5_alikeIsTrue b0 b1 w Qi) (hR : rm_X5_alikeIsTrue.frames + 1 ≤ R.frames ∧ 8 + (7 + 11) + rm_X5_alikeIsTrue.locals ≤ R.locals) (hf : cells + 0 ≤ R.cells ∧ slots + 0 ≤ R.slots) (hfM : cells + 0 ≤ rmM.cells ∧ slots + 0 ≤ rmM.slots) (hls : ls.size = nL) (hW : (rest.map fun v => v.category).sum ≤ 8) (hdg : decode cc pc = .ok (.invokestatic 15, 3)) (kk : ∀ (r : Int32) (w1 : sj_W) (H : Heap) (locs : List Loc), sj_H G s w1 H locs → Qi r w1 → W p l e R s m args below meth c H locs (cells + 0) (slots + 0) (sj_MQ G below QcM QX args s rmM) (F0 m (pc + 3) ls (.int r :: rest))) : W p l e R s m args below meth c H locs cells slots (sj_MQ G below QcM QX args s rmM) (F0 m pc ls (.ref b1 :: .ref b0 :: rest)) :=
  sj_cI hD hH (sj_runS (n := 2) hC hH (As := [.ref b0, .ref b1]) (wk_X5_alikeIsTrue G l hC.2.2.2.2.2.2 b0 b1 w Qi QX hv) mb_638 mb_639 mb_14 mb_640 (by decide +kernel) hR hf rfl hls hW hdg) hfM kk
end SJL_X5_alikeIsTrue
abbrev rm_X5_orderIsTrue : Room := { frames := 3, cells := 0, slots := 0, locals := 67 }
def vc_X5_orderIsTrue (a1 : Nat) (a2 : Nat) (a3 : Int32) (w : sj_W) (Q : Int32 → sj_W → Prop) : Prop := vc_X6_compareWords a1 a2 a3 w (fun r1 w2 => vc_X6_alike a1 a2 w2 (fun r4 w5 => sj_T w5 a1 = 4 ∧ vc_X4_size a1 w5 (fun r7 w8 => sj_jn1 (fun (E10 : Int32 → sj_W → Prop) => ((r7 ≤ r4 → E10 0 w8) ∧ (¬ r7 ≤ r4 → sj_T w8 a2 = 4 ∧ vc_X4_size a2 w8 (fun r18 w19 => ((r18 ≤ r4 → E10 0 w19) ∧ (¬ r18 ≤ r4 → E10 1 w19)))))) (fun (y0_37 : Int32) (w_37 : sj_W) => sj_jn1 (fun (E23 : Int32 → sj_W → Prop) => ((y0_37 = 0 → sj_T w_37 a1 = 4 ∧ vc_X4_size a1 w_37 (fun r30 w31 => sj_T w31 a2 = 4 ∧ vc_X4_size a2 w31 (fun r33 w34 => vc_X6_compareNumbers (r30.toInt64) (r33.toInt64) 0 w34 (fun r36 w37 => E23 r36 w37)))) ∧ (¬ y0_37 = 0 → sj_T w_37 a1 = 4 ∧ vc_X4_at a1 r4 w_37 (fun r40 w41 => sj_T w41 a2 = 4 ∧ vc_X4_at a2 r4 w41 (fun r43 w44 => vc_X6_compareNumbers r40 r43 a3 w44 (fun r46 w47 => E23 r46 w47)))))) (fun (y0_77 : Int32) (w_77 : sj_W) => ((¬ r1 = y0_77 → Q 0 w_77) ∧ (r1 = y0_77 → vc_X6_compareWords a2 a1 a3 w_77 (fun r51 w52 => ((¬ r51 = (-r1) → Q 0 w52) ∧ (r51 = (-r1) → Q 1 w52))))))))))
set_option maxHeartbeats 4000000 in
set_option maxRecDepth 100000 in
theorem wk_X5_orderIsTrue (G : sj_G) (l : Launch) (hlt : l.stackTraces = false) (a1 : Nat) (a2 : Nat) (a3 : Int32) (w : sj_W) (Q : Int32 → sj_W → Prop) (QX : String → sj_W → Prop) (hv : vc_X5_orderIsTrue a1 a2 a3 w Q) : sj_MI G l yX5_orderIsTrue (sj_ws yX5_orderIsTrue cX5_orderIsTrue 7 (some .boolean)) rm_X5_orderIsTrue [.ref a1, .ref a2, .int a3] w Q QX := by
  refine sj_of (by decide +kernel) (Nat.le_of_ble_eq_true rfl) hlt ?_
  intro p e s m args below meth c ls hC hD hr hin hH hl
  have hx := hC.1
  have hb := hC.2.1
  have hl : lv_has ls 7 [(0, .ref a1), (1, .ref a2), (2, .int a3)] := hl
  refine lv_aload_n hx hb dX5_orderIsTrue_0 rfl (lv_at hl 0 rfl) ?_
  refine lv_aload_n hx hb dX5_orderIsTrue_1 rfl (lv_at hl 1 rfl) ?_
  refine lv_iload_n hx hb dX5_orderIsTrue_2 rfl (lv_at hl 2 rfl) ?_
  refine cl_X5_52 hC hD hH hv ⟨Nat.le_of_ble_eq_true rfl, Nat.le_of_ble_eq_true rfl⟩ ⟨(Nat.le_of_ble_eq_true rfl), (Nat.le_of_ble_eq_true rfl)⟩ ⟨(Nat.le_of_ble_eq_true rfl), (Nat.le_of_ble_eq_true rfl)⟩ hl.1 (Nat.le_of_ble_eq_true rfl) dX5_orderIsTrue_3 (fun r1 w2 H locs hH hv3 => ?_)
  refine lv_istore_n (lv' := [(3, .int r1), (0, .ref a1), (1, .ref a2), (2, .int a3)]) hx hb dX5_orderIsTrue_6 rfl hl (by decide) rfl (fun ls hl => ?_)
  refine lv_aload_n hx hb dX5_orderIsTrue_7 rfl (lv_at hl 1 rfl) ?_
  refine lv_aload_n hx hb dX5_orderIsTrue_8 rfl (lv_at hl 2 rfl) ?_
  refine cl_X5_56 hC hD hH hv3 ⟨Nat.le_of_ble_eq_true rfl, Nat.le_of_ble_eq_true rfl⟩ ⟨(Nat.le_of_ble_eq_true rfl), (Nat.le_of_ble_eq_true rfl)⟩ ⟨(Nat.le_of_ble_eq_true rfl), (Nat.le_of_ble_eq_true rfl)⟩ hl.1 (Nat.le_of_ble_eq_true rfl) dX5_orderIsTrue_9 (fun r4 w5 H locs hH hv6 => ?_)
  refine lv_istore (lv' := [(4, .int r4), (3, .int r1), (0, .ref a1), (1, .ref a2), (2, .int a3)]) hx hb dX5_orderIsTrue_12 hl (by decide) rfl (fun ls hl => ?_)
  refine lv_iload hx hb dX5_orderIsTrue_14 (lv_at hl 0 rfl) ?_
  refine lv_aload_n hx hb dX5_orderIsTrue_16 rfl (lv_at hl 2 rfl) ?_
  refine cl_X5_41 hC hD hH hv6.2 hv6.1 ⟨Nat.le_of_ble_eq_true rfl, Nat.le_of_ble_eq_true rfl⟩ ⟨(Nat.le_of_ble_eq_true rfl), (Nat.le_of_ble_eq_true rfl)⟩ ⟨(Nat.le_of_ble_eq_true rfl), (Nat.le_of_ble_eq_true rfl)⟩ hl.1 (Nat.le_of_ble_eq_true rfl) dX5_orderIsTrue_17 (fun r7 w8 H locs hH hv9 => ?_)
  obtain ⟨E10, hE11, hv14⟩ := sj_jn1_e hv9
  have hJ12 : ∀ (y0_37 : Int32) (w_37 : sj_W) (H : Heap) (locs : List Loc) (ls : Array Slot), lv_has ls 7 [(0, .ref a1), (1, .ref a2), (2, .int a3), (3, .int r1), (4, .int r4)] → sj_H G s w_37 H locs → E10 y0_37 w_37 → W p l e rm_X5_orderIsTrue s m args below meth c H locs 0 0 (sj_MQ G below (va_Qi Q (sj_B G) (sj_F G)) QX args s rm_X5_orderIsTrue) (F0 m 37 ls [.int y0_37]) := by
    intro y0_37 w_37 H locs ls hl hH hv15
    rw [hE11] at hv15
    refine lv_istore (lv' := [(5, .int y0_37), (0, .ref a1), (1, .ref a2), (2, .int a3), (3, .int r1), (4, .int r4)]) hx hb dX5_orderIsTrue_37 hl (by decide) rfl (fun ls hl => ?_)
    refine lv_iload hx hb dX5_orderIsTrue_39 (lv_at hl 0 rfl) ?_
    obtain ⟨E23, hE24, hv27⟩ := sj_jn1_e hv15
    have hJ25 : ∀ (y0_77 : Int32) (w_77 : sj_W) (H : Heap) (locs : List Loc) (ls : Array Slot), lv_has ls 7 [(0, .ref a1), (1, .ref a2), (2, .int a3), (3, .int r1)] → sj_H G s w_77 H locs → E23 y0_77 w_77 → W p l e rm_X5_orderIsTrue s m args below meth c H locs 0 0 (sj_MQ G below (va_Qi Q (sj_B G) (sj_F G)) QX args s rm_X5_orderIsTrue) (F0 m 77 ls [.int y0_77]) := by
      intro y0_77 w_77 H locs ls hl hH hv28
      rw [hE24] at hv28
      refine lv_istore (lv' := [(6, .int y0_77), (0, .ref a1), (1, .ref a2), (2, .int a3), (3, .int r1)]) hx hb dX5_orderIsTrue_77 hl (by decide) rfl (fun ls hl => ?_)
      refine lv_iload_n hx hb dX5_orderIsTrue_79 rfl (lv_at hl 4 rfl) ?_
      refine lv_iload hx hb dX5_orderIsTrue_80 (lv_at hl 0 rfl) ?_
      refine lv_icmp_ne (tgt := 100) hx hb dX5_orderIsTrue_82 (by decide) (fun hc => ?_) (fun hc => ?_)
      · have hv49 := hv28.1 hc
        refine lv_iconst (v := 0) hx hb dX5_orderIsTrue_100 (by decide) ?_
        exact sj_retI hC hD.2 hH hr rfl hv49 ⟨(Nat.le_of_ble_eq_true rfl), (Nat.le_of_ble_eq_true rfl)⟩ dX5_orderIsTrue_101
      · have hv50 := hv28.2 hc
        refine lv_aload_n hx hb dX5_orderIsTrue_85 rfl (lv_at hl 2 rfl) ?_
        refine lv_aload_n hx hb dX5_orderIsTrue_86 rfl (lv_at hl 1 rfl) ?_
        refine lv_iload_n hx hb dX5_orderIsTrue_87 rfl (lv_at hl 3 rfl) ?_
        refine cl_X5_52 hC hD hH hv50 ⟨Nat.le_of_ble_eq_true rfl, Nat.le_of_ble_eq_true rfl⟩ ⟨(Nat.le_of_ble_eq_true rfl), (Nat.le_of_ble_eq_true rfl)⟩ ⟨(Nat.le_of_ble_eq_true rfl), (Nat.le_of_ble_eq_true rfl)⟩ hl.1 (Nat.le_of_ble_eq_true rfl) dX5_orderIsTrue_88 (fun r51 w52 H locs hH hv53 => ?_)
        refine lv_iload_n hx hb dX5_orderIsTrue_91 rfl (lv_at hl 4 rfl) ?_
        refine lv_ineg hx hb dX5_orderIsTrue_92 ?_
        refine lv_icmp_ne (tgt := 100) hx hb dX5_orderIsTrue_93 (by decide) (fun hc => ?_) (fun hc => ?_)
        · have hv54 := hv53.1 hc
          refine lv_iconst (v := 0) hx hb dX5_orderIsTrue_100 (by decide) ?_
          exact sj_retI hC hD.2 hH hr rfl hv54 ⟨(Nat.le_of_ble_eq_true rfl), (Nat.le_of_ble_eq_true rfl)⟩ dX5_orderIsTrue_101
        · have hv55 := hv53.2 hc
          refine lv_iconst (v := 1) hx hb dX5_orderIsTrue_96 (by decide) ?_
          refine lv_goto (tgt := 101) hx hb dX5_orderIsTrue_97 (by decide) ?_
          exact sj_retI hC hD.2 hH hr rfl hv55 ⟨(Nat.le_of_ble_eq_true rfl), (Nat.le_of_ble_eq_true rfl)⟩ dX5_orderIsTrue_101
    clear hE24
    refine lv_if_eq (tgt := 63) hx hb dX5_orderIsTrue_41 (by decide) (fun hc => ?_) (fun hc => ?_)
    · have hv29 := hv27.1 hc
      refine lv_aload_n hx hb dX5_orderIsTrue_63 rfl (lv_at hl 1 rfl) ?_
      refine cl_X5_41 hC hD hH hv29.2 hv29.1 ⟨Nat.le_of_ble_eq_true rfl, Nat.le_of_ble_eq_true rfl⟩ ⟨(Nat.le_of_ble_eq_true rfl), (Nat.le_of_ble_eq_true rfl)⟩ ⟨(Nat.le_of_ble_eq_true rfl), (Nat.le_of_ble_eq_true rfl)⟩ hl.1 (Nat.le_of_ble_eq_true rfl) dX5_orderIsTrue_64 (fun r30 w31 H locs hH hv32 => ?_)
      refine lv_i2l hx hb dX5_orderIsTrue_67 rfl ?_
      refine lv_aload_n hx hb dX5_orderIsTrue_68 rfl (lv_at hl 2 rfl) ?_
      refine cl_X5_41 hC hD hH hv32.2 hv32.1 ⟨Nat.le_of_ble_eq_true rfl, Nat.le_of_ble_eq_true rfl⟩ ⟨(Nat.le_of_ble_eq_true rfl), (Nat.le_of_ble_eq_true rfl)⟩ ⟨(Nat.le_of_ble_eq_true rfl), (Nat.le_of_ble_eq_true rfl)⟩ hl.1 (Nat.le_of_ble_eq_true rfl) dX5_orderIsTrue_69 (fun r33 w34 H locs hH hv35 => ?_)
      refine lv_i2l hx hb dX5_orderIsTrue_72 rfl ?_
      refine lv_iconst (v := 0) hx hb dX5_orderIsTrue_73 (by decide) ?_
      refine cl_X5_59 hC hD hH hv35 ⟨Nat.le_of_ble_eq_true rfl, Nat.le_of_ble_eq_true rfl⟩ ⟨(Nat.le_of_ble_eq_true rfl), (Nat.le_of_ble_eq_true rfl)⟩ ⟨(Nat.le_of_ble_eq_true rfl), (Nat.le_of_ble_eq_true rfl)⟩ hl.1 (Nat.le_of_ble_eq_true rfl) dX5_orderIsTrue_74 (fun r36 w37 H locs hH hv38 => ?_)
      exact hJ25 r36 w37 _ _ _ (lv_sub hl [1, 2, 3, 4] rfl) hH hv38
    · have hv39 := hv27.2 hc
      refine lv_aload_n hx hb dX5_orderIsTrue_44 rfl (lv_at hl 1 rfl) ?_
      refine lv_iload hx hb dX5_orderIsTrue_45 (lv_at hl 5 rfl) ?_
      refine cl_X5_45 hC hD hH hv39.2 hv39.1 ⟨Nat.le_of_ble_eq_true rfl, Nat.le_of_ble_eq_true rfl⟩ ⟨(Nat.le_of_ble_eq_true rfl), (Nat.le_of_ble_eq_true rfl)⟩ ⟨(Nat.le_of_ble_eq_true rfl), (Nat.le_of_ble_eq_true rfl)⟩ hl.1 (Nat.le_of_ble_eq_true rfl) dX5_orderIsTrue_47 (fun r40 w41 H locs hH hv42 => ?_)
      refine lv_aload_n hx hb dX5_orderIsTrue_50 rfl (lv_at hl 2 rfl) ?_
      refine lv_iload hx hb dX5_orderIsTrue_51 (lv_at hl 5 rfl) ?_
      refine cl_X5_45 hC hD hH hv42.2 hv42.1 ⟨Nat.le_of_ble_eq_true rfl, Nat.le_of_ble_eq_true rfl⟩ ⟨(Nat.le_of_ble_eq_true rfl), (Nat.le_of_ble_eq_true rfl)⟩ ⟨(Nat.le_of_ble_eq_true rfl), (Nat.le_of_ble_eq_true rfl)⟩ hl.1 (Nat.le_of_ble_eq_true rfl) dX5_orderIsTrue_53 (fun r43 w44 H locs hH hv45 => ?_)
      refine lv_iload_n hx hb dX5_orderIsTrue_56 rfl (lv_at hl 3 rfl) ?_
      refine cl_X5_59 hC hD hH hv45 ⟨Nat.le_of_ble_eq_true rfl, Nat.le_of_ble_eq_true rfl⟩ ⟨(Nat.le_of_ble_eq_true rfl), (Nat.le_of_ble_eq_true rfl)⟩ ⟨(Nat.le_of_ble_eq_true rfl), (Nat.le_of_ble_eq_true rfl)⟩ hl.1 (Nat.le_of_ble_eq_true rfl) dX5_orderIsTrue_57 (fun r46 w47 H locs hH hv48 => ?_)
      refine lv_goto (tgt := 77) hx hb dX5_orderIsTrue_60 (by decide) ?_
      exact hJ25 r46 w47 _ _ _ (lv_sub hl [1, 2, 3, 4] rfl) hH hv48
  clear hE11
  refine lv_icmp_ge (tgt := 36) hx hb dX5_orderIsTrue_20 (by decide) (fun hc => ?_) (fun hc => ?_)
  · have hv16 := hv14.1 hc
    refine lv_iconst (v := 0) hx hb dX5_orderIsTrue_36 (by decide) ?_
    exact hJ12 0 w8 _ _ _ (lv_sub hl [2, 3, 4, 1, 0] rfl) hH hv16
  · have hv17 := hv14.2 hc
    refine lv_iload hx hb dX5_orderIsTrue_23 (lv_at hl 0 rfl) ?_
    refine lv_aload_n hx hb dX5_orderIsTrue_25 rfl (lv_at hl 3 rfl) ?_
    refine cl_X5_41 hC hD hH hv17.2 hv17.1 ⟨Nat.le_of_ble_eq_true rfl, Nat.le_of_ble_eq_true rfl⟩ ⟨(Nat.le_of_ble_eq_true rfl), (Nat.le_of_ble_eq_true rfl)⟩ ⟨(Nat.le_of_ble_eq_true rfl), (Nat.le_of_ble_eq_true rfl)⟩ hl.1 (Nat.le_of_ble_eq_true rfl) dX5_orderIsTrue_26 (fun r18 w19 H locs hH hv20 => ?_)
    refine lv_icmp_ge (tgt := 36) hx hb dX5_orderIsTrue_29 (by decide) (fun hc => ?_) (fun hc => ?_)
    · have hv21 := hv20.1 hc
      refine lv_iconst (v := 0) hx hb dX5_orderIsTrue_36 (by decide) ?_
      exact hJ12 0 w19 _ _ _ (lv_sub hl [2, 3, 4, 1, 0] rfl) hH hv21
    · have hv22 := hv20.2 hc
      refine lv_iconst (v := 1) hx hb dX5_orderIsTrue_32 (by decide) ?_
      refine lv_goto (tgt := 37) hx hb dX5_orderIsTrue_33 (by decide) ?_
      exact hJ12 1 w19 _ _ _ (lv_sub hl [2, 3, 4, 1, 0] rfl) hH hv22
section SJL_X5_orderIsTrue
variable {p : Program} {l : Launch} {e : Env} {R : Room} {s : State} {m : MethodId} {args : Array Value} {below : List Frame} {meth : Method} {c : Code} {H : Heap} {locs : List Loc} {cells slots : Nat} {Q : State → Prop} {cc : ByteArray} {pc : Nat} {ls : Array Slot} {rest : List Value} {G : sj_G} {nL : Nat} {w : sj_W}
theorem cl_X5_19 {rmM : Room} {QcM : Array Value → State → Outcome → State → Prop} {QX : String → sj_W → Prop} {b0 : Nat} {b1 : Nat} {b2 : Int32} {Qi : Int32 → sj_W → Prop} (hC : sj_C G p l s m args c cc RX5 nL) (hD : sj_D meth c) (hH : sj_H G s w H locs) (hv : vc_X5_orderIsTrue b0 b1 b2 w Qi) (hR : rm_X5_orderIsTrue.frames + 1 ≤ R.frames ∧ 8 + (7 + 11) + rm_X5_orderIsTrue.locals ≤ R.locals) (hf : cells + 0 ≤ R.cells ∧ slots + 0 ≤ R.slots) (hfM : cells + 0 ≤ rmM.cells ∧ slots + 0 ≤ rmM.slots) (hls : ls.size = nL) (hW : (rest.map fun v => v.category).sum ≤ 8) (hdg : decode cc pc = .ok (.invokestatic 19, 3)) (kk : ∀ (r : Int32) (w1 : sj_W) (H : Heap) (locs : List Loc), sj_H G s w1 H locs → Qi r w1 → W p l e R s m args below meth c H locs (cells + 0) (slots + 0) (sj_MQ G below QcM QX args s rmM) (F0 m (pc + 3) ls (.int r :: rest))) : W p l e R s m args below meth c H locs cells slots (sj_MQ G below QcM QX args s rmM) (F0 m pc ls (.int b2 :: .ref b1 :: .ref b0 :: rest)) :=
  sj_cI hD hH (sj_runS (n := 3) hC hH (As := [.ref b0, .ref b1, .int b2]) (wk_X5_orderIsTrue G l hC.2.2.2.2.2.2 b0 b1 b2 w Qi QX hv) mb_646 mb_647 mb_14 mb_648 (by decide +kernel) hR hf rfl hls hW hdg) hfM kk
end SJL_X5_orderIsTrue
abbrev rm_X5_isUnsignedOf : Room := { frames := 3, cells := 0, slots := 0, locals := 67 }
def vc_X5_isUnsignedOf (a1 : Nat) (a2 : Nat) (a3 : Nat) (a4 : Nat) (w : sj_W) (Q : Int32 → sj_W → Prop) : Prop := vc_X6_compareWords a1 a2 1 w (fun r1 w2 => vc_X6_compareWords a3 a4 0 w2 (fun r4 w5 => ((¬ r1 = r4 → Q 0 w5) ∧ (r1 = r4 → Q 1 w5))))
set_option maxHeartbeats 4000000 in
set_option maxRecDepth 100000 in
theorem wk_X5_isUnsignedOf (G : sj_G) (l : Launch) (hlt : l.stackTraces = false) (a1 : Nat) (a2 : Nat) (a3 : Nat) (a4 : Nat) (w : sj_W) (Q : Int32 → sj_W → Prop) (QX : String → sj_W → Prop) (hv : vc_X5_isUnsignedOf a1 a2 a3 a4 w Q) : sj_MI G l yX5_isUnsignedOf (sj_ws yX5_isUnsignedOf cX5_isUnsignedOf 4 (some .boolean)) rm_X5_isUnsignedOf [.ref a1, .ref a2, .ref a3, .ref a4] w Q QX := by
  refine sj_of (by decide +kernel) (Nat.le_of_ble_eq_true rfl) hlt ?_
  intro p e s m args below meth c ls hC hD hr hin hH hl
  have hx := hC.1
  have hb := hC.2.1
  have hl : lv_has ls 4 [(0, .ref a1), (1, .ref a2), (2, .ref a3), (3, .ref a4)] := hl
  refine lv_aload_n hx hb dX5_isUnsignedOf_0 rfl (lv_at hl 0 rfl) ?_
  refine lv_aload_n hx hb dX5_isUnsignedOf_1 rfl (lv_at hl 1 rfl) ?_
  refine lv_iconst (v := 1) hx hb dX5_isUnsignedOf_2 (by decide) ?_
  refine cl_X5_52 hC hD hH hv ⟨Nat.le_of_ble_eq_true rfl, Nat.le_of_ble_eq_true rfl⟩ ⟨(Nat.le_of_ble_eq_true rfl), (Nat.le_of_ble_eq_true rfl)⟩ ⟨(Nat.le_of_ble_eq_true rfl), (Nat.le_of_ble_eq_true rfl)⟩ hl.1 (Nat.le_of_ble_eq_true rfl) dX5_isUnsignedOf_3 (fun r1 w2 H locs hH hv3 => ?_)
  refine lv_aload_n hx hb dX5_isUnsignedOf_6 rfl (lv_at hl 2 rfl) ?_
  refine lv_aload_n hx hb dX5_isUnsignedOf_7 rfl (lv_at hl 3 rfl) ?_
  refine lv_iconst (v := 0) hx hb dX5_isUnsignedOf_8 (by decide) ?_
  refine cl_X5_52 hC hD hH hv3 ⟨Nat.le_of_ble_eq_true rfl, Nat.le_of_ble_eq_true rfl⟩ ⟨(Nat.le_of_ble_eq_true rfl), (Nat.le_of_ble_eq_true rfl)⟩ ⟨(Nat.le_of_ble_eq_true rfl), (Nat.le_of_ble_eq_true rfl)⟩ hl.1 (Nat.le_of_ble_eq_true rfl) dX5_isUnsignedOf_9 (fun r4 w5 H locs hH hv6 => ?_)
  refine lv_icmp_ne (tgt := 19) hx hb dX5_isUnsignedOf_12 (by decide) (fun hc => ?_) (fun hc => ?_)
  · have hv7 := hv6.1 hc
    refine lv_iconst (v := 0) hx hb dX5_isUnsignedOf_19 (by decide) ?_
    exact sj_retI hC hD.2 hH hr rfl hv7 ⟨(Nat.le_of_ble_eq_true rfl), (Nat.le_of_ble_eq_true rfl)⟩ dX5_isUnsignedOf_20
  · have hv8 := hv6.2 hc
    refine lv_iconst (v := 1) hx hb dX5_isUnsignedOf_15 (by decide) ?_
    refine lv_goto (tgt := 20) hx hb dX5_isUnsignedOf_16 (by decide) ?_
    exact sj_retI hC hD.2 hH hr rfl hv8 ⟨(Nat.le_of_ble_eq_true rfl), (Nat.le_of_ble_eq_true rfl)⟩ dX5_isUnsignedOf_20
section SJL_X5_isUnsignedOf
variable {p : Program} {l : Launch} {e : Env} {R : Room} {s : State} {m : MethodId} {args : Array Value} {below : List Frame} {meth : Method} {c : Code} {H : Heap} {locs : List Loc} {cells slots : Nat} {Q : State → Prop} {cc : ByteArray} {pc : Nat} {ls : Array Slot} {rest : List Value} {G : sj_G} {nL : Nat} {w : sj_W}
theorem cl_X5_23 {rmM : Room} {QcM : Array Value → State → Outcome → State → Prop} {QX : String → sj_W → Prop} {b0 : Nat} {b1 : Nat} {b2 : Nat} {b3 : Nat} {Qi : Int32 → sj_W → Prop} (hC : sj_C G p l s m args c cc RX5 nL) (hD : sj_D meth c) (hH : sj_H G s w H locs) (hv : vc_X5_isUnsignedOf b0 b1 b2 b3 w Qi) (hR : rm_X5_isUnsignedOf.frames + 1 ≤ R.frames ∧ 8 + (4 + 11) + rm_X5_isUnsignedOf.locals ≤ R.locals) (hf : cells + 0 ≤ R.cells ∧ slots + 0 ≤ R.slots) (hfM : cells + 0 ≤ rmM.cells ∧ slots + 0 ≤ rmM.slots) (hls : ls.size = nL) (hW : (rest.map fun v => v.category).sum ≤ 8) (hdg : decode cc pc = .ok (.invokestatic 23, 3)) (kk : ∀ (r : Int32) (w1 : sj_W) (H : Heap) (locs : List Loc), sj_H G s w1 H locs → Qi r w1 → W p l e R s m args below meth c H locs (cells + 0) (slots + 0) (sj_MQ G below QcM QX args s rmM) (F0 m (pc + 3) ls (.int r :: rest))) : W p l e R s m args below meth c H locs cells slots (sj_MQ G below QcM QX args s rmM) (F0 m pc ls (.ref b3 :: .ref b2 :: .ref b1 :: .ref b0 :: rest)) :=
  sj_cI hD hH (sj_runS (n := 4) hC hH (As := [.ref b0, .ref b1, .ref b2, .ref b3]) (wk_X5_isUnsignedOf G l hC.2.2.2.2.2.2 b0 b1 b2 b3 w Qi QX hv) mb_651 mb_652 mb_14 mb_653 (by decide +kernel) hR hf rfl hls hW hdg) hfM kk
end SJL_X5_isUnsignedOf
abbrev rm_X5_chainIsTrue : Room := { frames := 3, cells := 0, slots := 0, locals := 67 }
def vc_X5_chainIsTrue (a1 : Nat) (a2 : Nat) (a3 : Nat) (a4 : Int32) (w : sj_W) (Q : Int32 → sj_W → Prop) : Prop := vc_X6_compareWords a1 a2 a4 w (fun r1 w2 => vc_X6_compareWords a2 a3 a4 w2 (fun r4 w5 => ((0 < r1 → Q 1 w5) ∧ (¬ 0 < r1 → ((r4 ≤ 0 → sj_jn1 (fun (E10 : Int32 → sj_W → Prop) => ((r1 = 0 → E10 1 w5) ∧ (¬ r1 = 0 → ((r4 = 0 → E10 1 w5) ∧ (¬ r4 = 0 → vc_X6_compareWords a1 a3 a4 w5 (fun r20 w21 => ((0 ≤ r20 → E10 0 w21) ∧ (¬ 0 ≤ r20 → E10 1 w21)))))))) (fun (y0_52 : Int32) (w_52 : sj_W) => ((y0_52 = 0 → Q 0 w_52) ∧ (¬ y0_52 = 0 → vc_X6_alike a1 a3 w_52 (fun r27 w28 => vc_X6_alike a1 a2 w28 (fun r30 w31 => vc_X6_alike a2 a3 w31 (fun r33 w34 => ((¬ r27 = (if r33 < r30 then r33 else r30) → Q 0 w34) ∧ (r27 = (if r33 < r30 then r33 else r30) → Q 1 w34))))))))) ∧ (¬ r4 ≤ 0 → Q 1 w5))))))
set_option maxHeartbeats 4000000 in
set_option maxRecDepth 100000 in
theorem wk_X5_chainIsTrue (G : sj_G) (l : Launch) (hlt : l.stackTraces = false) (a1 : Nat) (a2 : Nat) (a3 : Nat) (a4 : Int32) (w : sj_W) (Q : Int32 → sj_W → Prop) (QX : String → sj_W → Prop) (hv : vc_X5_chainIsTrue a1 a2 a3 a4 w Q) : sj_MI G l yX5_chainIsTrue (sj_ws yX5_chainIsTrue cX5_chainIsTrue 7 (some .boolean)) rm_X5_chainIsTrue [.ref a1, .ref a2, .ref a3, .int a4] w Q QX := by
  refine sj_of (by decide +kernel) (Nat.le_of_ble_eq_true rfl) hlt ?_
  intro p e s m args below meth c ls hC hD hr hin hH hl
  have hx := hC.1
  have hb := hC.2.1
  have hl : lv_has ls 7 [(0, .ref a1), (1, .ref a2), (2, .ref a3), (3, .int a4)] := hl
  refine lv_aload_n hx hb dX5_chainIsTrue_0 rfl (lv_at hl 0 rfl) ?_
  refine lv_aload_n hx hb dX5_chainIsTrue_1 rfl (lv_at hl 1 rfl) ?_
  refine lv_iload_n hx hb dX5_chainIsTrue_2 rfl (lv_at hl 3 rfl) ?_
  refine cl_X5_52 hC hD hH hv ⟨Nat.le_of_ble_eq_true rfl, Nat.le_of_ble_eq_true rfl⟩ ⟨(Nat.le_of_ble_eq_true rfl), (Nat.le_of_ble_eq_true rfl)⟩ ⟨(Nat.le_of_ble_eq_true rfl), (Nat.le_of_ble_eq_true rfl)⟩ hl.1 (Nat.le_of_ble_eq_true rfl) dX5_chainIsTrue_3 (fun r1 w2 H locs hH hv3 => ?_)
  refine lv_istore (lv' := [(4, .int r1), (0, .ref a1), (1, .ref a2), (2, .ref a3), (3, .int a4)]) hx hb dX5_chainIsTrue_6 hl (by decide) rfl (fun ls hl => ?_)
  refine lv_aload_n hx hb dX5_chainIsTrue_8 rfl (lv_at hl 2 rfl) ?_
  refine lv_aload_n hx hb dX5_chainIsTrue_9 rfl (lv_at hl 3 rfl) ?_
  refine lv_iload_n hx hb dX5_chainIsTrue_10 rfl (lv_at hl 4 rfl) ?_
  refine cl_X5_52 hC hD hH hv3 ⟨Nat.le_of_ble_eq_true rfl, Nat.le_of_ble_eq_true rfl⟩ ⟨(Nat.le_of_ble_eq_true rfl), (Nat.le_of_ble_eq_true rfl)⟩ ⟨(Nat.le_of_ble_eq_true rfl), (Nat.le_of_ble_eq_true rfl)⟩ hl.1 (Nat.le_of_ble_eq_true rfl) dX5_chainIsTrue_11 (fun r4 w5 H locs hH hv6 => ?_)
  refine lv_istore (lv' := [(5, .int r4), (4, .int r1), (0, .ref a1), (1, .ref a2), (2, .ref a3), (3, .int a4)]) hx hb dX5_chainIsTrue_14 hl (by decide) rfl (fun ls hl => ?_)
  refine lv_iload hx hb dX5_chainIsTrue_16 (lv_at hl 1 rfl) ?_
  refine lv_if_gt (tgt := 26) hx hb dX5_chainIsTrue_18 (by decide) (fun hc => ?_) (fun hc => ?_)
  · have hv7 := hv6.1 hc
    refine lv_iconst (v := 1) hx hb dX5_chainIsTrue_26 (by decide) ?_
    exact sj_retI hC hD.2 hH hr rfl hv7 ⟨(Nat.le_of_ble_eq_true rfl), (Nat.le_of_ble_eq_true rfl)⟩ dX5_chainIsTrue_27
  · have hv8 := hv6.2 hc
    refine lv_iload hx hb dX5_chainIsTrue_21 (lv_at hl 0 rfl) ?_
    refine lv_if_le (tgt := 28) hx hb dX5_chainIsTrue_23 (by decide) (fun hc => ?_) (fun hc => ?_)
    · have hv9 := hv8.1 hc
      refine lv_iload hx hb dX5_chainIsTrue_28 (lv_at hl 1 rfl) ?_
      obtain ⟨E10, hE11, hv14⟩ := sj_jn1_e hv9
      have hJ12 : ∀ (y0_52 : Int32) (w_52 : sj_W) (H : Heap) (locs : List Loc) (ls : Array Slot), lv_has ls 7 [(0, .ref a1), (1, .ref a2), (2, .ref a3)] → sj_H G s w_52 H locs → E10 y0_52 w_52 → W p l e rm_X5_chainIsTrue s m args below meth c H locs 0 0 (sj_MQ G below (va_Qi Q (sj_B G) (sj_F G)) QX args s rm_X5_chainIsTrue) (F0 m 52 ls [.int y0_52]) := by
        intro y0_52 w_52 H locs ls hl hH hv15
        rw [hE11] at hv15
        refine lv_istore (lv' := [(6, .int y0_52), (0, .ref a1), (1, .ref a2), (2, .ref a3)]) hx hb dX5_chainIsTrue_52 hl (by decide) rfl (fun ls hl => ?_)
        refine lv_iload hx hb dX5_chainIsTrue_54 (lv_at hl 0 rfl) ?_
        refine lv_if_eq (tgt := 84) hx hb dX5_chainIsTrue_56 (by decide) (fun hc => ?_) (fun hc => ?_)
        · have hv25 := hv15.1 hc
          refine lv_iconst (v := 0) hx hb dX5_chainIsTrue_84 (by decide) ?_
          exact sj_retI hC hD.2 hH hr rfl hv25 ⟨(Nat.le_of_ble_eq_true rfl), (Nat.le_of_ble_eq_true rfl)⟩ dX5_chainIsTrue_85
        · have hv26 := hv15.2 hc
          refine lv_aload_n hx hb dX5_chainIsTrue_59 rfl (lv_at hl 1 rfl) ?_
          refine lv_aload_n hx hb dX5_chainIsTrue_60 rfl (lv_at hl 3 rfl) ?_
          refine cl_X5_56 hC hD hH hv26 ⟨Nat.le_of_ble_eq_true rfl, Nat.le_of_ble_eq_true rfl⟩ ⟨(Nat.le_of_ble_eq_true rfl), (Nat.le_of_ble_eq_true rfl)⟩ ⟨(Nat.le_of_ble_eq_true rfl), (Nat.le_of_ble_eq_true rfl)⟩ hl.1 (Nat.le_of_ble_eq_true rfl) dX5_chainIsTrue_61 (fun r27 w28 H locs hH hv29 => ?_)
          refine lv_aload_n hx hb dX5_chainIsTrue_64 rfl (lv_at hl 1 rfl) ?_
          refine lv_aload_n hx hb dX5_chainIsTrue_65 rfl (lv_at hl 2 rfl) ?_
          refine cl_X5_56 hC hD hH hv29 ⟨Nat.le_of_ble_eq_true rfl, Nat.le_of_ble_eq_true rfl⟩ ⟨(Nat.le_of_ble_eq_true rfl), (Nat.le_of_ble_eq_true rfl)⟩ ⟨(Nat.le_of_ble_eq_true rfl), (Nat.le_of_ble_eq_true rfl)⟩ hl.1 (Nat.le_of_ble_eq_true rfl) dX5_chainIsTrue_66 (fun r30 w31 H locs hH hv32 => ?_)
          refine lv_aload_n hx hb dX5_chainIsTrue_69 rfl (lv_at hl 2 rfl) ?_
          refine lv_aload_n hx hb dX5_chainIsTrue_70 rfl (lv_at hl 3 rfl) ?_
          refine cl_X5_56 hC hD hH hv32 ⟨Nat.le_of_ble_eq_true rfl, Nat.le_of_ble_eq_true rfl⟩ ⟨(Nat.le_of_ble_eq_true rfl), (Nat.le_of_ble_eq_true rfl)⟩ ⟨(Nat.le_of_ble_eq_true rfl), (Nat.le_of_ble_eq_true rfl)⟩ hl.1 (Nat.le_of_ble_eq_true rfl) dX5_chainIsTrue_71 (fun r33 w34 H locs hH hv35 => ?_)
          refine va_mmin hx hb (hC.2.2.1.trans hl.1.symm) hC.2.2.2.1 (hC.2.2.2.2.1 _ mb_660) (hC.2.2.2.2.1 _ mb_408) (hC.2.2.2.2.1 _ mb_13) (hC.2.2.2.2.1 _ mb_409) (Nat.le_of_ble_eq_true rfl) (Nat.le_of_ble_eq_true rfl) (Nat.le_of_ble_eq_true rfl) (Nat.le_of_ble_eq_true rfl) dX5_chainIsTrue_74 ?_
          refine lv_icmp_ne (tgt := 84) hx hb dX5_chainIsTrue_77 (by decide) (fun hc => ?_) (fun hc => ?_)
          · have hv36 := hv35.1 hc
            refine lv_iconst (v := 0) hx hb dX5_chainIsTrue_84 (by decide) ?_
            exact sj_retI hC hD.2 hH hr rfl hv36 ⟨(Nat.le_of_ble_eq_true rfl), (Nat.le_of_ble_eq_true rfl)⟩ dX5_chainIsTrue_85
          · have hv37 := hv35.2 hc
            refine lv_iconst (v := 1) hx hb dX5_chainIsTrue_80 (by decide) ?_
            refine lv_goto (tgt := 85) hx hb dX5_chainIsTrue_81 (by decide) ?_
            exact sj_retI hC hD.2 hH hr rfl hv37 ⟨(Nat.le_of_ble_eq_true rfl), (Nat.le_of_ble_eq_true rfl)⟩ dX5_chainIsTrue_85
      clear hE11
      refine lv_if_eq (tgt := 47) hx hb dX5_chainIsTrue_30 (by decide) (fun hc => ?_) (fun hc => ?_)
      · have hv16 := hv14.1 hc
        refine lv_iconst (v := 1) hx hb dX5_chainIsTrue_47 (by decide) ?_
        refine lv_goto (tgt := 52) hx hb dX5_chainIsTrue_48 (by decide) ?_
        exact hJ12 1 w5 _ _ _ (lv_sub hl [2, 3, 4] rfl) hH hv16
      · have hv17 := hv14.2 hc
        refine lv_iload hx hb dX5_chainIsTrue_33 (lv_at hl 0 rfl) ?_
        refine lv_if_eq (tgt := 47) hx hb dX5_chainIsTrue_35 (by decide) (fun hc => ?_) (fun hc => ?_)
        · have hv18 := hv17.1 hc
          refine lv_iconst (v := 1) hx hb dX5_chainIsTrue_47 (by decide) ?_
          refine lv_goto (tgt := 52) hx hb dX5_chainIsTrue_48 (by decide) ?_
          exact hJ12 1 w5 _ _ _ (lv_sub hl [2, 3, 4] rfl) hH hv18
        · have hv19 := hv17.2 hc
          refine lv_aload_n hx hb dX5_chainIsTrue_38 rfl (lv_at hl 2 rfl) ?_
          refine lv_aload_n hx hb dX5_chainIsTrue_39 rfl (lv_at hl 4 rfl) ?_
          refine lv_iload_n hx hb dX5_chainIsTrue_40 rfl (lv_at hl 5 rfl) ?_
          refine cl_X5_52 hC hD hH hv19 ⟨Nat.le_of_ble_eq_true rfl, Nat.le_of_ble_eq_true rfl⟩ ⟨(Nat.le_of_ble_eq_true rfl), (Nat.le_of_ble_eq_true rfl)⟩ ⟨(Nat.le_of_ble_eq_true rfl), (Nat.le_of_ble_eq_true rfl)⟩ hl.1 (Nat.le_of_ble_eq_true rfl) dX5_chainIsTrue_41 (fun r20 w21 H locs hH hv22 => ?_)
          refine lv_if_ge (tgt := 51) hx hb dX5_chainIsTrue_44 (by decide) (fun hc => ?_) (fun hc => ?_)
          · have hv23 := hv22.1 hc
            refine lv_iconst (v := 0) hx hb dX5_chainIsTrue_51 (by decide) ?_
            exact hJ12 0 w21 _ _ _ (lv_sub hl [2, 3, 4] rfl) hH hv23
          · have hv24 := hv22.2 hc
            refine lv_iconst (v := 1) hx hb dX5_chainIsTrue_47 (by decide) ?_
            refine lv_goto (tgt := 52) hx hb dX5_chainIsTrue_48 (by decide) ?_
            exact hJ12 1 w21 _ _ _ (lv_sub hl [2, 3, 4] rfl) hH hv24
    · have hv38 := hv8.2 hc
      refine lv_iconst (v := 1) hx hb dX5_chainIsTrue_26 (by decide) ?_
      exact sj_retI hC hD.2 hH hr rfl hv38 ⟨(Nat.le_of_ble_eq_true rfl), (Nat.le_of_ble_eq_true rfl)⟩ dX5_chainIsTrue_27
section SJL_X5_chainIsTrue
variable {p : Program} {l : Launch} {e : Env} {R : Room} {s : State} {m : MethodId} {args : Array Value} {below : List Frame} {meth : Method} {c : Code} {H : Heap} {locs : List Loc} {cells slots : Nat} {Q : State → Prop} {cc : ByteArray} {pc : Nat} {ls : Array Slot} {rest : List Value} {G : sj_G} {nL : Nat} {w : sj_W}
theorem cl_X5_63 {rmM : Room} {QcM : Array Value → State → Outcome → State → Prop} {QX : String → sj_W → Prop} {b0 : Nat} {b1 : Nat} {b2 : Nat} {b3 : Int32} {Qi : Int32 → sj_W → Prop} (hC : sj_C G p l s m args c cc RX5 nL) (hD : sj_D meth c) (hH : sj_H G s w H locs) (hv : vc_X5_chainIsTrue b0 b1 b2 b3 w Qi) (hR : rm_X5_chainIsTrue.frames + 1 ≤ R.frames ∧ 8 + (7 + 11) + rm_X5_chainIsTrue.locals ≤ R.locals) (hf : cells + 0 ≤ R.cells ∧ slots + 0 ≤ R.slots) (hfM : cells + 0 ≤ rmM.cells ∧ slots + 0 ≤ rmM.slots) (hls : ls.size = nL) (hW : (rest.map fun v => v.category).sum ≤ 8) (hdg : decode cc pc = .ok (.invokestatic 63, 3)) (kk : ∀ (r : Int32) (w1 : sj_W) (H : Heap) (locs : List Loc), sj_H G s w1 H locs → Qi r w1 → W p l e R s m args below meth c H locs (cells + 0) (slots + 0) (sj_MQ G below QcM QX args s rmM) (F0 m (pc + 3) ls (.int r :: rest))) : W p l e R s m args below meth c H locs cells slots (sj_MQ G below QcM QX args s rmM) (F0 m pc ls (.int b3 :: .ref b2 :: .ref b1 :: .ref b0 :: rest)) :=
  sj_cI hD hH (sj_runS (n := 4) hC hH (As := [.ref b0, .ref b1, .ref b2, .int b3]) (wk_X5_chainIsTrue G l hC.2.2.2.2.2.2 b0 b1 b2 b3 w Qi QX hv) mb_657 mb_658 mb_14 mb_659 (by decide +kernel) hR hf rfl hls hW hdg) hfM kk
end SJL_X5_chainIsTrue
abbrev rm_X5_threeAreTrue : Room := { frames := 4, cells := 0, slots := 0, locals := 93 }
def vb_X5_threeAreTrue_19 (f0 : Nat) (f1 : Int32) (f2 : Int32) (f3 : Int32) (Q : Int32 → sj_W → Prop) (E : sj_W → Prop) (K : Int32 → sj_W → Prop) (v4 : Int32) (w : sj_W) : Prop := (7 ≤ sj_T w f0 ∧ sj_T w f0 ≤ 13) ∧ (((nI (sj_N w f0)) ≤ v4 → E w) ∧ (¬ (nI (sj_N w f0)) ≤ v4 → sj_jn1 (fun (E7 : Int32 → sj_W → Prop) => ((f2 = f3 → E7 0 w) ∧ (¬ f2 = f3 → ((f3 = v4 → E7 0 w) ∧ (¬ f3 = v4 → ((f2 = v4 → E7 0 w) ∧ (¬ f2 = v4 → E7 1 w))))))) (fun (y0_48 : Int32) (w_48 : sj_W) => ((y0_48 = 0 → K (v4 + 1) w_48) ∧ (¬ y0_48 = 0 → (sj_T w_48 f0 = 10 ∨ sj_T w_48 f0 = 11 ∨ sj_T w_48 f0 = 12) ∧ vp_in f2 (sj_N w_48 f0) ∧ (sj_r w_48 f0 f2.toNatClampNeg) ≠ 0 ∧ (sj_T w_48 f0 = 10 ∨ sj_T w_48 f0 = 11 ∨ sj_T w_48 f0 = 12) ∧ vp_in f3 (sj_N w_48 f0) ∧ (sj_r w_48 f0 f3.toNatClampNeg) ≠ 0 ∧ (sj_T w_48 f0 = 10 ∨ sj_T w_48 f0 = 11 ∨ sj_T w_48 f0 = 12) ∧ vp_in v4 (sj_N w_48 f0) ∧ (sj_r w_48 f0 v4.toNatClampNeg) ≠ 0 ∧ vc_X5_chainIsTrue (sj_r w_48 f0 f2.toNatClampNeg) (sj_r w_48 f0 f3.toNatClampNeg) (sj_r w_48 f0 v4.toNatClampNeg) f1 w_48 (fun r21 w22 => ((¬ r21 = 0 → K (v4 + 1) w22) ∧ (r21 = 0 → Q 0 w22))))))))
def vb_X5_threeAreTrue_10 (f0 : Nat) (f1 : Int32) (f2 : Int32) (Q : Int32 → sj_W → Prop) (E : sj_W → Prop) (K : Int32 → sj_W → Prop) (v3 : Int32) (w : sj_W) : Prop := (7 ≤ sj_T w f0 ∧ sj_T w f0 ≤ 13) ∧ (((nI (sj_N w f0)) ≤ v3 → E w) ∧ (¬ (nI (sj_N w f0)) ≤ v3 → sj_lp1 (vb_X5_threeAreTrue_19 f0 f1 f2 v3 Q (fun w_19 => K (v3 + 1) w_19)) 64 0 w))
def vb_X5_threeAreTrue_2 (f0 : Nat) (f1 : Int32) (Q : Int32 → sj_W → Prop) (E : sj_W → Prop) (K : Int32 → sj_W → Prop) (v2 : Int32) (w : sj_W) : Prop := (7 ≤ sj_T w f0 ∧ sj_T w f0 ≤ 13) ∧ (((nI (sj_N w f0)) ≤ v2 → E w) ∧ (¬ (nI (sj_N w f0)) ≤ v2 → sj_lp1 (vb_X5_threeAreTrue_10 f0 f1 v2 Q (fun w_10 => K (v2 + 1) w_10)) 64 0 w))
def vc_X5_threeAreTrue (a1 : Nat) (a2 : Int32) (w : sj_W) (Q : Int32 → sj_W → Prop) : Prop := sj_lp1 (vb_X5_threeAreTrue_2 a1 a2 Q (fun w_2 => Q 1 w_2)) 64 0 w
set_option maxHeartbeats 4000000 in
set_option maxRecDepth 100000 in
theorem wl_X5_threeAreTrue_19 {p : Program} {l : Launch} {e : Env} {s : State} {m : MethodId} {args : Array Value} {below : List Frame} {meth : Method} {c : Code} {G : sj_G} {f0 : Nat} {f1 : Int32} {f2 : Int32} {f3 : Int32} {Q : Int32 → sj_W → Prop} {QX : String → sj_W → Prop} {E : sj_W → Prop} (hC : sj_C G p l s m args c cX5_threeAreTrue RX5 6) (hD : sj_D meth c) (hr : meth.sig.returnType = (some .boolean)) (hin : meth.name = "threeAreTrue") (hE : ∀ (w : sj_W) (H : Heap) (locs : List Loc) (ls : Array Slot), lv_has ls 6 [(0, .ref f0), (1, .int f1), (2, .int f2), (3, .int f3)] → sj_H G s w H locs → E w → W p l e rm_X5_threeAreTrue s m args below meth c H locs 0 0 (sj_MQ G below (va_Qi Q (sj_B G) (sj_F G)) QX args s rm_X5_threeAreTrue) (F0 m 80 ls [])) : ∀ (n : Nat) (v4 : Int32) (w : sj_W) (H : Heap) (locs : List Loc) (ls : Array Slot), lv_has ls 6 [(0, .ref f0), (1, .int f1), (2, .int f2), (3, .int f3), (4, .int v4)] → sj_H G s w H locs → sj_lp1 (vb_X5_threeAreTrue_19 f0 f1 f2 f3 Q E) n v4 w → W p l e rm_X5_threeAreTrue s m args below meth c H locs 0 0 (sj_MQ G below (va_Qi Q (sj_B G) (sj_F G)) QX args s rm_X5_threeAreTrue) (F0 m 19 ls []) := by
  have hx := hC.1
  have hb := hC.2.1
  intro n
  induction n with
  | zero =>
    intro v4 w H locs ls _ _ hv
    exact hv.elim
  | succ n ih =>
    intro v4 w H locs ls hl hH hv
    have hv : vb_X5_threeAreTrue_19 f0 f1 f2 f3 Q E (sj_lp1 (vb_X5_threeAreTrue_19 f0 f1 f2 f3 Q E) n) v4 w := hv
    have hc1 : rm_X5_threeAreTrue.cells = 0 := rfl
    have hc2 : rm_X5_threeAreTrue.slots = 0 := rfl
    refine lv_iload hx hb dX5_threeAreTrue_19 (lv_at hl 4 rfl) ?_
    refine lv_aload_n hx hb dX5_threeAreTrue_21 rfl (lv_at hl 0 rfl) ?_
    refine sj_alen hC hH hv.1 dX5_threeAreTrue_22 ?_
    refine lv_icmp_ge (tgt := 80) hx hb dX5_threeAreTrue_23 (by decide) (fun hc => ?_) (fun hc => ?_)
    · have hv5 := hv.2.1 hc
      exact hE  w _ _ _ (lv_sub hl [0, 1, 2, 3] rfl) hH hv5
    · have hv6 := hv.2.2 hc
      refine lv_iload_n hx hb dX5_threeAreTrue_26 rfl (lv_at hl 2 rfl) ?_
      refine lv_iload_n hx hb dX5_threeAreTrue_27 rfl (lv_at hl 3 rfl) ?_
      obtain ⟨E7, hE8, hv11⟩ := sj_jn1_e hv6
      have hJ9 : ∀ (y0_48 : Int32) (w_48 : sj_W) (H : Heap) (locs : List Loc) (ls : Array Slot), lv_has ls 6 [(0, .ref f0), (1, .int f1), (2, .int f2), (3, .int f3), (4, .int v4)] → sj_H G s w_48 H locs → E7 y0_48 w_48 → W p l e rm_X5_threeAreTrue s m args below meth c H locs 0 0 (sj_MQ G below (va_Qi Q (sj_B G) (sj_F G)) QX args s rm_X5_threeAreTrue) (F0 m 48 ls [.int y0_48]) := by
        intro y0_48 w_48 H locs ls hl hH hv12
        rw [hE8] at hv12
        refine lv_istore (lv' := [(5, .int y0_48), (0, .ref f0), (1, .int f1), (2, .int f2), (3, .int f3), (4, .int v4)]) hx hb dX5_threeAreTrue_48 hl (by decide) rfl (fun ls hl => ?_)
        refine lv_iload hx hb dX5_threeAreTrue_50 (lv_at hl 0 rfl) ?_
        refine lv_if_eq (tgt := 74) hx hb dX5_threeAreTrue_52 (by decide) (fun hc => ?_) (fun hc => ?_)
        · have hv19 := hv12.1 hc
          refine lv_iinc (v := (v4 + 1)) (lv' := [(4, .int (v4 + 1)), (5, .int y0_48), (0, .ref f0), (1, .int f1), (2, .int f2), (3, .int f3)]) hx hb dX5_threeAreTrue_74 hl (k := 5) rfl rfl (by decide) rfl (fun ls hl => ?_)
          refine lv_goto (tgt := 19) hx hb dX5_threeAreTrue_77 (by decide) ?_
          exact ih (v4 + 1) w_48 _ _ _ (lv_sub hl [2, 3, 4, 5, 0] rfl) hH hv19
        · have hv20 := hv12.2 hc
          refine lv_aload_n hx hb dX5_threeAreTrue_55 rfl (lv_at hl 1 rfl) ?_
          refine lv_iload_n hx hb dX5_threeAreTrue_56 rfl (lv_at hl 3 rfl) ?_
          refine sj_aald hC hH hv20.1 hv20.2.1 hv20.2.2.1 dX5_threeAreTrue_57 ?_
          refine lv_aload_n hx hb dX5_threeAreTrue_58 rfl (lv_at hl 1 rfl) ?_
          refine lv_iload_n hx hb dX5_threeAreTrue_59 rfl (lv_at hl 4 rfl) ?_
          refine sj_aald hC hH hv20.2.2.2.1 hv20.2.2.2.2.1 hv20.2.2.2.2.2.1 dX5_threeAreTrue_60 ?_
          refine lv_aload_n hx hb dX5_threeAreTrue_61 rfl (lv_at hl 1 rfl) ?_
          refine lv_iload hx hb dX5_threeAreTrue_62 (lv_at hl 5 rfl) ?_
          refine sj_aald hC hH hv20.2.2.2.2.2.2.1 hv20.2.2.2.2.2.2.2.1 hv20.2.2.2.2.2.2.2.2.1 dX5_threeAreTrue_64 ?_
          refine lv_iload_n hx hb dX5_threeAreTrue_65 rfl (lv_at hl 2 rfl) ?_
          refine cl_X5_63 hC hD hH hv20.2.2.2.2.2.2.2.2.2 ⟨Nat.le_of_ble_eq_true rfl, Nat.le_of_ble_eq_true rfl⟩ ⟨(Nat.le_of_ble_eq_true rfl), (Nat.le_of_ble_eq_true rfl)⟩ ⟨(Nat.le_of_ble_eq_true rfl), (Nat.le_of_ble_eq_true rfl)⟩ hl.1 (Nat.le_of_ble_eq_true rfl) dX5_threeAreTrue_66 (fun r21 w22 H locs hH hv23 => ?_)
          refine lv_if_ne (tgt := 74) hx hb dX5_threeAreTrue_69 (by decide) (fun hc => ?_) (fun hc => ?_)
          · have hv24 := hv23.1 hc
            refine lv_iinc (v := (v4 + 1)) (lv' := [(4, .int (v4 + 1)), (5, .int y0_48), (0, .ref f0), (1, .int f1), (2, .int f2), (3, .int f3)]) hx hb dX5_threeAreTrue_74 hl (k := 5) rfl rfl (by decide) rfl (fun ls hl => ?_)
            refine lv_goto (tgt := 19) hx hb dX5_threeAreTrue_77 (by decide) ?_
            exact ih (v4 + 1) w22 _ _ _ (lv_sub hl [2, 3, 4, 5, 0] rfl) hH hv24
          · have hv25 := hv23.2 hc
            refine lv_iconst (v := 0) hx hb dX5_threeAreTrue_72 (by decide) ?_
            exact sj_retI hC hD.2 hH hr rfl hv25 ⟨(Nat.le_of_ble_eq_true rfl), (Nat.le_of_ble_eq_true rfl)⟩ dX5_threeAreTrue_73
      clear hE8
      refine lv_icmp_eq (tgt := 47) hx hb dX5_threeAreTrue_28 (by decide) (fun hc => ?_) (fun hc => ?_)
      · have hv13 := hv11.1 hc
        refine lv_iconst (v := 0) hx hb dX5_threeAreTrue_47 (by decide) ?_
        exact hJ9 0 w _ _ _ (lv_sub hl [0, 1, 2, 3, 4] rfl) hH hv13
      · have hv14 := hv11.2 hc
        refine lv_iload_n hx hb dX5_threeAreTrue_31 rfl (lv_at hl 3 rfl) ?_
        refine lv_iload hx hb dX5_threeAreTrue_32 (lv_at hl 4 rfl) ?_
        refine lv_icmp_eq (tgt := 47) hx hb dX5_threeAreTrue_34 (by decide) (fun hc => ?_) (fun hc => ?_)
        · have hv15 := hv14.1 hc
          refine lv_iconst (v := 0) hx hb dX5_threeAreTrue_47 (by decide) ?_
          exact hJ9 0 w _ _ _ (lv_sub hl [0, 1, 2, 3, 4] rfl) hH hv15
        · have hv16 := hv14.2 hc
          refine lv_iload_n hx hb dX5_threeAreTrue_37 rfl (lv_at hl 2 rfl) ?_
          refine lv_iload hx hb dX5_threeAreTrue_38 (lv_at hl 4 rfl) ?_
          refine lv_icmp_eq (tgt := 47) hx hb dX5_threeAreTrue_40 (by decide) (fun hc => ?_) (fun hc => ?_)
          · have hv17 := hv16.1 hc
            refine lv_iconst (v := 0) hx hb dX5_threeAreTrue_47 (by decide) ?_
            exact hJ9 0 w _ _ _ (lv_sub hl [0, 1, 2, 3, 4] rfl) hH hv17
          · have hv18 := hv16.2 hc
            refine lv_iconst (v := 1) hx hb dX5_threeAreTrue_43 (by decide) ?_
            refine lv_goto (tgt := 48) hx hb dX5_threeAreTrue_44 (by decide) ?_
            exact hJ9 1 w _ _ _ (lv_sub hl [0, 1, 2, 3, 4] rfl) hH hv18
set_option maxHeartbeats 4000000 in
set_option maxRecDepth 100000 in
theorem wl_X5_threeAreTrue_10 {p : Program} {l : Launch} {e : Env} {s : State} {m : MethodId} {args : Array Value} {below : List Frame} {meth : Method} {c : Code} {G : sj_G} {f0 : Nat} {f1 : Int32} {f2 : Int32} {Q : Int32 → sj_W → Prop} {QX : String → sj_W → Prop} {E : sj_W → Prop} (hC : sj_C G p l s m args c cX5_threeAreTrue RX5 6) (hD : sj_D meth c) (hr : meth.sig.returnType = (some .boolean)) (hin : meth.name = "threeAreTrue") (hE : ∀ (w : sj_W) (H : Heap) (locs : List Loc) (ls : Array Slot), lv_has ls 6 [(0, .ref f0), (1, .int f1), (2, .int f2)] → sj_H G s w H locs → E w → W p l e rm_X5_threeAreTrue s m args below meth c H locs 0 0 (sj_MQ G below (va_Qi Q (sj_B G) (sj_F G)) QX args s rm_X5_threeAreTrue) (F0 m 86 ls [])) : ∀ (n : Nat) (v3 : Int32) (w : sj_W) (H : Heap) (locs : List Loc) (ls : Array Slot), lv_has ls 6 [(0, .ref f0), (1, .int f1), (2, .int f2), (3, .int v3)] → sj_H G s w H locs → sj_lp1 (vb_X5_threeAreTrue_10 f0 f1 f2 Q E) n v3 w → W p l e rm_X5_threeAreTrue s m args below meth c H locs 0 0 (sj_MQ G below (va_Qi Q (sj_B G) (sj_F G)) QX args s rm_X5_threeAreTrue) (F0 m 10 ls []) := by
  have hx := hC.1
  have hb := hC.2.1
  intro n
  induction n with
  | zero =>
    intro v3 w H locs ls _ _ hv
    exact hv.elim
  | succ n ih =>
    intro v3 w H locs ls hl hH hv
    have hv : vb_X5_threeAreTrue_10 f0 f1 f2 Q E (sj_lp1 (vb_X5_threeAreTrue_10 f0 f1 f2 Q E) n) v3 w := hv
    have hc1 : rm_X5_threeAreTrue.cells = 0 := rfl
    have hc2 : rm_X5_threeAreTrue.slots = 0 := rfl
    refine lv_iload_n hx hb dX5_threeAreTrue_10 rfl (lv_at hl 3 rfl) ?_
    refine lv_aload_n hx hb dX5_threeAreTrue_11 rfl (lv_at hl 0 rfl) ?_
    refine sj_alen hC hH hv.1 dX5_threeAreTrue_12 ?_
    refine lv_icmp_ge (tgt := 86) hx hb dX5_threeAreTrue_13 (by decide) (fun hc => ?_) (fun hc => ?_)
    · have hv3 := hv.2.1 hc
      exact hE  w _ _ _ (lv_sub hl [0, 1, 2] rfl) hH hv3
    · have hv4 := hv.2.2 hc
      refine lv_iconst (v := 0) hx hb dX5_threeAreTrue_16 (by decide) ?_
      refine lv_istore (lv' := [(4, .int 0), (0, .ref f0), (1, .int f1), (2, .int f2), (3, .int v3)]) hx hb dX5_threeAreTrue_17 hl (by decide) rfl (fun ls hl => ?_)
      refine wl_X5_threeAreTrue_19 hC hD hr hin (fun w_19 H locs ls hl hH hv26 => ?_) 64 0 w _ _ _ (lv_sub hl [1, 2, 3, 4, 0] rfl) hH hv4
      refine lv_iinc (v := (v3 + 1)) (lv' := [(3, .int (v3 + 1)), (0, .ref f0), (1, .int f1), (2, .int f2)]) hx hb dX5_threeAreTrue_80 hl (k := 3) rfl rfl (by decide) rfl (fun ls hl => ?_)
      refine lv_goto (tgt := 10) hx hb dX5_threeAreTrue_83 (by decide) ?_
      exact ih (v3 + 1) w_19 _ _ _ (lv_sub hl [1, 2, 3, 0] rfl) hH hv26
set_option maxHeartbeats 4000000 in
set_option maxRecDepth 100000 in
theorem wl_X5_threeAreTrue_2 {p : Program} {l : Launch} {e : Env} {s : State} {m : MethodId} {args : Array Value} {below : List Frame} {meth : Method} {c : Code} {G : sj_G} {f0 : Nat} {f1 : Int32} {Q : Int32 → sj_W → Prop} {QX : String → sj_W → Prop} {E : sj_W → Prop} (hC : sj_C G p l s m args c cX5_threeAreTrue RX5 6) (hD : sj_D meth c) (hr : meth.sig.returnType = (some .boolean)) (hin : meth.name = "threeAreTrue") (hE : ∀ (w : sj_W) (H : Heap) (locs : List Loc) (ls : Array Slot), lv_has ls 6 [] → sj_H G s w H locs → E w → W p l e rm_X5_threeAreTrue s m args below meth c H locs 0 0 (sj_MQ G below (va_Qi Q (sj_B G) (sj_F G)) QX args s rm_X5_threeAreTrue) (F0 m 92 ls [])) : ∀ (n : Nat) (v2 : Int32) (w : sj_W) (H : Heap) (locs : List Loc) (ls : Array Slot), lv_has ls 6 [(0, .ref f0), (1, .int f1), (2, .int v2)] → sj_H G s w H locs → sj_lp1 (vb_X5_threeAreTrue_2 f0 f1 Q E) n v2 w → W p l e rm_X5_threeAreTrue s m args below meth c H locs 0 0 (sj_MQ G below (va_Qi Q (sj_B G) (sj_F G)) QX args s rm_X5_threeAreTrue) (F0 m 2 ls []) := by
  have hx := hC.1
  have hb := hC.2.1
  intro n
  induction n with
  | zero =>
    intro v2 w H locs ls _ _ hv
    exact hv.elim
  | succ n ih =>
    intro v2 w H locs ls hl hH hv
    have hv : vb_X5_threeAreTrue_2 f0 f1 Q E (sj_lp1 (vb_X5_threeAreTrue_2 f0 f1 Q E) n) v2 w := hv
    have hc1 : rm_X5_threeAreTrue.cells = 0 := rfl
    have hc2 : rm_X5_threeAreTrue.slots = 0 := rfl
    refine lv_iload_n hx hb dX5_threeAreTrue_2 rfl (lv_at hl 2 rfl) ?_
    refine lv_aload_n hx hb dX5_threeAreTrue_3 rfl (lv_at hl 0 rfl) ?_
    refine sj_alen hC hH hv.1 dX5_threeAreTrue_4 ?_
    refine lv_icmp_ge (tgt := 92) hx hb dX5_threeAreTrue_5 (by decide) (fun hc => ?_) (fun hc => ?_)
    · have hv1 := hv.2.1 hc
      exact hE  w _ _ _ (lv_sub hl [] rfl) hH hv1
    · have hv2 := hv.2.2 hc
      refine lv_iconst (v := 0) hx hb dX5_threeAreTrue_8 (by decide) ?_
      refine lv_istore_n (lv' := [(3, .int 0), (0, .ref f0), (1, .int f1), (2, .int v2)]) hx hb dX5_threeAreTrue_9 rfl hl (by decide) rfl (fun ls hl => ?_)
      refine wl_X5_threeAreTrue_10 hC hD hr hin (fun w_10 H locs ls hl hH hv27 => ?_) 64 0 w _ _ _ (lv_sub hl [1, 2, 3, 0] rfl) hH hv2
      refine lv_iinc (v := (v2 + 1)) (lv' := [(2, .int (v2 + 1)), (0, .ref f0), (1, .int f1)]) hx hb dX5_threeAreTrue_86 hl (k := 2) rfl rfl (by decide) rfl (fun ls hl => ?_)
      refine lv_goto (tgt := 2) hx hb dX5_threeAreTrue_89 (by decide) ?_
      exact ih (v2 + 1) w_10 _ _ _ (lv_sub hl [1, 2, 0] rfl) hH hv27
set_option maxHeartbeats 4000000 in
set_option maxRecDepth 100000 in
theorem wk_X5_threeAreTrue (G : sj_G) (l : Launch) (hlt : l.stackTraces = false) (a1 : Nat) (a2 : Int32) (w : sj_W) (Q : Int32 → sj_W → Prop) (QX : String → sj_W → Prop) (hv : vc_X5_threeAreTrue a1 a2 w Q) : sj_MI G l yX5_threeAreTrue (sj_ws yX5_threeAreTrue cX5_threeAreTrue 6 (some .boolean)) rm_X5_threeAreTrue [.ref a1, .int a2] w Q QX := by
  refine sj_of (by decide +kernel) (Nat.le_of_ble_eq_true rfl) hlt ?_
  intro p e s m args below meth c ls hC hD hr hin hH hl
  have hx := hC.1
  have hb := hC.2.1
  have hl : lv_has ls 6 [(0, .ref a1), (1, .int a2)] := hl
  refine lv_iconst (v := 0) hx hb dX5_threeAreTrue_0 (by decide) ?_
  refine lv_istore_n (lv' := [(2, .int 0), (0, .ref a1), (1, .int a2)]) hx hb dX5_threeAreTrue_1 rfl hl (by decide) rfl (fun ls hl => ?_)
  refine wl_X5_threeAreTrue_2 hC hD hr hin (fun w_2 H locs ls hl hH hv28 => ?_) 64 0 w _ _ _ (lv_sub hl [1, 2, 0] rfl) hH hv
  refine lv_iconst (v := 1) hx hb dX5_threeAreTrue_92 (by decide) ?_
  exact sj_retI hC hD.2 hH hr rfl hv28 ⟨(Nat.le_of_ble_eq_true rfl), (Nat.le_of_ble_eq_true rfl)⟩ dX5_threeAreTrue_93
section SJL_X5_threeAreTrue
variable {p : Program} {l : Launch} {e : Env} {R : Room} {s : State} {m : MethodId} {args : Array Value} {below : List Frame} {meth : Method} {c : Code} {H : Heap} {locs : List Loc} {cells slots : Nat} {Q : State → Prop} {cc : ByteArray} {pc : Nat} {ls : Array Slot} {rest : List Value} {G : sj_G} {nL : Nat} {w : sj_W}
theorem cl_X5_27 {rmM : Room} {QcM : Array Value → State → Outcome → State → Prop} {QX : String → sj_W → Prop} {b0 : Nat} {b1 : Int32} {Qi : Int32 → sj_W → Prop} (hC : sj_C G p l s m args c cc RX5 nL) (hD : sj_D meth c) (hH : sj_H G s w H locs) (hv : vc_X5_threeAreTrue b0 b1 w Qi) (hR : rm_X5_threeAreTrue.frames + 1 ≤ R.frames ∧ 8 + (6 + 11) + rm_X5_threeAreTrue.locals ≤ R.locals) (hf : cells + 0 ≤ R.cells ∧ slots + 0 ≤ R.slots) (hfM : cells + 0 ≤ rmM.cells ∧ slots + 0 ≤ rmM.slots) (hls : ls.size = nL) (hW : (rest.map fun v => v.category).sum ≤ 8) (hdg : decode cc pc = .ok (.invokestatic 27, 3)) (kk : ∀ (r : Int32) (w1 : sj_W) (H : Heap) (locs : List Loc), sj_H G s w1 H locs → Qi r w1 → W p l e R s m args below meth c H locs (cells + 0) (slots + 0) (sj_MQ G below QcM QX args s rmM) (F0 m (pc + 3) ls (.int r :: rest))) : W p l e R s m args below meth c H locs cells slots (sj_MQ G below QcM QX args s rmM) (F0 m pc ls (.int b1 :: .ref b0 :: rest)) :=
  sj_cI hD hH (sj_runS (n := 2) hC hH (As := [.ref b0, .int b1]) (wk_X5_threeAreTrue G l hC.2.2.2.2.2.2 b0 b1 w Qi QX hv) mb_654 mb_655 mb_14 mb_656 (by decide +kernel) hR hf rfl hls hW hdg) hfM kk
end SJL_X5_threeAreTrue
abbrev rm_X5_holds : Room := { frames := 5, cells := 26, slots := 426, locals := 118 }
def vb_X5_holds_38 (f1 : Nat) (f2 : Nat) (f3 : Nat) (f4 : Int32) (Q : Int32 → sj_W → Prop) (E : sj_W → Prop) (K : Int32 → sj_W → Prop) (v5 : Int32) (w : sj_W) : Prop := (7 ≤ sj_T w f1 ∧ sj_T w f1 ≤ 13) ∧ (((nI (sj_N w f1)) ≤ v5 → E w) ∧ (¬ (nI (sj_N w f1)) ≤ v5 → sj_jn1 (fun (E19 : Int32 → sj_W → Prop) => ((f4 = v5 → E19 1 w) ∧ (¬ f4 = v5 → (sj_T w f1 = 10 ∨ sj_T w f1 = 11 ∨ sj_T w f1 = 12) ∧ vp_in f4 (sj_N w f1) ∧ (sj_r w f1 f4.toNatClampNeg) ≠ 0 ∧ (sj_T w f1 = 10 ∨ sj_T w f1 = 11 ∨ sj_T w f1 = 12) ∧ vp_in v5 (sj_N w f1) ∧ (sj_r w f1 v5.toNatClampNeg) ≠ 0 ∧ vc_X5_alikeIsTrue (sj_r w f1 f4.toNatClampNeg) (sj_r w f1 v5.toNatClampNeg) w (fun r27 w28 => ((r27 = 0 → E19 0 w28) ∧ (¬ r27 = 0 → (sj_T w28 f1 = 10 ∨ sj_T w28 f1 = 11 ∨ sj_T w28 f1 = 12) ∧ vp_in f4 (sj_N w28 f1) ∧ (sj_r w28 f1 f4.toNatClampNeg) ≠ 0 ∧ (sj_T w28 f1 = 10 ∨ sj_T w28 f1 = 11 ∨ sj_T w28 f1 = 12) ∧ vp_in v5 (sj_N w28 f1) ∧ (sj_r w28 f1 v5.toNatClampNeg) ≠ 0 ∧ vc_X5_orderIsTrue (sj_r w28 f1 f4.toNatClampNeg) (sj_r w28 f1 v5.toNatClampNeg) 0 w28 (fun r32 w33 => ((r32 = 0 → E19 0 w33) ∧ (¬ r32 = 0 → (sj_T w33 f1 = 10 ∨ sj_T w33 f1 = 11 ∨ sj_T w33 f1 = 12) ∧ vp_in f4 (sj_N w33 f1) ∧ (sj_r w33 f1 f4.toNatClampNeg) ≠ 0 ∧ (sj_T w33 f1 = 10 ∨ sj_T w33 f1 = 11 ∨ sj_T w33 f1 = 12) ∧ vp_in v5 (sj_N w33 f1) ∧ (sj_r w33 f1 v5.toNatClampNeg) ≠ 0 ∧ vc_X5_orderIsTrue (sj_r w33 f1 f4.toNatClampNeg) (sj_r w33 f1 v5.toNatClampNeg) 1 w33 (fun r37 w38 => ((r37 = 0 → E19 0 w38) ∧ (¬ r37 = 0 → (sj_T w38 f1 = 10 ∨ sj_T w38 f1 = 11 ∨ sj_T w38 f1 = 12) ∧ vp_in f4 (sj_N w38 f1) ∧ (sj_r w38 f1 f4.toNatClampNeg) ≠ 0 ∧ (sj_T w38 f1 = 10 ∨ sj_T w38 f1 = 11 ∨ sj_T w38 f1 = 12) ∧ vp_in v5 (sj_N w38 f1) ∧ (sj_r w38 f1 v5.toNatClampNeg) ≠ 0 ∧ (sj_T w38 f2 = 10 ∨ sj_T w38 f2 = 11 ∨ sj_T w38 f2 = 12) ∧ vp_in f4 (sj_N w38 f2) ∧ (sj_r w38 f2 f4.toNatClampNeg) ≠ 0 ∧ (sj_T w38 f2 = 10 ∨ sj_T w38 f2 = 11 ∨ sj_T w38 f2 = 12) ∧ vp_in v5 (sj_N w38 f2) ∧ (sj_r w38 f2 v5.toNatClampNeg) ≠ 0 ∧ vc_X5_isUnsignedOf (sj_r w38 f1 f4.toNatClampNeg) (sj_r w38 f1 v5.toNatClampNeg) (sj_r w38 f2 f4.toNatClampNeg) (sj_r w38 f2 v5.toNatClampNeg) w38 (fun r42 w43 => ((r42 = 0 → E19 0 w43) ∧ (¬ r42 = 0 → (sj_T w43 f1 = 10 ∨ sj_T w43 f1 = 11 ∨ sj_T w43 f1 = 12) ∧ vp_in f4 (sj_N w43 f1) ∧ (sj_r w43 f1 f4.toNatClampNeg) ≠ 0 ∧ (sj_T w43 f1 = 10 ∨ sj_T w43 f1 = 11 ∨ sj_T w43 f1 = 12) ∧ vp_in v5 (sj_N w43 f1) ∧ (sj_r w43 f1 v5.toNatClampNeg) ≠ 0 ∧ (sj_T w43 f3 = 10 ∨ sj_T w43 f3 = 11 ∨ sj_T w43 f3 = 12) ∧ vp_in f4 (sj_N w43 f3) ∧ (sj_r w43 f3 f4.toNatClampNeg) ≠ 0 ∧ (sj_T w43 f3 = 10 ∨ sj_T w43 f3 = 11 ∨ sj_T w43 f3 = 12) ∧ vp_in v5 (sj_N w43 f3) ∧ (sj_r w43 f3 v5.toNatClampNeg) ≠ 0 ∧ vc_X5_isUnsignedOf (sj_r w43 f1 f4.toNatClampNeg) (sj_r w43 f1 v5.toNatClampNeg) (sj_r w43 f3 f4.toNatClampNeg) (sj_r w43 f3 v5.toNatClampNeg) w43 (fun r47 w48 => ((r47 = 0 → E19 0 w48) ∧ (¬ r47 = 0 → E19 1 w48)))))))))))))))))) (fun (y0_145 : Int32) (w_145 : sj_W) => ((¬ y0_145 = 0 → K (v5 + 1) w_145) ∧ (y0_145 = 0 → Q 0 w_145)))))
def vb_X5_holds_28 (f1 : Nat) (f2 : Nat) (f3 : Nat) (Q : Int32 → sj_W → Prop) (E : sj_W → Prop) (K : Int32 → sj_W → Prop) (v4 : Int32) (w : sj_W) : Prop := (7 ≤ sj_T w f1 ∧ sj_T w f1 ≤ 13) ∧ (((nI (sj_N w f1)) ≤ v4 → E w) ∧ (¬ (nI (sj_N w f1)) ≤ v4 → sj_lp1 (vb_X5_holds_38 f1 f2 f3 v4 Q (fun w_38 => K (v4 + 1) w_38)) 64 0 w))
def vc_X5_holds (a1 : Int32) (a2 : Nat) (w : sj_W) (Q : Int32 → sj_W → Prop) : Prop := vc_X5_changedWords a1 116 a2 w (fun r1 w2 => sj_jn1 (fun (E4 : Nat → sj_W → Prop) => ((¬ a1 = 3 → vc_X5_changedWords a1 117 a2 w2 (fun r11 w12 => E4 r11 w12)) ∧ (a1 = 3 → E4 r1 w2))) (fun (y0_24 : Nat) (w_24 : sj_W) => sj_lp1 (vb_X5_holds_28 a2 r1 y0_24 Q (fun w_28 => vc_X5_threeAreTrue a2 0 w_28 (fun r56 w57 => ((r56 = 0 → Q 0 w57) ∧ (¬ r56 = 0 → vc_X5_threeAreTrue a2 1 w57 (fun r61 w62 => ((r61 = 0 → Q 0 w62) ∧ (¬ r61 = 0 → Q 1 w62)))))))) 64 0 w_24))
set_option maxHeartbeats 4000000 in
set_option maxRecDepth 100000 in
theorem wl_X5_holds_38 {p : Program} {l : Launch} {e : Env} {s : State} {m : MethodId} {args : Array Value} {below : List Frame} {meth : Method} {c : Code} {G : sj_G} {f1 : Nat} {f2 : Nat} {f3 : Nat} {f4 : Int32} {Q : Int32 → sj_W → Prop} {QX : String → sj_W → Prop} {E : sj_W → Prop} (hC : sj_C G p l s m args c cX5_holds RX5 7) (hD : sj_D meth c) (hr : meth.sig.returnType = (some .boolean)) (hin : meth.name = "holds") (hE : ∀ (w : sj_W) (H : Heap) (locs : List Loc) (ls : Array Slot), lv_has ls 7 [(1, .ref f1), (2, .ref f2), (3, .ref f3), (4, .int f4)] → sj_H G s w H locs → E w → W p l e rm_X5_holds s m args below meth c H locs 26 426 (sj_MQ G below (va_Qi Q (sj_B G) (sj_F G)) QX args s rm_X5_holds) (F0 m 160 ls [])) : ∀ (n : Nat) (v5 : Int32) (w : sj_W) (H : Heap) (locs : List Loc) (ls : Array Slot), lv_has ls 7 [(1, .ref f1), (2, .ref f2), (3, .ref f3), (4, .int f4), (5, .int v5)] → sj_H G s w H locs → sj_lp1 (vb_X5_holds_38 f1 f2 f3 f4 Q E) n v5 w → W p l e rm_X5_holds s m args below meth c H locs 26 426 (sj_MQ G below (va_Qi Q (sj_B G) (sj_F G)) QX args s rm_X5_holds) (F0 m 38 ls []) := by
  have hx := hC.1
  have hb := hC.2.1
  intro n
  induction n with
  | zero =>
    intro v5 w H locs ls _ _ hv
    exact hv.elim
  | succ n ih =>
    intro v5 w H locs ls hl hH hv
    have hv : vb_X5_holds_38 f1 f2 f3 f4 Q E (sj_lp1 (vb_X5_holds_38 f1 f2 f3 f4 Q E) n) v5 w := hv
    have hc1 : rm_X5_holds.cells = 26 := rfl
    have hc2 : rm_X5_holds.slots = 426 := rfl
    refine lv_iload hx hb dX5_holds_38 (lv_at hl 4 rfl) ?_
    refine lv_aload_n hx hb dX5_holds_40 rfl (lv_at hl 0 rfl) ?_
    refine sj_alen hC hH hv.1 dX5_holds_41 ?_
    refine lv_icmp_ge (tgt := 160) hx hb dX5_holds_42 (by decide) (fun hc => ?_) (fun hc => ?_)
    · have hv17 := hv.2.1 hc
      exact hE  w _ _ _ (lv_sub hl [0, 1, 2, 3] rfl) hH hv17
    · have hv18 := hv.2.2 hc
      refine lv_iload hx hb dX5_holds_45 (lv_at hl 3 rfl) ?_
      refine lv_iload hx hb dX5_holds_47 (lv_at hl 4 rfl) ?_
      obtain ⟨E19, hE20, hv23⟩ := sj_jn1_e hv18
      have hJ21 : ∀ (y0_145 : Int32) (w_145 : sj_W) (H : Heap) (locs : List Loc) (ls : Array Slot), lv_has ls 7 [(1, .ref f1), (2, .ref f2), (3, .ref f3), (4, .int f4), (5, .int v5)] → sj_H G s w_145 H locs → E19 y0_145 w_145 → W p l e rm_X5_holds s m args below meth c H locs 26 426 (sj_MQ G below (va_Qi Q (sj_B G) (sj_F G)) QX args s rm_X5_holds) (F0 m 145 ls [.int y0_145]) := by
        intro y0_145 w_145 H locs ls hl hH hv24
        rw [hE20] at hv24
        refine lv_istore (lv' := [(6, .int y0_145), (1, .ref f1), (2, .ref f2), (3, .ref f3), (4, .int f4), (5, .int v5)]) hx hb dX5_holds_145 hl (by decide) rfl (fun ls hl => ?_)
        refine lv_iload hx hb dX5_holds_147 (lv_at hl 0 rfl) ?_
        refine lv_if_ne (tgt := 154) hx hb dX5_holds_149 (by decide) (fun hc => ?_) (fun hc => ?_)
        · have hv52 := hv24.1 hc
          refine lv_iinc (v := (v5 + 1)) (lv' := [(5, .int (v5 + 1)), (6, .int y0_145), (1, .ref f1), (2, .ref f2), (3, .ref f3), (4, .int f4)]) hx hb dX5_holds_154 hl (k := 5) rfl rfl (by decide) rfl (fun ls hl => ?_)
          refine lv_goto (tgt := 38) hx hb dX5_holds_157 (by decide) ?_
          exact ih (v5 + 1) w_145 _ _ _ (lv_sub hl [2, 3, 4, 5, 0] rfl) hH hv52
        · have hv53 := hv24.2 hc
          refine lv_iconst (v := 0) hx hb dX5_holds_152 (by decide) ?_
          exact sj_retI hC hD.2 hH hr rfl hv53 ⟨(Nat.le_of_ble_eq_true rfl), (Nat.le_of_ble_eq_true rfl)⟩ dX5_holds_153
      clear hE20
      refine lv_icmp_eq (tgt := 140) hx hb dX5_holds_49 (by decide) (fun hc => ?_) (fun hc => ?_)
      · have hv25 := hv23.1 hc
        refine lv_iconst (v := 1) hx hb dX5_holds_140 (by decide) ?_
        refine lv_goto (tgt := 145) hx hb dX5_holds_141 (by decide) ?_
        exact hJ21 1 w _ _ _ (lv_sub hl [0, 1, 2, 3, 4] rfl) hH hv25
      · have hv26 := hv23.2 hc
        refine lv_aload_n hx hb dX5_holds_52 rfl (lv_at hl 0 rfl) ?_
        refine lv_iload hx hb dX5_holds_53 (lv_at hl 3 rfl) ?_
        refine sj_aald hC hH hv26.1 hv26.2.1 hv26.2.2.1 dX5_holds_55 ?_
        refine lv_aload_n hx hb dX5_holds_56 rfl (lv_at hl 0 rfl) ?_
        refine lv_iload hx hb dX5_holds_57 (lv_at hl 4 rfl) ?_
        refine sj_aald hC hH hv26.2.2.2.1 hv26.2.2.2.2.1 hv26.2.2.2.2.2.1 dX5_holds_59 ?_
        refine cl_X5_15 hC hD hH hv26.2.2.2.2.2.2 ⟨Nat.le_of_ble_eq_true rfl, Nat.le_of_ble_eq_true rfl⟩ ⟨(Nat.le_of_ble_eq_true rfl), (Nat.le_of_ble_eq_true rfl)⟩ ⟨(Nat.le_of_ble_eq_true rfl), (Nat.le_of_ble_eq_true rfl)⟩ hl.1 (Nat.le_of_ble_eq_true rfl) dX5_holds_60 (fun r27 w28 H locs hH hv29 => ?_)
        refine lv_if_eq (tgt := 144) hx hb dX5_holds_63 (by decide) (fun hc => ?_) (fun hc => ?_)
        · have hv30 := hv29.1 hc
          refine lv_iconst (v := 0) hx hb dX5_holds_144 (by decide) ?_
          exact hJ21 0 w28 _ _ _ (lv_sub hl [0, 1, 2, 3, 4] rfl) hH hv30
        · have hv31 := hv29.2 hc
          refine lv_aload_n hx hb dX5_holds_66 rfl (lv_at hl 0 rfl) ?_
          refine lv_iload hx hb dX5_holds_67 (lv_at hl 3 rfl) ?_
          refine sj_aald hC hH hv31.1 hv31.2.1 hv31.2.2.1 dX5_holds_69 ?_
          refine lv_aload_n hx hb dX5_holds_70 rfl (lv_at hl 0 rfl) ?_
          refine lv_iload hx hb dX5_holds_71 (lv_at hl 4 rfl) ?_
          refine sj_aald hC hH hv31.2.2.2.1 hv31.2.2.2.2.1 hv31.2.2.2.2.2.1 dX5_holds_73 ?_
          refine lv_iconst (v := 0) hx hb dX5_holds_74 (by decide) ?_
          refine cl_X5_19 hC hD hH hv31.2.2.2.2.2.2 ⟨Nat.le_of_ble_eq_true rfl, Nat.le_of_ble_eq_true rfl⟩ ⟨(Nat.le_of_ble_eq_true rfl), (Nat.le_of_ble_eq_true rfl)⟩ ⟨(Nat.le_of_ble_eq_true rfl), (Nat.le_of_ble_eq_true rfl)⟩ hl.1 (Nat.le_of_ble_eq_true rfl) dX5_holds_75 (fun r32 w33 H locs hH hv34 => ?_)
          refine lv_if_eq (tgt := 144) hx hb dX5_holds_78 (by decide) (fun hc => ?_) (fun hc => ?_)
          · have hv35 := hv34.1 hc
            refine lv_iconst (v := 0) hx hb dX5_holds_144 (by decide) ?_
            exact hJ21 0 w33 _ _ _ (lv_sub hl [0, 1, 2, 3, 4] rfl) hH hv35
          · have hv36 := hv34.2 hc
            refine lv_aload_n hx hb dX5_holds_81 rfl (lv_at hl 0 rfl) ?_
            refine lv_iload hx hb dX5_holds_82 (lv_at hl 3 rfl) ?_
            refine sj_aald hC hH hv36.1 hv36.2.1 hv36.2.2.1 dX5_holds_84 ?_
            refine lv_aload_n hx hb dX5_holds_85 rfl (lv_at hl 0 rfl) ?_
            refine lv_iload hx hb dX5_holds_86 (lv_at hl 4 rfl) ?_
            refine sj_aald hC hH hv36.2.2.2.1 hv36.2.2.2.2.1 hv36.2.2.2.2.2.1 dX5_holds_88 ?_
            refine lv_iconst (v := 1) hx hb dX5_holds_89 (by decide) ?_
            refine cl_X5_19 hC hD hH hv36.2.2.2.2.2.2 ⟨Nat.le_of_ble_eq_true rfl, Nat.le_of_ble_eq_true rfl⟩ ⟨(Nat.le_of_ble_eq_true rfl), (Nat.le_of_ble_eq_true rfl)⟩ ⟨(Nat.le_of_ble_eq_true rfl), (Nat.le_of_ble_eq_true rfl)⟩ hl.1 (Nat.le_of_ble_eq_true rfl) dX5_holds_90 (fun r37 w38 H locs hH hv39 => ?_)
            refine lv_if_eq (tgt := 144) hx hb dX5_holds_93 (by decide) (fun hc => ?_) (fun hc => ?_)
            · have hv40 := hv39.1 hc
              refine lv_iconst (v := 0) hx hb dX5_holds_144 (by decide) ?_
              exact hJ21 0 w38 _ _ _ (lv_sub hl [0, 1, 2, 3, 4] rfl) hH hv40
            · have hv41 := hv39.2 hc
              refine lv_aload_n hx hb dX5_holds_96 rfl (lv_at hl 0 rfl) ?_
              refine lv_iload hx hb dX5_holds_97 (lv_at hl 3 rfl) ?_
              refine sj_aald hC hH hv41.1 hv41.2.1 hv41.2.2.1 dX5_holds_99 ?_
              refine lv_aload_n hx hb dX5_holds_100 rfl (lv_at hl 0 rfl) ?_
              refine lv_iload hx hb dX5_holds_101 (lv_at hl 4 rfl) ?_
              refine sj_aald hC hH hv41.2.2.2.1 hv41.2.2.2.2.1 hv41.2.2.2.2.2.1 dX5_holds_103 ?_
              refine lv_aload_n hx hb dX5_holds_104 rfl (lv_at hl 1 rfl) ?_
              refine lv_iload hx hb dX5_holds_105 (lv_at hl 3 rfl) ?_
              refine sj_aald hC hH hv41.2.2.2.2.2.2.1 hv41.2.2.2.2.2.2.2.1 hv41.2.2.2.2.2.2.2.2.1 dX5_holds_107 ?_
              refine lv_aload_n hx hb dX5_holds_108 rfl (lv_at hl 1 rfl) ?_
              refine lv_iload hx hb dX5_holds_109 (lv_at hl 4 rfl) ?_
              refine sj_aald hC hH hv41.2.2.2.2.2.2.2.2.2.1 hv41.2.2.2.2.2.2.2.2.2.2.1 hv41.2.2.2.2.2.2.2.2.2.2.2.1 dX5_holds_111 ?_
              refine cl_X5_23 hC hD hH hv41.2.2.2.2.2.2.2.2.2.2.2.2 ⟨Nat.le_of_ble_eq_true rfl, Nat.le_of_ble_eq_true rfl⟩ ⟨(Nat.le_of_ble_eq_true rfl), (Nat.le_of_ble_eq_true rfl)⟩ ⟨(Nat.le_of_ble_eq_true rfl), (Nat.le_of_ble_eq_true rfl)⟩ hl.1 (Nat.le_of_ble_eq_true rfl) dX5_holds_112 (fun r42 w43 H locs hH hv44 => ?_)
              refine lv_if_eq (tgt := 144) hx hb dX5_holds_115 (by decide) (fun hc => ?_) (fun hc => ?_)
              · have hv45 := hv44.1 hc
                refine lv_iconst (v := 0) hx hb dX5_holds_144 (by decide) ?_
                exact hJ21 0 w43 _ _ _ (lv_sub hl [0, 1, 2, 3, 4] rfl) hH hv45
              · have hv46 := hv44.2 hc
                refine lv_aload_n hx hb dX5_holds_118 rfl (lv_at hl 0 rfl) ?_
                refine lv_iload hx hb dX5_holds_119 (lv_at hl 3 rfl) ?_
                refine sj_aald hC hH hv46.1 hv46.2.1 hv46.2.2.1 dX5_holds_121 ?_
                refine lv_aload_n hx hb dX5_holds_122 rfl (lv_at hl 0 rfl) ?_
                refine lv_iload hx hb dX5_holds_123 (lv_at hl 4 rfl) ?_
                refine sj_aald hC hH hv46.2.2.2.1 hv46.2.2.2.2.1 hv46.2.2.2.2.2.1 dX5_holds_125 ?_
                refine lv_aload_n hx hb dX5_holds_126 rfl (lv_at hl 2 rfl) ?_
                refine lv_iload hx hb dX5_holds_127 (lv_at hl 3 rfl) ?_
                refine sj_aald hC hH hv46.2.2.2.2.2.2.1 hv46.2.2.2.2.2.2.2.1 hv46.2.2.2.2.2.2.2.2.1 dX5_holds_129 ?_
                refine lv_aload_n hx hb dX5_holds_130 rfl (lv_at hl 2 rfl) ?_
                refine lv_iload hx hb dX5_holds_131 (lv_at hl 4 rfl) ?_
                refine sj_aald hC hH hv46.2.2.2.2.2.2.2.2.2.1 hv46.2.2.2.2.2.2.2.2.2.2.1 hv46.2.2.2.2.2.2.2.2.2.2.2.1 dX5_holds_133 ?_
                refine cl_X5_23 hC hD hH hv46.2.2.2.2.2.2.2.2.2.2.2.2 ⟨Nat.le_of_ble_eq_true rfl, Nat.le_of_ble_eq_true rfl⟩ ⟨(Nat.le_of_ble_eq_true rfl), (Nat.le_of_ble_eq_true rfl)⟩ ⟨(Nat.le_of_ble_eq_true rfl), (Nat.le_of_ble_eq_true rfl)⟩ hl.1 (Nat.le_of_ble_eq_true rfl) dX5_holds_134 (fun r47 w48 H locs hH hv49 => ?_)
                refine lv_if_eq (tgt := 144) hx hb dX5_holds_137 (by decide) (fun hc => ?_) (fun hc => ?_)
                · have hv50 := hv49.1 hc
                  refine lv_iconst (v := 0) hx hb dX5_holds_144 (by decide) ?_
                  exact hJ21 0 w48 _ _ _ (lv_sub hl [0, 1, 2, 3, 4] rfl) hH hv50
                · have hv51 := hv49.2 hc
                  refine lv_iconst (v := 1) hx hb dX5_holds_140 (by decide) ?_
                  refine lv_goto (tgt := 145) hx hb dX5_holds_141 (by decide) ?_
                  exact hJ21 1 w48 _ _ _ (lv_sub hl [0, 1, 2, 3, 4] rfl) hH hv51
set_option maxHeartbeats 4000000 in
set_option maxRecDepth 100000 in
theorem wl_X5_holds_28 {p : Program} {l : Launch} {e : Env} {s : State} {m : MethodId} {args : Array Value} {below : List Frame} {meth : Method} {c : Code} {G : sj_G} {f1 : Nat} {f2 : Nat} {f3 : Nat} {Q : Int32 → sj_W → Prop} {QX : String → sj_W → Prop} {E : sj_W → Prop} (hC : sj_C G p l s m args c cX5_holds RX5 7) (hD : sj_D meth c) (hr : meth.sig.returnType = (some .boolean)) (hin : meth.name = "holds") (hE : ∀ (w : sj_W) (H : Heap) (locs : List Loc) (ls : Array Slot), lv_has ls 7 [(1, .ref f1)] → sj_H G s w H locs → E w → W p l e rm_X5_holds s m args below meth c H locs 26 426 (sj_MQ G below (va_Qi Q (sj_B G) (sj_F G)) QX args s rm_X5_holds) (F0 m 166 ls [])) : ∀ (n : Nat) (v4 : Int32) (w : sj_W) (H : Heap) (locs : List Loc) (ls : Array Slot), lv_has ls 7 [(1, .ref f1), (2, .ref f2), (3, .ref f3), (4, .int v4)] → sj_H G s w H locs → sj_lp1 (vb_X5_holds_28 f1 f2 f3 Q E) n v4 w → W p l e rm_X5_holds s m args below meth c H locs 26 426 (sj_MQ G below (va_Qi Q (sj_B G) (sj_F G)) QX args s rm_X5_holds) (F0 m 28 ls []) := by
  have hx := hC.1
  have hb := hC.2.1
  intro n
  induction n with
  | zero =>
    intro v4 w H locs ls _ _ hv
    exact hv.elim
  | succ n ih =>
    intro v4 w H locs ls hl hH hv
    have hv : vb_X5_holds_28 f1 f2 f3 Q E (sj_lp1 (vb_X5_holds_28 f1 f2 f3 Q E) n) v4 w := hv
    have hc1 : rm_X5_holds.cells = 26 := rfl
    have hc2 : rm_X5_holds.slots = 426 := rfl
    refine lv_iload hx hb dX5_holds_28 (lv_at hl 3 rfl) ?_
    refine lv_aload_n hx hb dX5_holds_30 rfl (lv_at hl 0 rfl) ?_
    refine sj_alen hC hH hv.1 dX5_holds_31 ?_
    refine lv_icmp_ge (tgt := 166) hx hb dX5_holds_32 (by decide) (fun hc => ?_) (fun hc => ?_)
    · have hv15 := hv.2.1 hc
      exact hE  w _ _ _ (lv_sub hl [0] rfl) hH hv15
    · have hv16 := hv.2.2 hc
      refine lv_iconst (v := 0) hx hb dX5_holds_35 (by decide) ?_
      refine lv_istore (lv' := [(5, .int 0), (1, .ref f1), (2, .ref f2), (3, .ref f3), (4, .int v4)]) hx hb dX5_holds_36 hl (by decide) rfl (fun ls hl => ?_)
      refine wl_X5_holds_38 hC hD hr hin (fun w_38 H locs ls hl hH hv54 => ?_) 64 0 w _ _ _ (lv_sub hl [1, 2, 3, 4, 0] rfl) hH hv16
      refine lv_iinc (v := (v4 + 1)) (lv' := [(4, .int (v4 + 1)), (1, .ref f1), (2, .ref f2), (3, .ref f3)]) hx hb dX5_holds_160 hl (k := 3) rfl rfl (by decide) rfl (fun ls hl => ?_)
      refine lv_goto (tgt := 28) hx hb dX5_holds_163 (by decide) ?_
      exact ih (v4 + 1) w_38 _ _ _ (lv_sub hl [1, 2, 3, 0] rfl) hH hv54
set_option maxHeartbeats 4000000 in
set_option maxRecDepth 100000 in
theorem wk_X5_holds (G : sj_G) (l : Launch) (hlt : l.stackTraces = false) (a1 : Int32) (a2 : Nat) (w : sj_W) (Q : Int32 → sj_W → Prop) (QX : String → sj_W → Prop) (hv : vc_X5_holds a1 a2 w Q) : sj_MI G l yX5_holds (sj_ws yX5_holds cX5_holds 7 (some .boolean)) rm_X5_holds [.int a1, .ref a2] w Q QX := by
  refine sj_of (by decide +kernel) (Nat.le_of_ble_eq_true rfl) hlt ?_
  intro p e s m args below meth c ls hC hD hr hin hH hl
  have hx := hC.1
  have hb := hC.2.1
  have hl : lv_has ls 7 [(0, .int a1), (1, .ref a2)] := hl
  refine lv_iload_n hx hb dX5_holds_0 rfl (lv_at hl 0 rfl) ?_
  refine lv_bipush (v := 116) hx hb dX5_holds_1 (by decide) ?_
  refine lv_aload_n hx hb dX5_holds_3 rfl (lv_at hl 1 rfl) ?_
  refine cl_X5_9 hC hD hH hv ⟨Nat.le_of_ble_eq_true rfl, Nat.le_of_ble_eq_true rfl⟩ ⟨(Nat.le_of_ble_eq_true rfl), (Nat.le_of_ble_eq_true rfl)⟩ ⟨(Nat.le_of_ble_eq_true rfl), (Nat.le_of_ble_eq_true rfl)⟩ hl.1 (Nat.le_of_ble_eq_true rfl) dX5_holds_4 (fun r1 w2 H locs hH hv3 => ?_)
  refine lv_astore_n (lv' := [(2, .ref r1), (0, .int a1), (1, .ref a2)]) hx hb dX5_holds_7 rfl hl (by decide) rfl (fun ls hl => ?_)
  refine lv_iload_n hx hb dX5_holds_8 rfl (lv_at hl 1 rfl) ?_
  refine lv_iconst (v := 3) hx hb dX5_holds_9 (by decide) ?_
  obtain ⟨E4, hE5, hv8⟩ := sj_jn1_e hv3
  have hJ6 : ∀ (y0_24 : Nat) (w_24 : sj_W) (H : Heap) (locs : List Loc) (ls : Array Slot), lv_has ls 7 [(1, .ref a2), (2, .ref r1)] → sj_H G s w_24 H locs → E4 y0_24 w_24 → W p l e rm_X5_holds s m args below meth c H locs 26 426 (sj_MQ G below (va_Qi Q (sj_B G) (sj_F G)) QX args s rm_X5_holds) (F0 m 24 ls [.ref y0_24]) := by
    intro y0_24 w_24 H locs ls hl hH hv9
    rw [hE5] at hv9
    refine lv_astore_n (lv' := [(3, .ref y0_24), (1, .ref a2), (2, .ref r1)]) hx hb dX5_holds_24 rfl hl (by decide) rfl (fun ls hl => ?_)
    refine lv_iconst (v := 0) hx hb dX5_holds_25 (by decide) ?_
    refine lv_istore (lv' := [(4, .int 0), (3, .ref y0_24), (1, .ref a2), (2, .ref r1)]) hx hb dX5_holds_26 hl (by decide) rfl (fun ls hl => ?_)
    refine wl_X5_holds_28 hC hD hr hin (fun w_28 H locs ls hl hH hv55 => ?_) 64 0 w_24 _ _ _ (lv_sub hl [2, 3, 1, 0] rfl) hH hv9
    refine lv_aload_n hx hb dX5_holds_166 rfl (lv_at hl 0 rfl) ?_
    refine lv_iconst (v := 0) hx hb dX5_holds_167 (by decide) ?_
    refine cl_X5_27 hC hD hH hv55 ⟨Nat.le_of_ble_eq_true rfl, Nat.le_of_ble_eq_true rfl⟩ ⟨(Nat.le_of_ble_eq_true rfl), (Nat.le_of_ble_eq_true rfl)⟩ ⟨(Nat.le_of_ble_eq_true rfl), (Nat.le_of_ble_eq_true rfl)⟩ hl.1 (Nat.le_of_ble_eq_true rfl) dX5_holds_168 (fun r56 w57 H locs hH hv58 => ?_)
    refine lv_if_eq (tgt := 186) hx hb dX5_holds_171 (by decide) (fun hc => ?_) (fun hc => ?_)
    · have hv59 := hv58.1 hc
      refine lv_iconst (v := 0) hx hb dX5_holds_186 (by decide) ?_
      exact sj_retI hC hD.2 hH hr rfl hv59 ⟨(Nat.le_of_ble_eq_true rfl), (Nat.le_of_ble_eq_true rfl)⟩ dX5_holds_187
    · have hv60 := hv58.2 hc
      refine lv_aload_n hx hb dX5_holds_174 rfl (lv_at hl 0 rfl) ?_
      refine lv_iconst (v := 1) hx hb dX5_holds_175 (by decide) ?_
      refine cl_X5_27 hC hD hH hv60 ⟨Nat.le_of_ble_eq_true rfl, Nat.le_of_ble_eq_true rfl⟩ ⟨(Nat.le_of_ble_eq_true rfl), (Nat.le_of_ble_eq_true rfl)⟩ ⟨(Nat.le_of_ble_eq_true rfl), (Nat.le_of_ble_eq_true rfl)⟩ hl.1 (Nat.le_of_ble_eq_true rfl) dX5_holds_176 (fun r61 w62 H locs hH hv63 => ?_)
      refine lv_if_eq (tgt := 186) hx hb dX5_holds_179 (by decide) (fun hc => ?_) (fun hc => ?_)
      · have hv64 := hv63.1 hc
        refine lv_iconst (v := 0) hx hb dX5_holds_186 (by decide) ?_
        exact sj_retI hC hD.2 hH hr rfl hv64 ⟨(Nat.le_of_ble_eq_true rfl), (Nat.le_of_ble_eq_true rfl)⟩ dX5_holds_187
      · have hv65 := hv63.2 hc
        refine lv_iconst (v := 1) hx hb dX5_holds_182 (by decide) ?_
        refine lv_goto (tgt := 187) hx hb dX5_holds_183 (by decide) ?_
        exact sj_retI hC hD.2 hH hr rfl hv65 ⟨(Nat.le_of_ble_eq_true rfl), (Nat.le_of_ble_eq_true rfl)⟩ dX5_holds_187
  clear hE5
  refine lv_icmp_ne (tgt := 17) hx hb dX5_holds_10 (by decide) (fun hc => ?_) (fun hc => ?_)
  · have hv10 := hv8.1 hc
    refine lv_iload_n hx hb dX5_holds_17 rfl (lv_at hl 1 rfl) ?_
    refine lv_bipush (v := 117) hx hb dX5_holds_18 (by decide) ?_
    refine lv_aload_n hx hb dX5_holds_20 rfl (lv_at hl 2 rfl) ?_
    refine cl_X5_9 hC hD hH hv10 ⟨Nat.le_of_ble_eq_true rfl, Nat.le_of_ble_eq_true rfl⟩ ⟨(Nat.le_of_ble_eq_true rfl), (Nat.le_of_ble_eq_true rfl)⟩ ⟨(Nat.le_of_ble_eq_true rfl), (Nat.le_of_ble_eq_true rfl)⟩ hl.1 (Nat.le_of_ble_eq_true rfl) dX5_holds_21 (fun r11 w12 H locs hH hv13 => ?_)
    exact hJ6 r11 w12 _ _ _ (lv_sub hl [2, 0] rfl) hH hv13
  · have hv14 := hv8.2 hc
    refine lv_aload_n hx hb dX5_holds_13 rfl (lv_at hl 0 rfl) ?_
    refine lv_goto (tgt := 24) hx hb dX5_holds_14 (by decide) ?_
    refine W.widen (k := 26) (n := 426) (Nat.le_of_ble_eq_true rfl) (Nat.le_of_ble_eq_true rfl) ?_
    exact hJ6 r1 w2 _ _ _ (lv_sub hl [2, 0] rfl) hH hv14
section SJL_X5_holds
variable {p : Program} {l : Launch} {e : Env} {R : Room} {s : State} {m : MethodId} {args : Array Value} {below : List Frame} {meth : Method} {c : Code} {H : Heap} {locs : List Loc} {cells slots : Nat} {Q : State → Prop} {cc : ByteArray} {pc : Nat} {ls : Array Slot} {rest : List Value} {G : sj_G} {nL : Nat} {w : sj_W}
theorem cl_X6_204 {rmM : Room} {QcM : Array Value → State → Outcome → State → Prop} {QX : String → sj_W → Prop} {b0 : Int32} {b1 : Nat} {Qi : Int32 → sj_W → Prop} (hC : sj_C G p l s m args c cc RX6 nL) (hD : sj_D meth c) (hH : sj_H G s w H locs) (hv : vc_X5_holds b0 b1 w Qi) (hR : rm_X5_holds.frames + 1 ≤ R.frames ∧ 8 + (7 + 11) + rm_X5_holds.locals ≤ R.locals) (hf : cells + 26 ≤ R.cells ∧ slots + 426 ≤ R.slots) (hfM : cells + 26 ≤ rmM.cells ∧ slots + 426 ≤ rmM.slots) (hls : ls.size = nL) (hW : (rest.map fun v => v.category).sum ≤ 8) (hdg : decode cc pc = .ok (.invokestatic 204, 3)) (kk : ∀ (r : Int32) (w1 : sj_W) (H : Heap) (locs : List Loc), sj_H G s w1 H locs → Qi r w1 → W p l e R s m args below meth c H locs (cells + 26) (slots + 426) (sj_MQ G below QcM QX args s rmM) (F0 m (pc + 3) ls (.int r :: rest))) : W p l e R s m args below meth c H locs cells slots (sj_MQ G below QcM QX args s rmM) (F0 m pc ls (.ref b1 :: .int b0 :: rest)) :=
  sj_cI hD hH (sj_runSN (n := 2) hC hH (As := [.int b0, .ref b1]) (wk_X5_holds G l hC.2.2.2.2.2.2 b0 b1 w Qi QX hv) mb_622 mb_623 mb_14 mb_624 (by decide +kernel) hR hf rfl hls hW hdg) hfM kk
end SJL_X5_holds
abbrev rm_X6_isTrue : Room := { frames := 7, cells := 34, slots := 471, locals := 144 }
def vc_X6_isTrue (self : Nat) (a1 : Int32) (a2 : Int32) (a3 : Int32) (a4 : Int32) (w : sj_W) (Q : Int32 → sj_W → Prop) (QX : String → sj_W → Prop) : Prop := vc_X6_kindOf a1 w (fun r1 w2 => sj_T w2 self = 5 ∧ vc_X6_spanOf self a2 w2 (fun r4 w5 => sj_T w5 self = 5 ∧ vc_X6_spanOf self a3 w5 (fun r7 w8 => sj_T w8 self = 5 ∧ vc_X6_spanOf self a4 w8 (fun r10 w11 => ∀ q13 : Nat, q13 ≠ 0 → sj_T w11 q13 = 0 → ∀ w14 : sj_W, w14 = sj_nw w11 q13 12 3 → sj_T w14 self = 5 ∧ vc_X6_fittingWord self r1 r4 w14 (fun r18 w19 => sj_T w19 q13 = 12 ∧ sj_T w19 r18 = 4 ∧ vp_in 0 (sj_N w19 q13) ∧ r18 ≠ 0 ∧ ∀ w21 : sj_W, w21 = sj_sr w19 q13 (0 : Int32).toNatClampNeg r18 → sj_T w21 self = 5 ∧ vc_X6_fittingWord self r1 r7 w21 (fun r23 w24 => sj_T w24 q13 = 12 ∧ sj_T w24 r23 = 4 ∧ vp_in 1 (sj_N w24 q13) ∧ r23 ≠ 0 ∧ ∀ w26 : sj_W, w26 = sj_sr w24 q13 (1 : Int32).toNatClampNeg r23 → sj_T w26 self = 5 ∧ vc_X6_fittingWord self r1 r10 w26 (fun r28 w29 => sj_T w29 q13 = 12 ∧ sj_T w29 r28 = 4 ∧ vp_in 2 (sj_N w29 q13) ∧ r28 ≠ 0 ∧ ∀ w31 : sj_W, w31 = sj_sr w29 q13 (2 : Int32).toNatClampNeg r28 → vc_X5_holds r1 q13 w31 (fun r33 w34 => (r33 = 0 ∨ r33 = 1) ∧ Q r33 w34)) QX) QX) QX) QX) QX) QX) QX
set_option maxHeartbeats 4000000 in
set_option maxRecDepth 100000 in
theorem wk_X6_isTrue (G : sj_G) (l : Launch) (hlt : l.stackTraces = false) (self : Nat) (a1 : Int32) (a2 : Int32) (a3 : Int32) (a4 : Int32) (w : sj_W) (Q : Int32 → sj_W → Prop) (QX : String → sj_W → Prop) (hv : vc_X6_isTrue self a1 a2 a3 a4 w Q QX) : sj_MI G l yX6_isTrue (sj_ws yX6_isTrue cX6_isTrue 10 (some .boolean)) rm_X6_isTrue [.ref self, .int a1, .int a2, .int a3, .int a4] w Q QX := by
  refine sj_of (by decide +kernel) (Nat.le_of_ble_eq_true rfl) hlt ?_
  intro p e s m args below meth c ls hC hD hr hin hH hl
  have hx := hC.1
  have hb := hC.2.1
  have hl : lv_has ls 10 [(0, .ref self), (1, .int a1), (2, .int a2), (3, .int a3), (4, .int a4)] := hl
  refine lv_iload_n hx hb dX6_isTrue_0 rfl (lv_at hl 1 rfl) ?_
  refine cl_X6_34 hC hD hH hv ⟨Nat.le_of_ble_eq_true rfl, Nat.le_of_ble_eq_true rfl⟩ ⟨(Nat.le_of_ble_eq_true rfl), (Nat.le_of_ble_eq_true rfl)⟩ ⟨(Nat.le_of_ble_eq_true rfl), (Nat.le_of_ble_eq_true rfl)⟩ hl.1 (Nat.le_of_ble_eq_true rfl) dX6_isTrue_1 (fun r1 w2 H locs hH hv3 => ?_)
  refine lv_istore (lv' := [(5, .int r1), (0, .ref self), (1, .int a1), (2, .int a2), (3, .int a3), (4, .int a4)]) hx hb dX6_isTrue_4 hl (by decide) rfl (fun ls hl => ?_)
  refine lv_aload_n hx hb dX6_isTrue_6 rfl (lv_at hl 1 rfl) ?_
  refine lv_iload_n hx hb dX6_isTrue_7 rfl (lv_at hl 3 rfl) ?_
  refine cl_X6_89 hC hD hH hv3.2 hv3.1 ⟨Nat.le_of_ble_eq_true rfl, Nat.le_of_ble_eq_true rfl⟩ ⟨(Nat.le_of_ble_eq_true rfl), (Nat.le_of_ble_eq_true rfl)⟩ ⟨(Nat.le_of_ble_eq_true rfl), (Nat.le_of_ble_eq_true rfl)⟩ hl.1 (Nat.le_of_ble_eq_true rfl) dX6_isTrue_8 (fun r4 w5 H locs hH hv6 => ?_)
  refine lv_astore (lv' := [(6, .ref r4), (5, .int r1), (0, .ref self), (1, .int a1), (2, .int a2), (3, .int a3), (4, .int a4)]) hx hb dX6_isTrue_11 hl (by decide) rfl (fun ls hl => ?_)
  refine lv_aload_n hx hb dX6_isTrue_13 rfl (lv_at hl 2 rfl) ?_
  refine lv_iload_n hx hb dX6_isTrue_14 rfl (lv_at hl 5 rfl) ?_
  refine cl_X6_89 hC hD hH hv6.2 hv6.1 ⟨Nat.le_of_ble_eq_true rfl, Nat.le_of_ble_eq_true rfl⟩ ⟨(Nat.le_of_ble_eq_true rfl), (Nat.le_of_ble_eq_true rfl)⟩ ⟨(Nat.le_of_ble_eq_true rfl), (Nat.le_of_ble_eq_true rfl)⟩ hl.1 (Nat.le_of_ble_eq_true rfl) dX6_isTrue_15 (fun r7 w8 H locs hH hv9 => ?_)
  refine lv_astore (lv' := [(7, .ref r7), (6, .ref r4), (5, .int r1), (0, .ref self), (1, .int a1), (2, .int a2), (3, .int a3), (4, .int a4)]) hx hb dX6_isTrue_18 hl (by decide) rfl (fun ls hl => ?_)
  refine lv_aload_n hx hb dX6_isTrue_20 rfl (lv_at hl 3 rfl) ?_
  refine lv_iload hx hb dX6_isTrue_21 (lv_at hl 7 rfl) ?_
  refine cl_X6_89 hC hD hH hv9.2 hv9.1 ⟨Nat.le_of_ble_eq_true rfl, Nat.le_of_ble_eq_true rfl⟩ ⟨(Nat.le_of_ble_eq_true rfl), (Nat.le_of_ble_eq_true rfl)⟩ ⟨(Nat.le_of_ble_eq_true rfl), (Nat.le_of_ble_eq_true rfl)⟩ hl.1 (Nat.le_of_ble_eq_true rfl) dX6_isTrue_23 (fun r10 w11 H locs hH hv12 => ?_)
  refine lv_astore (lv' := [(8, .ref r10), (7, .ref r7), (6, .ref r4), (5, .int r1), (0, .ref self), (1, .int a1), (2, .int a2), (3, .int a3), (4, .int a4)]) hx hb dX6_isTrue_26 hl (by decide) rfl (fun ls hl => ?_)
  refine lv_iconst (v := 3) hx hb dX6_isTrue_28 (by decide) ?_
  refine sj_newQ (t := 5) hC hH (by decide) (by decide) mb_378 rfl (by decide) rfl (by decide) (Nat.le_of_ble_eq_true rfl) (Nat.le_of_ble_eq_true rfl) dX6_isTrue_29 (fun q13 w14 H h16 h17 e15 hH => ?_)
  refine lv_dup hx hb dX6_isTrue_32 rfl ?_
  refine lv_iconst (v := 0) hx hb dX6_isTrue_33 (by decide) ?_
  refine lv_aload_n hx hb dX6_isTrue_34 rfl (lv_at hl 4 rfl) ?_
  refine lv_iload hx hb dX6_isTrue_35 (lv_at hl 3 rfl) ?_
  refine lv_aload hx hb dX6_isTrue_37 (lv_at hl 2 rfl) ?_
  refine cl_X6_116 hC hD hH (hv12 q13 h16 h17 w14 e15).2 (hv12 q13 h16 h17 w14 e15).1 ⟨Nat.le_of_ble_eq_true rfl, Nat.le_of_ble_eq_true rfl⟩ ⟨(Nat.le_of_ble_eq_true rfl), (Nat.le_of_ble_eq_true rfl)⟩ ⟨(Nat.le_of_ble_eq_true rfl), (Nat.le_of_ble_eq_true rfl)⟩ hl.1 (Nat.le_of_ble_eq_true rfl) dX6_isTrue_39 (fun r18 w19 H locs hH hv20 => ?_)
  refine sj_aast (t := 5) (ci := 3) (r := (RX4, TX4, 3)) hC hH hv20.1 (by decide) rfl (by decide) rfl hv20.2.1 hv20.2.2.1 hv20.2.2.2.1 dX6_isTrue_42 (fun w21 H locs e22 hH => ?_)
  refine lv_dup hx hb dX6_isTrue_43 rfl ?_
  refine lv_iconst (v := 1) hx hb dX6_isTrue_44 (by decide) ?_
  refine lv_aload_n hx hb dX6_isTrue_45 rfl (lv_at hl 4 rfl) ?_
  refine lv_iload hx hb dX6_isTrue_46 (lv_at hl 3 rfl) ?_
  refine lv_aload hx hb dX6_isTrue_48 (lv_at hl 1 rfl) ?_
  refine cl_X6_116 hC hD hH (hv20.2.2.2.2 w21 e22).2 (hv20.2.2.2.2 w21 e22).1 ⟨Nat.le_of_ble_eq_true rfl, Nat.le_of_ble_eq_true rfl⟩ ⟨(Nat.le_of_ble_eq_true rfl), (Nat.le_of_ble_eq_true rfl)⟩ ⟨(Nat.le_of_ble_eq_true rfl), (Nat.le_of_ble_eq_true rfl)⟩ hl.1 (Nat.le_of_ble_eq_true rfl) dX6_isTrue_50 (fun r23 w24 H locs hH hv25 => ?_)
  refine sj_aast (t := 5) (ci := 3) (r := (RX4, TX4, 3)) hC hH hv25.1 (by decide) rfl (by decide) rfl hv25.2.1 hv25.2.2.1 hv25.2.2.2.1 dX6_isTrue_53 (fun w26 H locs e27 hH => ?_)
  refine lv_dup hx hb dX6_isTrue_54 rfl ?_
  refine lv_iconst (v := 2) hx hb dX6_isTrue_55 (by decide) ?_
  refine lv_aload_n hx hb dX6_isTrue_56 rfl (lv_at hl 4 rfl) ?_
  refine lv_iload hx hb dX6_isTrue_57 (lv_at hl 3 rfl) ?_
  refine lv_aload hx hb dX6_isTrue_59 (lv_at hl 0 rfl) ?_
  refine cl_X6_116 hC hD hH (hv25.2.2.2.2 w26 e27).2 (hv25.2.2.2.2 w26 e27).1 ⟨Nat.le_of_ble_eq_true rfl, Nat.le_of_ble_eq_true rfl⟩ ⟨(Nat.le_of_ble_eq_true rfl), (Nat.le_of_ble_eq_true rfl)⟩ ⟨(Nat.le_of_ble_eq_true rfl), (Nat.le_of_ble_eq_true rfl)⟩ hl.1 (Nat.le_of_ble_eq_true rfl) dX6_isTrue_61 (fun r28 w29 H locs hH hv30 => ?_)
  refine sj_aast (t := 5) (ci := 3) (r := (RX4, TX4, 3)) hC hH hv30.1 (by decide) rfl (by decide) rfl hv30.2.1 hv30.2.2.1 hv30.2.2.2.1 dX6_isTrue_64 (fun w31 H locs e32 hH => ?_)
  refine lv_astore (lv' := [(9, .ref q13), (8, .ref r10), (7, .ref r7), (6, .ref r4), (5, .int r1), (0, .ref self), (1, .int a1), (2, .int a2), (3, .int a3), (4, .int a4)]) hx hb dX6_isTrue_65 hl (by decide) rfl (fun ls hl => ?_)
  refine lv_iload hx hb dX6_isTrue_67 (lv_at hl 4 rfl) ?_
  refine lv_aload hx hb dX6_isTrue_69 (lv_at hl 0 rfl) ?_
  refine cl_X6_204 hC hD hH (hv30.2.2.2.2 w31 e32) ⟨Nat.le_of_ble_eq_true rfl, Nat.le_of_ble_eq_true rfl⟩ ⟨(Nat.le_of_ble_eq_true rfl), (Nat.le_of_ble_eq_true rfl)⟩ ⟨(Nat.le_of_ble_eq_true rfl), (Nat.le_of_ble_eq_true rfl)⟩ hl.1 (Nat.le_of_ble_eq_true rfl) dX6_isTrue_71 (fun r33 w34 H locs hH hv35 => ?_)
  exact sj_retI hC hD.2 hH hr (sj_nz hv35.1).1 hv35.2 ⟨(Nat.le_of_ble_eq_true rfl), (Nat.le_of_ble_eq_true rfl)⟩ dX6_isTrue_74
section SJL_X6_isTrue
variable {p : Program} {l : Launch} {e : Env} {R : Room} {s : State} {m : MethodId} {args : Array Value} {below : List Frame} {meth : Method} {c : Code} {H : Heap} {locs : List Loc} {cells slots : Nat} {Q : State → Prop} {cc : ByteArray} {pc : Nat} {ls : Array Slot} {rest : List Value} {G : sj_G} {nL : Nat} {w : sj_W}
theorem cx_L_126 {QX : String → sj_W → Prop} {b : Nat} {b0 : Int32} {b1 : Int32} {b2 : Int32} {b3 : Int32} {Qi : Int32 → sj_W → Prop} (hC : sj_C G p l s m args c cc RL nL) (hH : sj_H G s w H locs) (hv : vc_X6_isTrue b b0 b1 b2 b3 w Qi QX) (hT : sj_T w b = 5) (hR : rm_X6_isTrue.frames + 1 ≤ R.frames ∧ 8 + (10 + 11) + rm_X6_isTrue.locals ≤ R.locals) (hf : cells + 34 ≤ R.cells ∧ slots + 471 ≤ R.slots) (hls : ls.size = nL) (hW : (rest.map fun v => v.category).sum ≤ 8) (hdg : decode cc pc = .ok (.invokevirtual 126, 3)) (kx : ∀ (E : String) (ce : Cell) (q9 : Addr) (w1 : sj_W) (H1 : Heap) (locs1 : List Loc), sj_H G s w1 H1 locs1 → QX E w1 → H1[q9]? = some ce → ce.vm = .none → s.vm.findClass E = some ce.cls → vx_W p l e R s m args below meth c H1 locs1 (cells + 34) (slots + 471) Q (F0 m pc ls rest) q9) (kk : ∀ (r : Int32) (w1 : sj_W) (H : Heap) (locs : List Loc), sj_H G s w1 H locs → Qi r w1 → W p l e R s m args below meth c H locs (cells + 34) (slots + 471) Q (F0 m (pc + 3) ls (.int r :: rest))) : W p l e R s m args below meth c H locs cells slots Q (F0 m pc ls (.int b3 :: .int b2 :: .int b1 :: .int b0 :: .ref b :: rest)) :=
  sj_xI hH (sj_runV (n := 4) hC hH (As := [.int b0, .int b1, .int b2, .int b3]) (wk_X6_isTrue G l hC.2.2.2.2.2.2 b b0 b1 b2 b3 w Qi QX hv) (ci := 4) rfl (by decide) hT mb_617 mb_618 mb_619 mb_1 mb_620 (by decide +kernel) hR hf rfl hls hW hdg) kx kk
end SJL_X6_isTrue
abbrev rm_X6_length : Room := { frames := 8, cells := 2, slots := 12, locals := 124 }
def vc_X6_length (self : Nat) (a1 : Int32) (a2 : Int32) (w : sj_W) (Q : Int32 → sj_W → Prop) (QX : String → sj_W → Prop) : Prop := vc_X6_kindOf a1 w (fun r1 w2 => sj_T w2 self = 5 ∧ vc_X6_rowOf self r1 a2 w2 (fun r4 w5 => sj_T w5 r4 = 2 ∧ Q (sj_I w5 9 r4) w5) QX) QX
set_option maxHeartbeats 4000000 in
set_option maxRecDepth 100000 in
theorem wk_X6_length (G : sj_G) (l : Launch) (hlt : l.stackTraces = false) (self : Nat) (a1 : Int32) (a2 : Int32) (w : sj_W) (Q : Int32 → sj_W → Prop) (QX : String → sj_W → Prop) (hv : vc_X6_length self a1 a2 w Q QX) : sj_MI G l yX6_length (sj_ws yX6_length cX6_length 3 (some .int)) rm_X6_length [.ref self, .int a1, .int a2] w Q QX := by
  refine sj_of (by decide +kernel) (Nat.le_of_ble_eq_true rfl) hlt ?_
  intro p e s m args below meth c ls hC hD hr hin hH hl
  have hx := hC.1
  have hb := hC.2.1
  have hl : lv_has ls 3 [(0, .ref self), (1, .int a1), (2, .int a2)] := hl
  refine lv_aload_n hx hb dX6_length_0 rfl (lv_at hl 0 rfl) ?_
  refine lv_iload_n hx hb dX6_length_1 rfl (lv_at hl 1 rfl) ?_
  refine cl_X6_34 hC hD hH hv ⟨Nat.le_of_ble_eq_true rfl, Nat.le_of_ble_eq_true rfl⟩ ⟨(Nat.le_of_ble_eq_true rfl), (Nat.le_of_ble_eq_true rfl)⟩ ⟨(Nat.le_of_ble_eq_true rfl), (Nat.le_of_ble_eq_true rfl)⟩ hl.1 (Nat.le_of_ble_eq_true rfl) dX6_length_2 (fun r1 w2 H locs hH hv3 => ?_)
  refine lv_iload_n hx hb dX6_length_5 rfl (lv_at hl 2 rfl) ?_
  refine cl_X6_42 hC hD hH hv3.2 hv3.1 ⟨Nat.le_of_ble_eq_true rfl, Nat.le_of_ble_eq_true rfl⟩ ⟨(Nat.le_of_ble_eq_true rfl), (Nat.le_of_ble_eq_true rfl)⟩ ⟨(Nat.le_of_ble_eq_true rfl), (Nat.le_of_ble_eq_true rfl)⟩ hl.1 (Nat.le_of_ble_eq_true rfl) dX6_length_6 (fun r4 w5 H locs hH hv6 => ?_)
  refine gf_X6_46 hC hH hv6.1 dX6_length_9 ?_
  exact sj_retI hC hD.2 hH hr rfl hv6.2 ⟨(Nat.le_of_ble_eq_true rfl), (Nat.le_of_ble_eq_true rfl)⟩ dX6_length_12
section SJL_X6_length
variable {p : Program} {l : Launch} {e : Env} {R : Room} {s : State} {m : MethodId} {args : Array Value} {below : List Frame} {meth : Method} {c : Code} {H : Heap} {locs : List Loc} {cells slots : Nat} {Q : State → Prop} {cc : ByteArray} {pc : Nat} {ls : Array Slot} {rest : List Value} {G : sj_G} {nL : Nat} {w : sj_W}
theorem cx_L_27 {QX : String → sj_W → Prop} {b : Nat} {b0 : Int32} {b1 : Int32} {Qi : Int32 → sj_W → Prop} (hC : sj_C G p l s m args c cc RL nL) (hH : sj_H G s w H locs) (hv : vc_X6_length b b0 b1 w Qi QX) (hT : sj_T w b = 5) (hR : rm_X6_length.frames + 1 ≤ R.frames ∧ 8 + (3 + 11) + rm_X6_length.locals ≤ R.locals) (hf : cells + 2 ≤ R.cells ∧ slots + 12 ≤ R.slots) (hls : ls.size = nL) (hW : (rest.map fun v => v.category).sum ≤ 8) (hdg : decode cc pc = .ok (.invokevirtual 27, 3)) (kx : ∀ (E : String) (ce : Cell) (q9 : Addr) (w1 : sj_W) (H1 : Heap) (locs1 : List Loc), sj_H G s w1 H1 locs1 → QX E w1 → H1[q9]? = some ce → ce.vm = .none → s.vm.findClass E = some ce.cls → vx_W p l e R s m args below meth c H1 locs1 (cells + 2) (slots + 12) Q (F0 m pc ls rest) q9) (kk : ∀ (r : Int32) (w1 : sj_W) (H : Heap) (locs : List Loc), sj_H G s w1 H locs → Qi r w1 → W p l e R s m args below meth c H locs (cells + 2) (slots + 12) Q (F0 m (pc + 3) ls (.int r :: rest))) : W p l e R s m args below meth c H locs cells slots Q (F0 m pc ls (.int b1 :: .int b0 :: .ref b :: rest)) :=
  sj_xI hH (sj_runV (n := 2) hC hH (As := [.int b0, .int b1]) (wk_X6_length G l hC.2.2.2.2.2.2 b b0 b1 w Qi QX hv) (ci := 4) rfl (by decide) hT mb_276 mb_277 mb_278 mb_1 mb_279 (by decide +kernel) hR hf rfl hls hW hdg) kx kk
end SJL_X6_length
abbrev rm_X0_longestTwice : Room := { frames := 2, cells := 0, slots := 0, locals := 36 }
def vb_X0_longestTwice_4 (f0 : Nat) (Q : Int32 → sj_W → Prop) (E : Int32 → sj_W → Prop) (K : Int32 → Int32 → sj_W → Prop) (v1 : Int32) (v2 : Int32) (w : sj_W) : Prop := sj_T w f0 = 1 ∧ (((sj_I w 6 f0) ≤ v2 → E v1 w) ∧ (¬ (sj_I w 6 f0) ≤ v2 → sj_T w f0 = 1 ∧ vc_X0_mostAlikeAhead f0 v2 w (fun r3 w4 => K (if v1 < r3 then r3 else v1) (v2 + 1) w4)))
def vc_X0_longestTwice (self : Nat) (w : sj_W) (Q : Int32 → sj_W → Prop) : Prop := sj_lp2 (vb_X0_longestTwice_4 self Q (fun z1_4 w_4 => Q z1_4 w_4)) 64 0 0 w
set_option maxHeartbeats 4000000 in
set_option maxRecDepth 100000 in
theorem wl_X0_longestTwice_4 {p : Program} {l : Launch} {e : Env} {s : State} {m : MethodId} {args : Array Value} {below : List Frame} {meth : Method} {c : Code} {G : sj_G} {f0 : Nat} {Q : Int32 → sj_W → Prop} {QX : String → sj_W → Prop} {E : Int32 → sj_W → Prop} (hC : sj_C G p l s m args c cX0_longestTwice RX0 3) (hD : sj_D meth c) (hr : meth.sig.returnType = (some .int)) (hin : meth.name = "longestTwice") (hE : ∀ (v1 : Int32) (w : sj_W) (H : Heap) (locs : List Loc) (ls : Array Slot), lv_has ls 3 [(1, .int v1)] → sj_H G s w H locs → E v1 w → W p l e rm_X0_longestTwice s m args below meth c H locs 0 0 (sj_MQ G below (va_Qi Q (sj_B G) (sj_F G)) QX args s rm_X0_longestTwice) (F0 m 28 ls [])) : ∀ (n : Nat) (v1 : Int32) (v2 : Int32) (w : sj_W) (H : Heap) (locs : List Loc) (ls : Array Slot), lv_has ls 3 [(0, .ref f0), (1, .int v1), (2, .int v2)] → sj_H G s w H locs → sj_lp2 (vb_X0_longestTwice_4 f0 Q E) n v1 v2 w → W p l e rm_X0_longestTwice s m args below meth c H locs 0 0 (sj_MQ G below (va_Qi Q (sj_B G) (sj_F G)) QX args s rm_X0_longestTwice) (F0 m 4 ls []) := by
  have hx := hC.1
  have hb := hC.2.1
  intro n
  induction n with
  | zero =>
    intro v1 v2 w H locs ls _ _ hv
    exact hv.elim
  | succ n ih =>
    intro v1 v2 w H locs ls hl hH hv
    have hv : vb_X0_longestTwice_4 f0 Q E (sj_lp2 (vb_X0_longestTwice_4 f0 Q E) n) v1 v2 w := hv
    have hc1 : rm_X0_longestTwice.cells = 0 := rfl
    have hc2 : rm_X0_longestTwice.slots = 0 := rfl
    refine lv_iload_n hx hb dX0_longestTwice_4 rfl (lv_at hl 2 rfl) ?_
    refine lv_aload_n hx hb dX0_longestTwice_5 rfl (lv_at hl 0 rfl) ?_
    refine gf_X0_37 hC hH hv.1 dX0_longestTwice_6 ?_
    refine lv_icmp_ge (tgt := 28) hx hb dX0_longestTwice_9 (by decide) (fun hc => ?_) (fun hc => ?_)
    · have hv1 := hv.2.1 hc
      exact hE v1 w _ _ _ (lv_sub hl [1] rfl) hH hv1
    · have hv2 := hv.2.2 hc
      refine lv_iload_n hx hb dX0_longestTwice_12 rfl (lv_at hl 1 rfl) ?_
      refine lv_aload_n hx hb dX0_longestTwice_13 rfl (lv_at hl 0 rfl) ?_
      refine lv_iload_n hx hb dX0_longestTwice_14 rfl (lv_at hl 2 rfl) ?_
      refine cl_X0_50 hC hD hH hv2.2 hv2.1 ⟨Nat.le_of_ble_eq_true rfl, Nat.le_of_ble_eq_true rfl⟩ ⟨(Nat.le_of_ble_eq_true rfl), (Nat.le_of_ble_eq_true rfl)⟩ ⟨(Nat.le_of_ble_eq_true rfl), (Nat.le_of_ble_eq_true rfl)⟩ hl.1 (Nat.le_of_ble_eq_true rfl) dX0_longestTwice_15 (fun r3 w4 H locs hH hv5 => ?_)
      refine va_mmax hx hb (hC.2.2.1.trans hl.1.symm) hC.2.2.2.1 (hC.2.2.2.2.1 _ mb_509) (hC.2.2.2.2.1 _ mb_510) (hC.2.2.2.2.1 _ mb_13) (hC.2.2.2.2.1 _ mb_511) (Nat.le_of_ble_eq_true rfl) (Nat.le_of_ble_eq_true rfl) (Nat.le_of_ble_eq_true rfl) (Nat.le_of_ble_eq_true rfl) dX0_longestTwice_18 ?_
      refine lv_istore_n (lv' := [(1, .int (if v1 < r3 then r3 else v1)), (0, .ref f0), (2, .int v2)]) hx hb dX0_longestTwice_21 rfl hl (by decide) rfl (fun ls hl => ?_)
      refine lv_iinc (v := (v2 + 1)) (lv' := [(2, .int (v2 + 1)), (1, .int (if v1 < r3 then r3 else v1)), (0, .ref f0)]) hx hb dX0_longestTwice_22 hl (k := 2) rfl rfl (by decide) rfl (fun ls hl => ?_)
      refine lv_goto (tgt := 4) hx hb dX0_longestTwice_25 (by decide) ?_
      exact ih (if v1 < r3 then r3 else v1) (v2 + 1) w4 _ _ _ (lv_sub hl [2, 1, 0] rfl) hH hv5
set_option maxHeartbeats 4000000 in
set_option maxRecDepth 100000 in
theorem wk_X0_longestTwice (G : sj_G) (l : Launch) (hlt : l.stackTraces = false) (self : Nat) (w : sj_W) (Q : Int32 → sj_W → Prop) (QX : String → sj_W → Prop) (hv : vc_X0_longestTwice self w Q) : sj_MI G l yX0_longestTwice (sj_ws yX0_longestTwice cX0_longestTwice 3 (some .int)) rm_X0_longestTwice [.ref self] w Q QX := by
  refine sj_of (by decide +kernel) (Nat.le_of_ble_eq_true rfl) hlt ?_
  intro p e s m args below meth c ls hC hD hr hin hH hl
  have hx := hC.1
  have hb := hC.2.1
  have hl : lv_has ls 3 [(0, .ref self)] := hl
  refine lv_iconst (v := 0) hx hb dX0_longestTwice_0 (by decide) ?_
  refine lv_istore_n (lv' := [(1, .int 0), (0, .ref self)]) hx hb dX0_longestTwice_1 rfl hl (by decide) rfl (fun ls hl => ?_)
  refine lv_iconst (v := 0) hx hb dX0_longestTwice_2 (by decide) ?_
  refine lv_istore_n (lv' := [(2, .int 0), (1, .int 0), (0, .ref self)]) hx hb dX0_longestTwice_3 rfl hl (by decide) rfl (fun ls hl => ?_)
  refine wl_X0_longestTwice_4 hC hD hr hin (fun z1_4 w_4 H locs ls hl hH hv6 => ?_) 64 0 0 w _ _ _ (lv_sub hl [2, 1, 0] rfl) hH hv
  refine lv_iload_n hx hb dX0_longestTwice_28 rfl (lv_at hl 0 rfl) ?_
  exact sj_retI hC hD.2 hH hr rfl hv6 ⟨(Nat.le_of_ble_eq_true rfl), (Nat.le_of_ble_eq_true rfl)⟩ dX0_longestTwice_29
section SJL_X0_longestTwice
variable {p : Program} {l : Launch} {e : Env} {R : Room} {s : State} {m : MethodId} {args : Array Value} {below : List Frame} {meth : Method} {c : Code} {H : Heap} {locs : List Loc} {cells slots : Nat} {Q : State → Prop} {cc : ByteArray} {pc : Nat} {ls : Array Slot} {rest : List Value} {G : sj_G} {nL : Nat} {w : sj_W}
theorem cl_X6_165 {rmM : Room} {QcM : Array Value → State → Outcome → State → Prop} {QX : String → sj_W → Prop} {b : Nat} {Qi : Int32 → sj_W → Prop} (hC : sj_C G p l s m args c cc RX6 nL) (hD : sj_D meth c) (hH : sj_H G s w H locs) (hv : vc_X0_longestTwice b w Qi) (hT : sj_T w b = 1) (hR : rm_X0_longestTwice.frames + 1 ≤ R.frames ∧ 8 + (3 + 11) + rm_X0_longestTwice.locals ≤ R.locals) (hf : cells + 0 ≤ R.cells ∧ slots + 0 ≤ R.slots) (hfM : cells + 0 ≤ rmM.cells ∧ slots + 0 ≤ rmM.slots) (hls : ls.size = nL) (hW : (rest.map fun v => v.category).sum ≤ 8) (hdg : decode cc pc = .ok (.invokevirtual 165, 3)) (kk : ∀ (r : Int32) (w1 : sj_W) (H : Heap) (locs : List Loc), sj_H G s w1 H locs → Qi r w1 → W p l e R s m args below meth c H locs (cells + 0) (slots + 0) (sj_MQ G below QcM QX args s rmM) (F0 m (pc + 3) ls (.int r :: rest))) : W p l e R s m args below meth c H locs cells slots (sj_MQ G below QcM QX args s rmM) (F0 m pc ls (.ref b :: rest)) :=
  sj_cI hD hH (sj_runVN (n := 0) hC hH (As := []) (wk_X0_longestTwice G l hC.2.2.2.2.2.2 b w Qi QX hv) (ci := 0) rfl (by decide) hT mb_519 mb_521 mb_s14 mb_2 mb_522 (by decide +kernel) hR hf rfl hls hW hdg) hfM kk
end SJL_X0_longestTwice
abbrev rm_X6_longest : Room := { frames := 8, cells := 2, slots := 12, locals := 124 }
def vc_X6_longest (self : Nat) (a1 : Int32) (a2 : Int32) (w : sj_W) (Q : Int32 → sj_W → Prop) (QX : String → sj_W → Prop) : Prop := sj_T w self = 5 ∧ sj_A w 35 self ≠ 0 ∧ vc_X6_kindOf a1 w (fun r1 w2 => sj_T w2 self = 5 ∧ vc_X6_rowOf self r1 a2 w2 (fun r4 w5 => sj_T w5 (sj_A w 35 self) = 1 ∧ vc_X0_take (sj_A w 35 self) r4 0 w5 (fun w8 => sj_T w8 self = 5 ∧ sj_A w8 35 self ≠ 0 ∧ sj_T w8 (sj_A w8 35 self) = 1 ∧ vc_X0_longestTwice (sj_A w8 35 self) w8 (fun r10 w11 => Q r10 w11))) QX) QX
set_option maxHeartbeats 4000000 in
set_option maxRecDepth 100000 in
theorem wk_X6_longest (G : sj_G) (l : Launch) (hlt : l.stackTraces = false) (self : Nat) (a1 : Int32) (a2 : Int32) (w : sj_W) (Q : Int32 → sj_W → Prop) (QX : String → sj_W → Prop) (hv : vc_X6_longest self a1 a2 w Q QX) : sj_MI G l yX6_longest (sj_ws yX6_longest cX6_longest 3 (some .int)) rm_X6_longest [.ref self, .int a1, .int a2] w Q QX := by
  refine sj_of (by decide +kernel) (Nat.le_of_ble_eq_true rfl) hlt ?_
  intro p e s m args below meth c ls hC hD hr hin hH hl
  have hx := hC.1
  have hb := hC.2.1
  have hl : lv_has ls 3 [(0, .ref self), (1, .int a1), (2, .int a2)] := hl
  refine lv_aload_n hx hb dX6_longest_0 rfl (lv_at hl 0 rfl) ?_
  refine gf_X6_28 hC hH hv.1 hv.2.1 dX6_longest_1 ?_
  refine lv_aload_n hx hb dX6_longest_4 rfl (lv_at hl 0 rfl) ?_
  refine lv_iload_n hx hb dX6_longest_5 rfl (lv_at hl 1 rfl) ?_
  refine cl_X6_34 hC hD hH hv.2.2 ⟨Nat.le_of_ble_eq_true rfl, Nat.le_of_ble_eq_true rfl⟩ ⟨(Nat.le_of_ble_eq_true rfl), (Nat.le_of_ble_eq_true rfl)⟩ ⟨(Nat.le_of_ble_eq_true rfl), (Nat.le_of_ble_eq_true rfl)⟩ hl.1 (Nat.le_of_ble_eq_true rfl) dX6_longest_6 (fun r1 w2 H locs hH hv3 => ?_)
  refine lv_iload_n hx hb dX6_longest_9 rfl (lv_at hl 2 rfl) ?_
  refine cl_X6_42 hC hD hH hv3.2 hv3.1 ⟨Nat.le_of_ble_eq_true rfl, Nat.le_of_ble_eq_true rfl⟩ ⟨(Nat.le_of_ble_eq_true rfl), (Nat.le_of_ble_eq_true rfl)⟩ ⟨(Nat.le_of_ble_eq_true rfl), (Nat.le_of_ble_eq_true rfl)⟩ hl.1 (Nat.le_of_ble_eq_true rfl) dX6_longest_10 (fun r4 w5 H locs hH hv6 => ?_)
  refine lv_iconst (v := 0) hx hb dX6_longest_13 (by decide) ?_
  refine cl_X6_151 hC hD hH hv6.2 hv6.1 ⟨Nat.le_of_ble_eq_true rfl, Nat.le_of_ble_eq_true rfl⟩ ⟨(Nat.le_of_ble_eq_true rfl), (Nat.le_of_ble_eq_true rfl)⟩ ⟨(Nat.le_of_ble_eq_true rfl), (Nat.le_of_ble_eq_true rfl)⟩ hl.1 (Nat.le_of_ble_eq_true rfl) dX6_longest_14 (fun w8 H locs hH hv9 => ?_)
  refine lv_aload_n hx hb dX6_longest_17 rfl (lv_at hl 0 rfl) ?_
  refine gf_X6_28 hC hH hv9.1 hv9.2.1 dX6_longest_18 ?_
  refine cl_X6_165 hC hD hH hv9.2.2.2 hv9.2.2.1 ⟨Nat.le_of_ble_eq_true rfl, Nat.le_of_ble_eq_true rfl⟩ ⟨(Nat.le_of_ble_eq_true rfl), (Nat.le_of_ble_eq_true rfl)⟩ ⟨(Nat.le_of_ble_eq_true rfl), (Nat.le_of_ble_eq_true rfl)⟩ hl.1 (Nat.le_of_ble_eq_true rfl) dX6_longest_21 (fun r10 w11 H locs hH hv12 => ?_)
  exact sj_retI hC hD.2 hH hr rfl hv12 ⟨(Nat.le_of_ble_eq_true rfl), (Nat.le_of_ble_eq_true rfl)⟩ dX6_longest_24
section SJL_X6_longest
variable {p : Program} {l : Launch} {e : Env} {R : Room} {s : State} {m : MethodId} {args : Array Value} {below : List Frame} {meth : Method} {c : Code} {H : Heap} {locs : List Loc} {cells slots : Nat} {Q : State → Prop} {cc : ByteArray} {pc : Nat} {ls : Array Slot} {rest : List Value} {G : sj_G} {nL : Nat} {w : sj_W}
theorem cx_L_93 {QX : String → sj_W → Prop} {b : Nat} {b0 : Int32} {b1 : Int32} {Qi : Int32 → sj_W → Prop} (hC : sj_C G p l s m args c cc RL nL) (hH : sj_H G s w H locs) (hv : vc_X6_longest b b0 b1 w Qi QX) (hT : sj_T w b = 5) (hR : rm_X6_longest.frames + 1 ≤ R.frames ∧ 8 + (3 + 11) + rm_X6_longest.locals ≤ R.locals) (hf : cells + 2 ≤ R.cells ∧ slots + 12 ≤ R.slots) (hls : ls.size = nL) (hW : (rest.map fun v => v.category).sum ≤ 8) (hdg : decode cc pc = .ok (.invokevirtual 93, 3)) (kx : ∀ (E : String) (ce : Cell) (q9 : Addr) (w1 : sj_W) (H1 : Heap) (locs1 : List Loc), sj_H G s w1 H1 locs1 → QX E w1 → H1[q9]? = some ce → ce.vm = .none → s.vm.findClass E = some ce.cls → vx_W p l e R s m args below meth c H1 locs1 (cells + 2) (slots + 12) Q (F0 m pc ls rest) q9) (kk : ∀ (r : Int32) (w1 : sj_W) (H : Heap) (locs : List Loc), sj_H G s w1 H locs → Qi r w1 → W p l e R s m args below meth c H locs (cells + 2) (slots + 12) Q (F0 m (pc + 3) ls (.int r :: rest))) : W p l e R s m args below meth c H locs cells slots Q (F0 m pc ls (.int b1 :: .int b0 :: .ref b :: rest)) :=
  sj_xI hH (sj_runV (n := 2) hC hH (As := [.int b0, .int b1]) (wk_X6_longest G l hC.2.2.2.2.2.2 b b0 b1 w Qi QX hv) (ci := 4) rfl (by decide) hT mb_515 mb_516 mb_517 mb_1 mb_518 (by decide +kernel) hR hf rfl hls hW hdg) kx kk
end SJL_X6_longest
abbrev rm_X6_mean : Room := { frames := 7, cells := 1, slots := 6, locals := 102 }
def vb_X6_mean_10 (f0 : Nat) (f2 : Int32) (Q : UInt64 → sj_W → Prop) (QX : String → sj_W → Prop) (E : Int32 → sj_W → Prop) (K : Int32 → Int32 → sj_W → Prop) (v3 : Int32) (v4 : Int32) (w : sj_W) : Prop := ((4 ≤ v4 → E v3 w) ∧ (¬ 4 ≤ v4 → sj_T w f0 = 5 ∧ sj_A w 32 f0 ≠ 0 ∧ (sj_T w (sj_A w 32 f0) = 10 ∨ sj_T w (sj_A w 32 f0) = 11 ∨ sj_T w (sj_A w 32 f0) = 12) ∧ vp_in ((f2 * 4) + v4) (sj_N w (sj_A w 32 f0)) ∧ (sj_r w (sj_A w 32 f0) ((f2 * 4) + v4).toNatClampNeg) ≠ 0 ∧ sj_T w (sj_r w (sj_A w 32 f0) ((f2 * 4) + v4).toNatClampNeg) = 2 ∧ K (v3 + (sj_I w 9 (sj_r w (sj_A w 32 f0) ((f2 * 4) + v4).toNatClampNeg))) (v4 + 1) w))
def vc_X6_mean (self : Nat) (a1 : Int32) (w : sj_W) (Q : UInt64 → sj_W → Prop) (QX : String → sj_W → Prop) : Prop := vc_X6_kindOf a1 w (fun r1 w2 => sj_lp2 (vb_X6_mean_10 self r1 Q QX (fun z3_10 w_10 => vf_n64 (FP.ddiv (FP.i2d z3_10) 4616189618054758400) ∧ Q (FP.ddiv (FP.i2d z3_10) 4616189618054758400) w_10)) 64 0 0 w2) QX
set_option maxHeartbeats 4000000 in
set_option maxRecDepth 100000 in
theorem wl_X6_mean_10 {p : Program} {l : Launch} {e : Env} {s : State} {m : MethodId} {args : Array Value} {below : List Frame} {meth : Method} {c : Code} {G : sj_G} {f0 : Nat} {f2 : Int32} {Q : UInt64 → sj_W → Prop} {QX : String → sj_W → Prop} {E : Int32 → sj_W → Prop} (hC : sj_C G p l s m args c cX6_mean RX6 5) (hD : sj_D meth c) (hr : meth.sig.returnType = (some .double)) (hin : meth.name = "mean") (hE : ∀ (v3 : Int32) (w : sj_W) (H : Heap) (locs : List Loc) (ls : Array Slot), lv_has ls 5 [(3, .int v3)] → sj_H G s w H locs → E v3 w → W p l e rm_X6_mean s m args below meth c H locs 1 6 (sj_MQ G below (va_Qd Q (sj_B G) (sj_F G)) QX args s rm_X6_mean) (F0 m 39 ls [])) : ∀ (n : Nat) (v3 : Int32) (v4 : Int32) (w : sj_W) (H : Heap) (locs : List Loc) (ls : Array Slot), lv_has ls 5 [(0, .ref f0), (2, .int f2), (3, .int v3), (4, .int v4)] → sj_H G s w H locs → sj_lp2 (vb_X6_mean_10 f0 f2 Q QX E) n v3 v4 w → W p l e rm_X6_mean s m args below meth c H locs 1 6 (sj_MQ G below (va_Qd Q (sj_B G) (sj_F G)) QX args s rm_X6_mean) (F0 m 10 ls []) := by
  have hx := hC.1
  have hb := hC.2.1
  intro n
  induction n with
  | zero =>
    intro v3 v4 w H locs ls _ _ hv
    exact hv.elim
  | succ n ih =>
    intro v3 v4 w H locs ls hl hH hv
    have hv : vb_X6_mean_10 f0 f2 Q QX E (sj_lp2 (vb_X6_mean_10 f0 f2 Q QX E) n) v3 v4 w := hv
    have hc1 : rm_X6_mean.cells = 1 := rfl
    have hc2 : rm_X6_mean.slots = 6 := rfl
    refine lv_iload hx hb dX6_mean_10 (lv_at hl 3 rfl) ?_
    refine lv_iconst (v := 4) hx hb dX6_mean_12 (by decide) ?_
    refine lv_icmp_ge (tgt := 39) hx hb dX6_mean_13 (by decide) (fun hc => ?_) (fun hc => ?_)
    · have hv4 := hv.1 hc
      exact hE v3 w _ _ _ (lv_sub hl [2] rfl) hH hv4
    · have hv5 := hv.2 hc
      refine lv_iload_n hx hb dX6_mean_16 rfl (lv_at hl 2 rfl) ?_
      refine lv_aload_n hx hb dX6_mean_17 rfl (lv_at hl 0 rfl) ?_
      refine gf_X6_11 hC hH hv5.1 hv5.2.1 dX6_mean_18 ?_
      refine lv_iload_n hx hb dX6_mean_21 rfl (lv_at hl 1 rfl) ?_
      refine lv_iconst (v := 4) hx hb dX6_mean_22 (by decide) ?_
      refine lv_imul hx hb dX6_mean_23 ?_
      refine lv_iload hx hb dX6_mean_24 (lv_at hl 3 rfl) ?_
      refine lv_iadd hx hb dX6_mean_26 ?_
      refine sj_aald hC hH hv5.2.2.1 hv5.2.2.2.1 hv5.2.2.2.2.1 dX6_mean_27 ?_
      refine gf_X6_46 hC hH hv5.2.2.2.2.2.1 dX6_mean_28 ?_
      refine lv_iadd hx hb dX6_mean_31 ?_
      refine lv_istore_n (lv' := [(3, .int (v3 + (sj_I w 9 (sj_r w (sj_A w 32 f0) ((f2 * 4) + v4).toNatClampNeg)))), (0, .ref f0), (2, .int f2), (4, .int v4)]) hx hb dX6_mean_32 rfl hl (by decide) rfl (fun ls hl => ?_)
      refine lv_iinc (v := (v4 + 1)) (lv' := [(4, .int (v4 + 1)), (3, .int (v3 + (sj_I w 9 (sj_r w (sj_A w 32 f0) ((f2 * 4) + v4).toNatClampNeg)))), (0, .ref f0), (2, .int f2)]) hx hb dX6_mean_33 hl (k := 3) rfl rfl (by decide) rfl (fun ls hl => ?_)
      refine lv_goto (tgt := 10) hx hb dX6_mean_36 (by decide) ?_
      exact ih (v3 + (sj_I w 9 (sj_r w (sj_A w 32 f0) ((f2 * 4) + v4).toNatClampNeg))) (v4 + 1) w _ _ _ (lv_sub hl [2, 3, 1, 0] rfl) hH hv5.2.2.2.2.2.2
set_option maxHeartbeats 4000000 in
set_option maxRecDepth 100000 in
theorem wk_X6_mean (G : sj_G) (l : Launch) (hlt : l.stackTraces = false) (self : Nat) (a1 : Int32) (w : sj_W) (Q : UInt64 → sj_W → Prop) (QX : String → sj_W → Prop) (hv : vc_X6_mean self a1 w Q QX) : sj_MD G l yX6_mean (sj_ws yX6_mean cX6_mean 5 (some .double)) rm_X6_mean [.ref self, .int a1] w Q QX := by
  refine sj_of (by decide +kernel) (Nat.le_of_ble_eq_true rfl) hlt ?_
  intro p e s m args below meth c ls hC hD hr hin hH hl
  have hx := hC.1
  have hb := hC.2.1
  have hl : lv_has ls 5 [(0, .ref self), (1, .int a1)] := hl
  refine lv_iload_n hx hb dX6_mean_0 rfl (lv_at hl 1 rfl) ?_
  refine cl_X6_34 hC hD hH hv ⟨Nat.le_of_ble_eq_true rfl, Nat.le_of_ble_eq_true rfl⟩ ⟨(Nat.le_of_ble_eq_true rfl), (Nat.le_of_ble_eq_true rfl)⟩ ⟨(Nat.le_of_ble_eq_true rfl), (Nat.le_of_ble_eq_true rfl)⟩ hl.1 (Nat.le_of_ble_eq_true rfl) dX6_mean_1 (fun r1 w2 H locs hH hv3 => ?_)
  refine lv_istore_n (lv' := [(2, .int r1), (0, .ref self), (1, .int a1)]) hx hb dX6_mean_4 rfl hl (by decide) rfl (fun ls hl => ?_)
  refine lv_iconst (v := 0) hx hb dX6_mean_5 (by decide) ?_
  refine lv_istore_n (lv' := [(3, .int 0), (2, .int r1), (0, .ref self), (1, .int a1)]) hx hb dX6_mean_6 rfl hl (by decide) rfl (fun ls hl => ?_)
  refine lv_iconst (v := 0) hx hb dX6_mean_7 (by decide) ?_
  refine lv_istore (lv' := [(4, .int 0), (3, .int 0), (2, .int r1), (0, .ref self), (1, .int a1)]) hx hb dX6_mean_8 hl (by decide) rfl (fun ls hl => ?_)
  refine wl_X6_mean_10 hC hD hr hin (fun z3_10 w_10 H locs ls hl hH hv6 => ?_) 64 0 0 w2 _ _ _ (lv_sub hl [3, 2, 1, 0] rfl) hH hv3
  refine lv_iload_n hx hb dX6_mean_39 rfl (lv_at hl 0 rfl) ?_
  refine lv_i2d hx hb dX6_mean_40 ?_
  refine lv_ldc2d (v := 4616189618054758400) hx hb hC.2.2.2.1 (hC.2.2.2.2.1 _ mb_613) dX6_mean_41 ?_
  refine lv_ddiv hx hb dX6_mean_44 hv6.1 ?_
  exact sj_retD hC hD.2 hH hr hv6.2 ⟨(Nat.le_of_ble_eq_true rfl), (Nat.le_of_ble_eq_true rfl)⟩ dX6_mean_45
section SJL_X6_mean
variable {p : Program} {l : Launch} {e : Env} {R : Room} {s : State} {m : MethodId} {args : Array Value} {below : List Frame} {meth : Method} {c : Code} {H : Heap} {locs : List Loc} {cells slots : Nat} {Q : State → Prop} {cc : ByteArray} {pc : Nat} {ls : Array Slot} {rest : List Value} {G : sj_G} {nL : Nat} {w : sj_W}
theorem cx_L_122 {QX : String → sj_W → Prop} {b : Nat} {b0 : Int32} {Qi : UInt64 → sj_W → Prop} (hC : sj_C G p l s m args c cc RL nL) (hH : sj_H G s w H locs) (hv : vc_X6_mean b b0 w Qi QX) (hT : sj_T w b = 5) (hR : rm_X6_mean.frames + 1 ≤ R.frames ∧ 8 + (5 + 11) + rm_X6_mean.locals ≤ R.locals) (hf : cells + 1 ≤ R.cells ∧ slots + 6 ≤ R.slots) (hls : ls.size = nL) (hW : (rest.map fun v => v.category).sum ≤ 8) (hdg : decode cc pc = .ok (.invokevirtual 122, 3)) (kx : ∀ (E : String) (ce : Cell) (q9 : Addr) (w1 : sj_W) (H1 : Heap) (locs1 : List Loc), sj_H G s w1 H1 locs1 → QX E w1 → H1[q9]? = some ce → ce.vm = .none → s.vm.findClass E = some ce.cls → vx_W p l e R s m args below meth c H1 locs1 (cells + 1) (slots + 6) Q (F0 m pc ls rest) q9) (kk : ∀ (r : UInt64) (w1 : sj_W) (H : Heap) (locs : List Loc), sj_H G s w1 H locs → Qi r w1 → W p l e R s m args below meth c H locs (cells + 1) (slots + 6) Q (F0 m (pc + 3) ls (.double r :: rest))) : W p l e R s m args below meth c H locs cells slots Q (F0 m pc ls (.int b0 :: .ref b :: rest)) :=
  sj_xD hH (sj_runV (n := 1) hC hH (As := [.int b0]) (wk_X6_mean G l hC.2.2.2.2.2.2 b b0 w Qi QX hv) (ci := 4) rfl (by decide) hT mb_609 mb_610 mb_611 mb_1 mb_612 (by decide +kernel) hR hf rfl hls hW hdg) kx kk
end SJL_X6_mean

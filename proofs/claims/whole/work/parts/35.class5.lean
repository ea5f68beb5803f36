abbrev rm_X6_putIntoList : Room := { frames := 3, cells := 16, slots := 48, locals := 67 }
def vb_X6_putIntoList_19 (f0 : Nat) (f1 : Int32) (f2 : Int32) (f3 : Int32) (f4 : Nat) (Q : sj_W → Prop) (E : Int32 → sj_W → Prop) (K : Int32 → sj_W → Prop) (v5 : Int32) (w : sj_W) : Prop := ((v5 ≤ 0 → E v5 w) ∧ (¬ v5 ≤ 0 → sj_T w f0 = 5 ∧ sj_A w 33 f0 ≠ 0 ∧ sj_T w f0 = 5 ∧ sj_A w 34 f0 ≠ 0 ∧ sj_T w (sj_A w 34 f0) = 7 ∧ vp_in (v5 - 1) (sj_N w (sj_A w 34 f0)) ∧ (sj_T w (sj_A w 33 f0) = 10 ∨ sj_T w (sj_A w 33 f0) = 11 ∨ sj_T w (sj_A w 33 f0) = 12) ∧ vp_in (sj_i w (sj_A w 34 f0) (v5 - 1).toNatClampNeg) (sj_N w (sj_A w 33 f0)) ∧ (sj_r w (sj_A w 33 f0) (sj_i w (sj_A w 34 f0) (v5 - 1).toNatClampNeg).toNatClampNeg) ≠ 0 ∧ sj_T w f0 = 5 ∧ vc_X6_wordOf f0 f1 (sj_r w (sj_A w 33 f0) (sj_i w (sj_A w 34 f0) (v5 - 1).toNatClampNeg).toNatClampNeg) w (fun r6 w7 => vc_X6_compareWords r6 f4 f2 w7 (fun r9 w10 => ((r9 ≤ 0 → E v5 w10) ∧ (¬ r9 ≤ 0 → sj_T w10 f0 = 5 ∧ sj_A w10 34 f0 ≠ 0 ∧ sj_T w10 f0 = 5 ∧ sj_A w10 34 f0 ≠ 0 ∧ sj_T w10 (sj_A w10 34 f0) = 7 ∧ vp_in (v5 - 1) (sj_N w10 (sj_A w10 34 f0)) ∧ sj_T w10 (sj_A w10 34 f0) = 7 ∧ vp_in v5 (sj_N w10 (sj_A w10 34 f0)) ∧ ∀ w14 : sj_W, w14 = sj_si w10 (sj_A w10 34 f0) v5.toNatClampNeg (sj_i w10 (sj_A w10 34 f0) (v5 - 1).toNatClampNeg) → K (v5 + (-1)) w14))))))
def vc_X6_putIntoList (self : Nat) (a1 : Int32) (a2 : Int32) (a3 : Int32) (w : sj_W) (Q : sj_W → Prop) : Prop := sj_T w self = 5 ∧ sj_A w 33 self ≠ 0 ∧ (sj_T w (sj_A w 33 self) = 10 ∨ sj_T w (sj_A w 33 self) = 11 ∨ sj_T w (sj_A w 33 self) = 12) ∧ vp_in a3 (sj_N w (sj_A w 33 self)) ∧ (sj_r w (sj_A w 33 self) a3.toNatClampNeg) ≠ 0 ∧ sj_T w self = 5 ∧ vc_X6_wordOf self a1 (sj_r w (sj_A w 33 self) a3.toNatClampNeg) w (fun r1 w2 => sj_T w2 self = 5 ∧ sj_lp1 (vb_X6_putIntoList_19 self a1 a2 a3 r1 Q (fun z5_19 w_19 => sj_T w_19 self = 5 ∧ sj_A w_19 34 self ≠ 0 ∧ sj_T w_19 (sj_A w_19 34 self) = 7 ∧ vp_in z5_19 (sj_N w_19 (sj_A w_19 34 self)) ∧ ∀ w17 : sj_W, w17 = sj_si w_19 (sj_A w_19 34 self) z5_19.toNatClampNeg a3 → sj_T w17 self = 5 ∧ sj_T w17 self = 5 ∧ ∀ w19 : sj_W, w19 = sj_sI w17 36 self ((sj_I w17 36 self) + 1) → Q w19)) 14 (sj_I w2 36 self) w2)
set_option maxHeartbeats 4000000 in
set_option maxRecDepth 100000 in
theorem wl_X6_putIntoList_19 {p : Program} {l : Launch} {e : Env} {s : State} {m : MethodId} {args : Array Value} {below : List Frame} {meth : Method} {c : Code} {G : sj_G} {f0 : Nat} {f1 : Int32} {f2 : Int32} {f3 : Int32} {f4 : Nat} {Q : sj_W → Prop} {QX : String → sj_W → Prop} {E : Int32 → sj_W → Prop} (hC : sj_C G p l s m args c cX6_putIntoList RX6 6) (hD : sj_D meth c) (hr : meth.sig.returnType = none) (hin : meth.name = "putIntoList") (hE : ∀ (v5 : Int32) (w : sj_W) (H : Heap) (locs : List Loc) (ls : Array Slot), lv_has ls 6 [(0, .ref f0), (3, .int f3), (5, .int v5)] → sj_H G s w H locs → E v5 w → W p l e rm_X6_putIntoList s m args below meth c H locs 15 45 (sj_MQ G below (va_Qv Q (sj_B G) (sj_F G)) QX args s rm_X6_putIntoList) (F0 m 74 ls [])) : ∀ (n : Nat) (v5 : Int32) (w : sj_W) (H : Heap) (locs : List Loc) (ls : Array Slot) (cells slots : Nat), cells + n * 1 ≤ 15 → slots + n * 3 ≤ 45 → lv_has ls 6 [(0, .ref f0), (1, .int f1), (2, .int f2), (3, .int f3), (4, .ref f4), (5, .int v5)] → sj_H G s w H locs → sj_lp1 (vb_X6_putIntoList_19 f0 f1 f2 f3 f4 Q E) n v5 w → W p l e rm_X6_putIntoList s m args below meth c H locs cells slots (sj_MQ G below (va_Qv Q (sj_B G) (sj_F G)) QX args s rm_X6_putIntoList) (F0 m 19 ls []) := by
  have hx := hC.1
  have hb := hC.2.1
  intro n
  induction n with
  | zero =>
    intro v5 w H locs ls cells slots _ _ _ _ hv
    exact hv.elim
  | succ n ih =>
    intro v5 w H locs ls cells slots hcc hcs hl hH hv
    have hv : vb_X6_putIntoList_19 f0 f1 f2 f3 f4 Q E (sj_lp1 (vb_X6_putIntoList_19 f0 f1 f2 f3 f4 Q E) n) v5 w := hv
    have hc1 : rm_X6_putIntoList.cells = 16 := rfl
    have hc2 : rm_X6_putIntoList.slots = 48 := rfl
    refine lv_iload hx hb dX6_putIntoList_19 (lv_at hl 5 rfl) ?_
    refine lv_if_le (tgt := 74) hx hb dX6_putIntoList_21 (by decide) (fun hc => ?_) (fun hc => ?_)
    · have hv4 := hv.1 hc
      refine W.widen (k := 15) (n := 45) (by omega) (by omega) ?_
      exact hE v5 w _ _ _ (lv_sub hl [0, 3, 5] rfl) hH hv4
    · have hv5 := hv.2 hc
      refine lv_aload_n hx hb dX6_putIntoList_24 rfl (lv_at hl 0 rfl) ?_
      refine lv_iload_n hx hb dX6_putIntoList_25 rfl (lv_at hl 1 rfl) ?_
      refine lv_aload_n hx hb dX6_putIntoList_26 rfl (lv_at hl 0 rfl) ?_
      refine gf_X6_17 hC hH hv5.1 hv5.2.1 dX6_putIntoList_27 ?_
      refine lv_aload_n hx hb dX6_putIntoList_30 rfl (lv_at hl 0 rfl) ?_
      refine gf_X6_21 hC hH hv5.2.2.1 hv5.2.2.2.1 dX6_putIntoList_31 ?_
      refine lv_iload hx hb dX6_putIntoList_34 (lv_at hl 5 rfl) ?_
      refine lv_iconst (v := 1) hx hb dX6_putIntoList_36 (by decide) ?_
      refine lv_isub hx hb dX6_putIntoList_37 ?_
      refine sj_iald hC hH hv5.2.2.2.2.1 hv5.2.2.2.2.2.1 dX6_putIntoList_38 ?_
      refine sj_aald hC hH hv5.2.2.2.2.2.2.1 hv5.2.2.2.2.2.2.2.1 hv5.2.2.2.2.2.2.2.2.1 dX6_putIntoList_39 ?_
      refine cl_X6_137 hC hD hH hv5.2.2.2.2.2.2.2.2.2.2 hv5.2.2.2.2.2.2.2.2.2.1 ⟨Nat.le_of_ble_eq_true rfl, Nat.le_of_ble_eq_true rfl⟩ ⟨(by have hc1 : rm_X6_putIntoList.cells = 16 := rfl; omega), (by have hc1 : rm_X6_putIntoList.slots = 48 := rfl; omega)⟩ ⟨(by have hc1 : rm_X6_putIntoList.cells = 16 := rfl; omega), (by have hc1 : rm_X6_putIntoList.slots = 48 := rfl; omega)⟩ hl.1 (Nat.le_of_ble_eq_true rfl) dX6_putIntoList_40 (fun r6 w7 H locs hH hv8 => ?_)
      refine lv_aload hx hb dX6_putIntoList_43 (lv_at hl 4 rfl) ?_
      refine lv_iload_n hx hb dX6_putIntoList_45 rfl (lv_at hl 2 rfl) ?_
      refine cl_X6_140 hC hD hH hv8 ⟨Nat.le_of_ble_eq_true rfl, Nat.le_of_ble_eq_true rfl⟩ ⟨(by have hc1 : rm_X6_putIntoList.cells = 16 := rfl; omega), (by have hc1 : rm_X6_putIntoList.slots = 48 := rfl; omega)⟩ ⟨(by have hc1 : rm_X6_putIntoList.cells = 16 := rfl; omega), (by have hc1 : rm_X6_putIntoList.slots = 48 := rfl; omega)⟩ hl.1 (Nat.le_of_ble_eq_true rfl) dX6_putIntoList_46 (fun r9 w10 H locs hH hv11 => ?_)
      refine lv_if_le (tgt := 74) hx hb dX6_putIntoList_49 (by decide) (fun hc => ?_) (fun hc => ?_)
      · have hv12 := hv11.1 hc
        refine W.widen (k := 15) (n := 45) (by omega) (by omega) ?_
        exact hE v5 w10 _ _ _ (lv_sub hl [0, 3, 5] rfl) hH hv12
      · have hv13 := hv11.2 hc
        refine lv_aload_n hx hb dX6_putIntoList_52 rfl (lv_at hl 0 rfl) ?_
        refine gf_X6_21 hC hH hv13.1 hv13.2.1 dX6_putIntoList_53 ?_
        refine lv_iload hx hb dX6_putIntoList_56 (lv_at hl 5 rfl) ?_
        refine lv_aload_n hx hb dX6_putIntoList_58 rfl (lv_at hl 0 rfl) ?_
        refine gf_X6_21 hC hH hv13.2.2.1 hv13.2.2.2.1 dX6_putIntoList_59 ?_
        refine lv_iload hx hb dX6_putIntoList_62 (lv_at hl 5 rfl) ?_
        refine lv_iconst (v := 1) hx hb dX6_putIntoList_64 (by decide) ?_
        refine lv_isub hx hb dX6_putIntoList_65 ?_
        refine sj_iald hC hH hv13.2.2.2.2.1 hv13.2.2.2.2.2.1 dX6_putIntoList_66 ?_
        refine sj_iast hC hH hv13.2.2.2.2.2.2.1 hv13.2.2.2.2.2.2.2.1 dX6_putIntoList_67 (fun w14 H locs e15 hH => ?_)
        refine lv_iinc (v := (v5 + (-1))) (lv' := [(5, .int (v5 + (-1))), (0, .ref f0), (1, .int f1), (2, .int f2), (3, .int f3), (4, .ref f4)]) hx hb dX6_putIntoList_68 hl (k := 5) rfl rfl (by decide) rfl (fun ls hl => ?_)
        refine lv_goto (tgt := 19) hx hb dX6_putIntoList_71 (by decide) ?_
        refine W.widen (k := cells + 1) (n := slots + 3) (by omega) (by omega) ?_
        exact ih (v5 + (-1)) w14 _ _ _ _ _ (by omega) (by omega) (lv_sub hl [1, 2, 3, 4, 5, 0] rfl) hH (hv13.2.2.2.2.2.2.2.2 w14 e15)
set_option maxHeartbeats 4000000 in
set_option maxRecDepth 100000 in
theorem wk_X6_putIntoList (G : sj_G) (l : Launch) (hlt : l.stackTraces = false) (self : Nat) (a1 : Int32) (a2 : Int32) (a3 : Int32) (w : sj_W) (Q : sj_W → Prop) (QX : String → sj_W → Prop) (hv : vc_X6_putIntoList self a1 a2 a3 w Q) : sj_MV G l yX6_putIntoList (sj_ws yX6_putIntoList cX6_putIntoList 6 none) rm_X6_putIntoList [.ref self, .int a1, .int a2, .int a3] w Q QX := by
  refine sj_of (by decide +kernel) (Nat.le_of_ble_eq_true rfl) hlt ?_
  intro p e s m args below meth c ls hC hD hr hin hH hl
  have hx := hC.1
  have hb := hC.2.1
  have hl : lv_has ls 6 [(0, .ref self), (1, .int a1), (2, .int a2), (3, .int a3)] := hl
  refine lv_aload_n hx hb dX6_putIntoList_0 rfl (lv_at hl 0 rfl) ?_
  refine lv_iload_n hx hb dX6_putIntoList_1 rfl (lv_at hl 1 rfl) ?_
  refine lv_aload_n hx hb dX6_putIntoList_2 rfl (lv_at hl 0 rfl) ?_
  refine gf_X6_17 hC hH hv.1 hv.2.1 dX6_putIntoList_3 ?_
  refine lv_iload_n hx hb dX6_putIntoList_6 rfl (lv_at hl 3 rfl) ?_
  refine sj_aald hC hH hv.2.2.1 hv.2.2.2.1 hv.2.2.2.2.1 dX6_putIntoList_7 ?_
  refine cl_X6_137 hC hD hH hv.2.2.2.2.2.2 hv.2.2.2.2.2.1 ⟨Nat.le_of_ble_eq_true rfl, Nat.le_of_ble_eq_true rfl⟩ ⟨(Nat.le_of_ble_eq_true rfl), (Nat.le_of_ble_eq_true rfl)⟩ ⟨(Nat.le_of_ble_eq_true rfl), (Nat.le_of_ble_eq_true rfl)⟩ hl.1 (Nat.le_of_ble_eq_true rfl) dX6_putIntoList_8 (fun r1 w2 H locs hH hv3 => ?_)
  refine lv_astore (lv' := [(4, .ref r1), (0, .ref self), (1, .int a1), (2, .int a2), (3, .int a3)]) hx hb dX6_putIntoList_11 hl (by decide) rfl (fun ls hl => ?_)
  refine lv_aload_n hx hb dX6_putIntoList_13 rfl (lv_at hl 1 rfl) ?_
  refine gf_X6_144 hC hH hv3.1 dX6_putIntoList_14 ?_
  refine lv_istore (lv' := [(5, .int (sj_I w2 36 self)), (4, .ref r1), (0, .ref self), (1, .int a1), (2, .int a2), (3, .int a3)]) hx hb dX6_putIntoList_17 hl (by decide) rfl (fun ls hl => ?_)
  refine wl_X6_putIntoList_19 hC hD hr hin (fun z5_19 w_19 H locs ls hl hH hv16 => ?_) 14 (sj_I w2 36 self) w2 _ _ _ 1 3 (Nat.le_of_ble_eq_true rfl) (Nat.le_of_ble_eq_true rfl) (lv_sub hl [2, 3, 4, 5, 1, 0] rfl) hH hv3.2
  refine lv_aload_n hx hb dX6_putIntoList_74 rfl (lv_at hl 0 rfl) ?_
  refine gf_X6_21 hC hH hv16.1 hv16.2.1 dX6_putIntoList_75 ?_
  refine lv_iload hx hb dX6_putIntoList_78 (lv_at hl 2 rfl) ?_
  refine lv_iload_n hx hb dX6_putIntoList_80 rfl (lv_at hl 1 rfl) ?_
  refine sj_iast hC hH hv16.2.2.1 hv16.2.2.2.1 dX6_putIntoList_81 (fun w17 H locs e18 hH => ?_)
  refine lv_aload_n hx hb dX6_putIntoList_82 rfl (lv_at hl 0 rfl) ?_
  refine lv_dup hx hb dX6_putIntoList_83 rfl ?_
  refine gf_X6_144 hC hH (hv16.2.2.2.2 w17 e18).1 dX6_putIntoList_84 ?_
  refine lv_iconst (v := 1) hx hb dX6_putIntoList_87 (by decide) ?_
  refine lv_iadd hx hb dX6_putIntoList_88 ?_
  refine pf_X6_144 hC hH (hv16.2.2.2.2 w17 e18).2.1 dX6_putIntoList_89 (fun w19 H locs e20 hH => ?_)
  exact sj_retV hC hD hH hr ((hv16.2.2.2.2 w17 e18).2.2 w19 e20) ⟨(Nat.le_of_ble_eq_true rfl), (Nat.le_of_ble_eq_true rfl)⟩ dX6_putIntoList_92
section SJL_X6_putIntoList
variable {p : Program} {l : Launch} {e : Env} {R : Room} {s : State} {m : MethodId} {args : Array Value} {below : List Frame} {meth : Method} {c : Code} {H : Heap} {locs : List Loc} {cells slots : Nat} {Q : State → Prop} {cc : ByteArray} {pc : Nat} {ls : Array Slot} {rest : List Value} {G : sj_G} {nL : Nat} {w : sj_W}
theorem cl_X6_147 {rmM : Room} {QcM : Array Value → State → Outcome → State → Prop} {QX : String → sj_W → Prop} {b : Nat} {b0 : Int32} {b1 : Int32} {b2 : Int32} {Qi : sj_W → Prop} (hC : sj_C G p l s m args c cc RX6 nL) (hD : sj_D meth c) (hH : sj_H G s w H locs) (hv : vc_X6_putIntoList b b0 b1 b2 w Qi) (hT : sj_T w b = 5) (hR : rm_X6_putIntoList.frames + 1 ≤ R.frames ∧ 8 + (6 + 11) + rm_X6_putIntoList.locals ≤ R.locals) (hf : cells + 16 ≤ R.cells ∧ slots + 48 ≤ R.slots) (hfM : cells + 16 ≤ rmM.cells ∧ slots + 48 ≤ rmM.slots) (hls : ls.size = nL) (hW : (rest.map fun v => v.category).sum ≤ 8) (hdg : decode cc pc = .ok (.invokevirtual 147, 3)) (kk : ∀ (w1 : sj_W) (H : Heap) (locs : List Loc), sj_H G s w1 H locs → Qi w1 → W p l e R s m args below meth c H locs (cells + 16) (slots + 48) (sj_MQ G below QcM QX args s rmM) (F0 m (pc + 3) ls rest)) : W p l e R s m args below meth c H locs cells slots (sj_MQ G below QcM QX args s rmM) (F0 m pc ls (.int b2 :: .int b1 :: .int b0 :: .ref b :: rest)) :=
  sj_cV hD hH (sj_runV (n := 3) hC hH (As := [.int b0, .int b1, .int b2]) (wk_X6_putIntoList G l hC.2.2.2.2.2.2 b b0 b1 b2 w Qi QX hv) (ci := 4) rfl (by decide) hT mb_463 mb_465 mb_s8 mb_1 mb_466 (by decide +kernel) hR hf rfl hls hW hdg) hfM kk
end SJL_X6_putIntoList
abbrev rm_X6_sort : Room := { frames := 7, cells := 242, slots := 732, locals := 102 }
def vb_X6_sort_19 (f0 : Nat) (f3 : Int32) (f4 : Int32) (Q : Int32 → sj_W → Prop) (QX : String → sj_W → Prop) (E : sj_W → Prop) (K : Int32 → sj_W → Prop) (v5 : Int32) (w : sj_W) : Prop := ((12 ≤ v5 → E w) ∧ (¬ 12 ≤ v5 → sj_T w f0 = 5 ∧ sj_A w 33 f0 ≠ 0 ∧ (sj_T w (sj_A w 33 f0) = 10 ∨ sj_T w (sj_A w 33 f0) = 11 ∨ sj_T w (sj_A w 33 f0) = 12) ∧ vp_in v5 (sj_N w (sj_A w 33 f0)) ∧ (sj_r w (sj_A w 33 f0) v5.toNatClampNeg) ≠ 0 ∧ sj_T w f0 = 5 ∧ vc_X6_isFitting f0 f3 (sj_r w (sj_A w 33 f0) v5.toNatClampNeg) w (fun r11 w12 => ((r11 = 0 → K (v5 + 1) w12) ∧ (¬ r11 = 0 → sj_T w12 f0 = 5 ∧ vc_X6_putIntoList f0 f3 f4 v5 w12 (fun w17 => K (v5 + 1) w17))))))
def vc_X6_sort (self : Nat) (a1 : Int32) (a2 : Int32) (w : sj_W) (Q : Int32 → sj_W → Prop) (QX : String → sj_W → Prop) : Prop := vc_X6_kindOf a1 w (fun r1 w2 => vc_X6_isUnsigned a2 w2 (fun r4 w5 => sj_T w5 self = 5 ∧ ∀ w7 : sj_W, w7 = sj_sI w5 36 self 0 → sj_lp1 (vb_X6_sort_19 self r1 r4 Q QX (fun w_19 => sj_T w_19 self = 5 ∧ Q (sj_I w_19 36 self) w_19)) 14 0 w7) QX) QX
set_option maxHeartbeats 4000000 in
set_option maxRecDepth 100000 in
theorem wl_X6_sort_19 {p : Program} {l : Launch} {e : Env} {s : State} {m : MethodId} {args : Array Value} {below : List Frame} {meth : Method} {c : Code} {G : sj_G} {f0 : Nat} {f3 : Int32} {f4 : Int32} {Q : Int32 → sj_W → Prop} {QX : String → sj_W → Prop} {E : sj_W → Prop} (hC : sj_C G p l s m args c cX6_sort RX6 6) (hD : sj_D meth c) (hr : meth.sig.returnType = (some .int)) (hin : meth.name = "sort") (hE : ∀ (w : sj_W) (H : Heap) (locs : List Loc) (ls : Array Slot), lv_has ls 6 [(0, .ref f0)] → sj_H G s w H locs → E w → W p l e rm_X6_sort s m args below meth c H locs 226 684 (sj_MQ G below (va_Qi Q (sj_B G) (sj_F G)) QX args s rm_X6_sort) (F0 m 56 ls [])) : ∀ (n : Nat) (v5 : Int32) (w : sj_W) (H : Heap) (locs : List Loc) (ls : Array Slot) (cells slots : Nat), cells + n * 16 ≤ 226 → slots + n * 48 ≤ 684 → lv_has ls 6 [(0, .ref f0), (3, .int f3), (4, .int f4), (5, .int v5)] → sj_H G s w H locs → sj_lp1 (vb_X6_sort_19 f0 f3 f4 Q QX E) n v5 w → W p l e rm_X6_sort s m args below meth c H locs cells slots (sj_MQ G below (va_Qi Q (sj_B G) (sj_F G)) QX args s rm_X6_sort) (F0 m 19 ls []) := by
  have hx := hC.1
  have hb := hC.2.1
  intro n
  induction n with
  | zero =>
    intro v5 w H locs ls cells slots _ _ _ _ hv
    exact hv.elim
  | succ n ih =>
    intro v5 w H locs ls cells slots hcc hcs hl hH hv
    have hv : vb_X6_sort_19 f0 f3 f4 Q QX E (sj_lp1 (vb_X6_sort_19 f0 f3 f4 Q QX E) n) v5 w := hv
    have hc1 : rm_X6_sort.cells = 242 := rfl
    have hc2 : rm_X6_sort.slots = 732 := rfl
    refine lv_iload hx hb dX6_sort_19 (lv_at hl 3 rfl) ?_
    refine lv_bipush (v := 12) hx hb dX6_sort_21 (by decide) ?_
    refine lv_icmp_ge (tgt := 56) hx hb dX6_sort_23 (by decide) (fun hc => ?_) (fun hc => ?_)
    · have hv9 := hv.1 hc
      refine W.widen (k := 226) (n := 684) (by omega) (by omega) ?_
      exact hE  w _ _ _ (lv_sub hl [0] rfl) hH hv9
    · have hv10 := hv.2 hc
      refine lv_aload_n hx hb dX6_sort_26 rfl (lv_at hl 0 rfl) ?_
      refine lv_iload_n hx hb dX6_sort_27 rfl (lv_at hl 1 rfl) ?_
      refine lv_aload_n hx hb dX6_sort_28 rfl (lv_at hl 0 rfl) ?_
      refine gf_X6_17 hC hH hv10.1 hv10.2.1 dX6_sort_29 ?_
      refine lv_iload hx hb dX6_sort_32 (lv_at hl 3 rfl) ?_
      refine sj_aald hC hH hv10.2.2.1 hv10.2.2.2.1 hv10.2.2.2.2.1 dX6_sort_34 ?_
      refine cl_X6_108 hC hD hH hv10.2.2.2.2.2.2 hv10.2.2.2.2.2.1 ⟨Nat.le_of_ble_eq_true rfl, Nat.le_of_ble_eq_true rfl⟩ ⟨(by have hc1 : rm_X6_sort.cells = 242 := rfl; omega), (by have hc1 : rm_X6_sort.slots = 732 := rfl; omega)⟩ ⟨(by have hc1 : rm_X6_sort.cells = 242 := rfl; omega), (by have hc1 : rm_X6_sort.slots = 732 := rfl; omega)⟩ hl.1 (Nat.le_of_ble_eq_true rfl) dX6_sort_35 (fun r11 w12 H locs hH hv13 => ?_)
      refine lv_if_eq (tgt := 50) hx hb dX6_sort_38 (by decide) (fun hc => ?_) (fun hc => ?_)
      · have hv14 := hv13.1 hc
        refine lv_iinc (v := (v5 + 1)) (lv' := [(5, .int (v5 + 1)), (0, .ref f0), (3, .int f3), (4, .int f4)]) hx hb dX6_sort_50 hl (k := 3) rfl rfl (by decide) rfl (fun ls hl => ?_)
        refine lv_goto (tgt := 19) hx hb dX6_sort_53 (by decide) ?_
        refine W.widen (k := cells + 16) (n := slots + 48) (by omega) (by omega) ?_
        exact ih (v5 + 1) w12 _ _ _ _ _ (by omega) (by omega) (lv_sub hl [1, 2, 3, 0] rfl) hH hv14
      · have hv15 := hv13.2 hc
        refine lv_aload_n hx hb dX6_sort_41 rfl (lv_at hl 0 rfl) ?_
        refine lv_iload_n hx hb dX6_sort_42 rfl (lv_at hl 1 rfl) ?_
        refine lv_iload hx hb dX6_sort_43 (lv_at hl 2 rfl) ?_
        refine lv_iload hx hb dX6_sort_45 (lv_at hl 3 rfl) ?_
        refine cl_X6_147 hC hD hH hv15.2 hv15.1 ⟨Nat.le_of_ble_eq_true rfl, Nat.le_of_ble_eq_true rfl⟩ ⟨(by have hc1 : rm_X6_sort.cells = 242 := rfl; omega), (by have hc1 : rm_X6_sort.slots = 732 := rfl; omega)⟩ ⟨(by have hc1 : rm_X6_sort.cells = 242 := rfl; omega), (by have hc1 : rm_X6_sort.slots = 732 := rfl; omega)⟩ hl.1 (Nat.le_of_ble_eq_true rfl) dX6_sort_47 (fun w17 H locs hH hv18 => ?_)
        refine lv_iinc (v := (v5 + 1)) (lv' := [(5, .int (v5 + 1)), (0, .ref f0), (3, .int f3), (4, .int f4)]) hx hb dX6_sort_50 hl (k := 3) rfl rfl (by decide) rfl (fun ls hl => ?_)
        refine lv_goto (tgt := 19) hx hb dX6_sort_53 (by decide) ?_
        refine W.widen (k := cells + 16) (n := slots + 48) (by omega) (by omega) ?_
        exact ih (v5 + 1) w17 _ _ _ _ _ (by omega) (by omega) (lv_sub hl [1, 2, 3, 0] rfl) hH hv18
set_option maxHeartbeats 4000000 in
set_option maxRecDepth 100000 in
theorem wk_X6_sort (G : sj_G) (l : Launch) (hlt : l.stackTraces = false) (self : Nat) (a1 : Int32) (a2 : Int32) (w : sj_W) (Q : Int32 → sj_W → Prop) (QX : String → sj_W → Prop) (hv : vc_X6_sort self a1 a2 w Q QX) : sj_MI G l yX6_sort (sj_ws yX6_sort cX6_sort 6 (some .int)) rm_X6_sort [.ref self, .int a1, .int a2] w Q QX := by
  refine sj_of (by decide +kernel) (Nat.le_of_ble_eq_true rfl) hlt ?_
  intro p e s m args below meth c ls hC hD hr hin hH hl
  have hx := hC.1
  have hb := hC.2.1
  have hl : lv_has ls 6 [(0, .ref self), (1, .int a1), (2, .int a2)] := hl
  refine lv_iload_n hx hb dX6_sort_0 rfl (lv_at hl 1 rfl) ?_
  refine cl_X6_34 hC hD hH hv ⟨Nat.le_of_ble_eq_true rfl, Nat.le_of_ble_eq_true rfl⟩ ⟨(Nat.le_of_ble_eq_true rfl), (Nat.le_of_ble_eq_true rfl)⟩ ⟨(Nat.le_of_ble_eq_true rfl), (Nat.le_of_ble_eq_true rfl)⟩ hl.1 (Nat.le_of_ble_eq_true rfl) dX6_sort_1 (fun r1 w2 H locs hH hv3 => ?_)
  refine lv_istore_n (lv' := [(3, .int r1), (0, .ref self), (1, .int a1), (2, .int a2)]) hx hb dX6_sort_4 rfl hl (by decide) rfl (fun ls hl => ?_)
  refine lv_iload_n hx hb dX6_sort_5 rfl (lv_at hl 3 rfl) ?_
  refine cl_X6_133 hC hD hH hv3 ⟨Nat.le_of_ble_eq_true rfl, Nat.le_of_ble_eq_true rfl⟩ ⟨(Nat.le_of_ble_eq_true rfl), (Nat.le_of_ble_eq_true rfl)⟩ ⟨(Nat.le_of_ble_eq_true rfl), (Nat.le_of_ble_eq_true rfl)⟩ hl.1 (Nat.le_of_ble_eq_true rfl) dX6_sort_6 (fun r4 w5 H locs hH hv6 => ?_)
  refine lv_istore (lv' := [(4, .int r4), (3, .int r1), (0, .ref self), (1, .int a1), (2, .int a2)]) hx hb dX6_sort_9 hl (by decide) rfl (fun ls hl => ?_)
  refine lv_aload_n hx hb dX6_sort_11 rfl (lv_at hl 2 rfl) ?_
  refine lv_iconst (v := 0) hx hb dX6_sort_12 (by decide) ?_
  refine pf_X6_144 hC hH hv6.1 dX6_sort_13 (fun w7 H locs e8 hH => ?_)
  refine lv_iconst (v := 0) hx hb dX6_sort_16 (by decide) ?_
  refine lv_istore (lv' := [(5, .int 0), (4, .int r4), (3, .int r1), (0, .ref self), (1, .int a1), (2, .int a2)]) hx hb dX6_sort_17 hl (by decide) rfl (fun ls hl => ?_)
  refine wl_X6_sort_19 hC hD hr hin (fun w_19 H locs ls hl hH hv19 => ?_) 14 0 w7 _ _ _ 2 12 (Nat.le_of_ble_eq_true rfl) (Nat.le_of_ble_eq_true rfl) (lv_sub hl [3, 2, 1, 0] rfl) hH (hv6.2 w7 e8)
  refine lv_aload_n hx hb dX6_sort_56 rfl (lv_at hl 0 rfl) ?_
  refine gf_X6_144 hC hH hv19.1 dX6_sort_57 ?_
  exact sj_retI hC hD hH hr rfl hv19.2 ⟨(Nat.le_of_ble_eq_true rfl), (Nat.le_of_ble_eq_true rfl)⟩ dX6_sort_60
abbrev rm_X6_sorted : Room := { frames := 7, cells := 1, slots := 6, locals := 103 }
def vc_X6_sorted (self : Nat) (a1 : Int32) (w : sj_W) (Q : Int32 → sj_W → Prop) (QX : String → sj_W → Prop) : Prop := sj_T w self = 5 ∧ vc_X6_wantPlace a1 (sj_I w 36 self) w (fun w2 => sj_T w2 self = 5 ∧ sj_A w2 34 self ≠ 0 ∧ sj_T w2 (sj_A w2 34 self) = 7 ∧ vp_in a1 (sj_N w2 (sj_A w2 34 self)) ∧ Q (sj_i w2 (sj_A w2 34 self) a1.toNatClampNeg) w2) QX
set_option maxHeartbeats 4000000 in
set_option maxRecDepth 100000 in
theorem wk_X6_sorted (G : sj_G) (l : Launch) (hlt : l.stackTraces = false) (self : Nat) (a1 : Int32) (w : sj_W) (Q : Int32 → sj_W → Prop) (QX : String → sj_W → Prop) (hv : vc_X6_sorted self a1 w Q QX) : sj_MI G l yX6_sorted (sj_ws yX6_sorted cX6_sorted 2 (some .int)) rm_X6_sorted [.ref self, .int a1] w Q QX := by
  refine sj_of (by decide +kernel) (Nat.le_of_ble_eq_true rfl) hlt ?_
  intro p e s m args below meth c ls hC hD hr hin hH hl
  have hx := hC.1
  have hb := hC.2.1
  have hl : lv_has ls 2 [(0, .ref self), (1, .int a1)] := hl
  refine lv_iload_n hx hb dX6_sorted_0 rfl (lv_at hl 1 rfl) ?_
  refine lv_aload_n hx hb dX6_sorted_1 rfl (lv_at hl 0 rfl) ?_
  refine gf_X6_144 hC hH hv.1 dX6_sorted_2 ?_
  refine cl_X6_61 hC hD hH hv.2 ⟨Nat.le_of_ble_eq_true rfl, Nat.le_of_ble_eq_true rfl⟩ ⟨(Nat.le_of_ble_eq_true rfl), (Nat.le_of_ble_eq_true rfl)⟩ ⟨(Nat.le_of_ble_eq_true rfl), (Nat.le_of_ble_eq_true rfl)⟩ hl.1 (Nat.le_of_ble_eq_true rfl) dX6_sorted_5 (fun w2 H locs hH hv3 => ?_)
  refine lv_aload_n hx hb dX6_sorted_8 rfl (lv_at hl 0 rfl) ?_
  refine gf_X6_21 hC hH hv3.1 hv3.2.1 dX6_sorted_9 ?_
  refine lv_iload_n hx hb dX6_sorted_12 rfl (lv_at hl 1 rfl) ?_
  refine sj_iald hC hH hv3.2.2.1 hv3.2.2.2.1 dX6_sorted_13 ?_
  exact sj_retI hC hD hH hr rfl hv3.2.2.2.2 ⟨(Nat.le_of_ble_eq_true rfl), (Nat.le_of_ble_eq_true rfl)⟩ dX6_sorted_14
abbrev rm_X6_span : Room := { frames := 7, cells := 3, slots := 18, locals := 103 }
def vc_X6_span (self : Nat) (a1 : Int32) (a2 : Int32) (a3 : Int32) (a4 : Int32) (w : sj_W) (Q : Int32 → sj_W → Prop) (QX : String → sj_W → Prop) : Prop := sj_T w self = 5 ∧ vc_X6_spanOf self a1 w (fun r1 w2 => vc_X6_wantRow a2 w2 (fun w5 => ((a3 < 0 → QX "java/lang/IllegalArgumentException" w5) ∧ (¬ a3 < 0 → ((a4 < a3 → QX "java/lang/IllegalArgumentException" w5) ∧ (¬ a4 < a3 → ((a4 ≤ 32 → sj_T w5 r1 = 3 ∧ ∀ w12 : sj_W, w12 = sj_sI w5 16 r1 a2 → sj_T w12 r1 = 3 ∧ ∀ w14 : sj_W, w14 = sj_sI w12 17 r1 a3 → sj_T w14 r1 = 3 ∧ ∀ w16 : sj_W, w16 = sj_sI w14 18 r1 a4 → Q (a4 - a3) w16) ∧ (¬ a4 ≤ 32 → QX "java/lang/IllegalArgumentException" w5))))))) QX) QX
set_option maxHeartbeats 4000000 in
set_option maxRecDepth 100000 in
theorem wk_X6_span (G : sj_G) (l : Launch) (hlt : l.stackTraces = false) (self : Nat) (a1 : Int32) (a2 : Int32) (a3 : Int32) (a4 : Int32) (w : sj_W) (Q : Int32 → sj_W → Prop) (QX : String → sj_W → Prop) (hv : vc_X6_span self a1 a2 a3 a4 w Q QX) : sj_MI G l yX6_span (sj_ws yX6_span cX6_span 6 (some .int)) rm_X6_span [.ref self, .int a1, .int a2, .int a3, .int a4] w Q QX := by
  refine sj_of (by decide +kernel) (Nat.le_of_ble_eq_true rfl) hlt ?_
  intro p e s m args below meth c ls hC hD hr hin hH hl
  have hx := hC.1
  have hb := hC.2.1
  have hl : lv_has ls 6 [(0, .ref self), (1, .int a1), (2, .int a2), (3, .int a3), (4, .int a4)] := hl
  refine lv_aload_n hx hb dX6_span_0 rfl (lv_at hl 0 rfl) ?_
  refine lv_iload_n hx hb dX6_span_1 rfl (lv_at hl 1 rfl) ?_
  refine cl_X6_89 hC hD hH hv.2 hv.1 ⟨Nat.le_of_ble_eq_true rfl, Nat.le_of_ble_eq_true rfl⟩ ⟨(Nat.le_of_ble_eq_true rfl), (Nat.le_of_ble_eq_true rfl)⟩ ⟨(Nat.le_of_ble_eq_true rfl), (Nat.le_of_ble_eq_true rfl)⟩ hl.1 (Nat.le_of_ble_eq_true rfl) dX6_span_2 (fun r1 w2 H locs hH hv3 => ?_)
  refine lv_astore (lv' := [(5, .ref r1), (0, .ref self), (1, .int a1), (2, .int a2), (3, .int a3), (4, .int a4)]) hx hb dX6_span_5 hl (by decide) rfl (fun ls hl => ?_)
  refine lv_iload_n hx hb dX6_span_7 rfl (lv_at hl 3 rfl) ?_
  refine cl_X6_93 hC hD hH hv3 ⟨Nat.le_of_ble_eq_true rfl, Nat.le_of_ble_eq_true rfl⟩ ⟨(Nat.le_of_ble_eq_true rfl), (Nat.le_of_ble_eq_true rfl)⟩ ⟨(Nat.le_of_ble_eq_true rfl), (Nat.le_of_ble_eq_true rfl)⟩ hl.1 (Nat.le_of_ble_eq_true rfl) dX6_span_8 (fun w5 H locs hH hv6 => ?_)
  refine lv_iload_n hx hb dX6_span_11 rfl (lv_at hl 4 rfl) ?_
  refine lv_if_lt (tgt := 28) hx hb dX6_span_12 (by decide) (fun hc => ?_) (fun hc => ?_)
  · have hv7 := hv6.1 hc
    exact th_X6_74_69 hC hD hH hl.1 dX6_span_28 dX6_span_31 dX6_span_32 dX6_span_34 dX6_span_37 ⟨Nat.le_of_ble_eq_true rfl, Nat.le_of_ble_eq_true rfl⟩ ⟨(Nat.le_of_ble_eq_true rfl), (Nat.le_of_ble_eq_true rfl)⟩ ⟨(Nat.le_of_ble_eq_true rfl), (Nat.le_of_ble_eq_true rfl)⟩ hv7
  · have hv8 := hv6.2 hc
    refine lv_iload hx hb dX6_span_15 (lv_at hl 5 rfl) ?_
    refine lv_iload_n hx hb dX6_span_17 rfl (lv_at hl 4 rfl) ?_
    refine lv_icmp_lt (tgt := 28) hx hb dX6_span_18 (by decide) (fun hc => ?_) (fun hc => ?_)
    · have hv9 := hv8.1 hc
      exact th_X6_74_69 hC hD hH hl.1 dX6_span_28 dX6_span_31 dX6_span_32 dX6_span_34 dX6_span_37 ⟨Nat.le_of_ble_eq_true rfl, Nat.le_of_ble_eq_true rfl⟩ ⟨(Nat.le_of_ble_eq_true rfl), (Nat.le_of_ble_eq_true rfl)⟩ ⟨(Nat.le_of_ble_eq_true rfl), (Nat.le_of_ble_eq_true rfl)⟩ hv9
    · have hv10 := hv8.2 hc
      refine lv_iload hx hb dX6_span_21 (lv_at hl 5 rfl) ?_
      refine lv_bipush (v := 32) hx hb dX6_span_23 (by decide) ?_
      refine lv_icmp_le (tgt := 38) hx hb dX6_span_25 (by decide) (fun hc => ?_) (fun hc => ?_)
      · have hv11 := hv10.1 hc
        refine lv_aload hx hb dX6_span_38 (lv_at hl 0 rfl) ?_
        refine lv_iload_n hx hb dX6_span_40 rfl (lv_at hl 3 rfl) ?_
        refine pf_X6_97 hC hH hv11.1 dX6_span_41 (fun w12 H locs e13 hH => ?_)
        refine lv_aload hx hb dX6_span_44 (lv_at hl 0 rfl) ?_
        refine lv_iload_n hx hb dX6_span_46 rfl (lv_at hl 4 rfl) ?_
        refine pf_X6_100 hC hH (hv11.2 w12 e13).1 dX6_span_47 (fun w14 H locs e15 hH => ?_)
        refine lv_aload hx hb dX6_span_50 (lv_at hl 0 rfl) ?_
        refine lv_iload hx hb dX6_span_52 (lv_at hl 5 rfl) ?_
        refine pf_X6_103 hC hH ((hv11.2 w12 e13).2 w14 e15).1 dX6_span_54 (fun w16 H locs e17 hH => ?_)
        refine lv_iload hx hb dX6_span_57 (lv_at hl 5 rfl) ?_
        refine lv_iload_n hx hb dX6_span_59 rfl (lv_at hl 4 rfl) ?_
        refine lv_isub hx hb dX6_span_60 ?_
        exact sj_retI hC hD hH hr rfl (((hv11.2 w12 e13).2 w14 e15).2 w16 e17) ⟨(Nat.le_of_ble_eq_true rfl), (Nat.le_of_ble_eq_true rfl)⟩ dX6_span_61
      · have hv18 := hv10.2 hc
        exact th_X6_74_69 hC hD hH hl.1 dX6_span_28 dX6_span_31 dX6_span_32 dX6_span_34 dX6_span_37 ⟨Nat.le_of_ble_eq_true rfl, Nat.le_of_ble_eq_true rfl⟩ ⟨(Nat.le_of_ble_eq_true rfl), (Nat.le_of_ble_eq_true rfl)⟩ ⟨(Nat.le_of_ble_eq_true rfl), (Nat.le_of_ble_eq_true rfl)⟩ hv18
abbrev rm_X6_tells : Room := { frames := 7, cells := 2, slots := 12, locals := 103 }
def vc_X6_tells (self : Nat) (a1 : Int32) (a2 : Int32) (w : sj_W) (Q : Int32 → sj_W → Prop) (QX : String → sj_W → Prop) : Prop := sj_T w self = 5 ∧ vc_X6_spanOf self a1 w (fun r1 w2 => ((a2 = 102 → sj_T w2 r1 = 3 ∧ Q (sj_I w2 17 r1) w2) ∧ (a2 = 114 → sj_T w2 r1 = 3 ∧ Q (sj_I w2 16 r1) w2) ∧ (a2 = 116 → sj_T w2 r1 = 3 ∧ Q (sj_I w2 18 r1) w2) ∧ (¬ a2 = 102 ∧ ¬ a2 = 114 ∧ ¬ a2 = 116 → QX "java/lang/IllegalArgumentException" w2))) QX
set_option maxHeartbeats 4000000 in
set_option maxRecDepth 100000 in
theorem wk_X6_tells (G : sj_G) (l : Launch) (hlt : l.stackTraces = false) (self : Nat) (a1 : Int32) (a2 : Int32) (w : sj_W) (Q : Int32 → sj_W → Prop) (QX : String → sj_W → Prop) (hv : vc_X6_tells self a1 a2 w Q QX) : sj_MI G l yX6_tells (sj_ws yX6_tells cX6_tells 4 (some .int)) rm_X6_tells [.ref self, .int a1, .int a2] w Q QX := by
  refine sj_of (by decide +kernel) (Nat.le_of_ble_eq_true rfl) hlt ?_
  intro p e s m args below meth c ls hC hD hr hin hH hl
  have hx := hC.1
  have hb := hC.2.1
  have hl : lv_has ls 4 [(0, .ref self), (1, .int a1), (2, .int a2)] := hl
  refine lv_aload_n hx hb dX6_tells_0 rfl (lv_at hl 0 rfl) ?_
  refine lv_iload_n hx hb dX6_tells_1 rfl (lv_at hl 1 rfl) ?_
  refine cl_X6_89 hC hD hH hv.2 hv.1 ⟨Nat.le_of_ble_eq_true rfl, Nat.le_of_ble_eq_true rfl⟩ ⟨(Nat.le_of_ble_eq_true rfl), (Nat.le_of_ble_eq_true rfl)⟩ ⟨(Nat.le_of_ble_eq_true rfl), (Nat.le_of_ble_eq_true rfl)⟩ hl.1 (Nat.le_of_ble_eq_true rfl) dX6_tells_2 (fun r1 w2 H locs hH hv3 => ?_)
  refine lv_astore_n (lv' := [(3, .ref r1), (0, .ref self), (1, .int a1), (2, .int a2)]) hx hb dX6_tells_5 rfl hl (by decide) rfl (fun ls hl => ?_)
  refine lv_iload_n hx hb dX6_tells_6 rfl (lv_at hl 3 rfl) ?_
  by_cases hc0 : a2 = 102
  · have hv4 := hv3.1 hc0
    refine lv_lookup (off := 38) (tgt := 45) hx hb dX6_tells_7 (by decide) (by rw [hc0]; decide) (by decide) ?_
    refine lv_aload_n hx hb dX6_tells_45 rfl (lv_at hl 0 rfl) ?_
    refine gf_X6_100 hC hH hv4.1 dX6_tells_46 ?_
    exact sj_retI hC hD hH hr rfl hv4.2 ⟨(Nat.le_of_ble_eq_true rfl), (Nat.le_of_ble_eq_true rfl)⟩ dX6_tells_49
  · skip
    by_cases hc1 : a2 = 114
    · have hv5 := hv3.2.1 hc1
      refine lv_lookup (off := 33) (tgt := 40) hx hb dX6_tells_7 (by decide) (by rw [hc1]; decide) (by decide) ?_
      refine lv_aload_n hx hb dX6_tells_40 rfl (lv_at hl 0 rfl) ?_
      refine gf_X6_97 hC hH hv5.1 dX6_tells_41 ?_
      exact sj_retI hC hD hH hr rfl hv5.2 ⟨(Nat.le_of_ble_eq_true rfl), (Nat.le_of_ble_eq_true rfl)⟩ dX6_tells_44
    · skip
      by_cases hc2 : a2 = 116
      · have hv6 := hv3.2.2.1 hc2
        refine lv_lookup (off := 43) (tgt := 50) hx hb dX6_tells_7 (by decide) (by rw [hc2]; decide) (by decide) ?_
        refine lv_aload_n hx hb dX6_tells_50 rfl (lv_at hl 0 rfl) ?_
        refine gf_X6_103 hC hH hv6.1 dX6_tells_51 ?_
        exact sj_retI hC hD hH hr rfl hv6.2 ⟨(Nat.le_of_ble_eq_true rfl), (Nat.le_of_ble_eq_true rfl)⟩ dX6_tells_54
      · skip
        have hv7 := hv3.2.2.2 ⟨hc0, hc1, hc2⟩
        refine lv_lookup (off := 48) (tgt := 55) hx hb dX6_tells_7 (by decide) (sj_off3 (sj_ne hc0 (by decide)) (sj_ne hc1 (by decide)) (sj_ne hc2 (by decide))) (by decide) ?_
        exact th_X6_106_69 hC hD hH hl.1 dX6_tells_55 dX6_tells_58 dX6_tells_59 dX6_tells_61 dX6_tells_64 ⟨Nat.le_of_ble_eq_true rfl, Nat.le_of_ble_eq_true rfl⟩ ⟨(Nat.le_of_ble_eq_true rfl), (Nat.le_of_ble_eq_true rfl)⟩ ⟨(Nat.le_of_ble_eq_true rfl), (Nat.le_of_ble_eq_true rfl)⟩ hv7
abbrev rm_X0_init : Room := { frames := 1, cells := 71, slots := 2340, locals := 12 }
def vc_X0_init (self : Nat) (w : sj_W) (Q : sj_W → Prop) : Prop := ∀ (q1 : Nat) (r2 : Nat → Nat), q1 ≠ 0 → sj_T w q1 = 0 → (∀ i, i < 33 → r2 i ≠ 0 ∧ sj_T w (r2 i) = 0 ∧ r2 i ≠ q1) → (∀ i j : Nat, i < 33 → j < 33 → r2 i = r2 j → i = j) → ∀ w3 : sj_W, w3 = sj_nm w q1 r2 33 33 → sj_T w3 self = 1 ∧ q1 ≠ 0 ∧ ∀ w9 : sj_W, w9 = sj_sA w3 0 self q1 → ∀ (q11 : Nat) (r12 : Nat → Nat), q11 ≠ 0 → sj_T w9 q11 = 0 → (∀ i, i < 33 → r12 i ≠ 0 ∧ sj_T w9 (r12 i) = 0 ∧ r12 i ≠ q11) → (∀ i j : Nat, i < 33 → j < 33 → r12 i = r12 j → i = j) → ∀ w13 : sj_W, w13 = sj_nm w9 q11 r12 33 33 → sj_T w13 self = 1 ∧ q11 ≠ 0 ∧ ∀ w19 : sj_W, w19 = sj_sA w13 1 self q11 → ∀ q21 : Nat, q21 ≠ 0 → sj_T w19 q21 = 0 → ∀ w22 : sj_W, w22 = sj_nw w19 q21 7 32 → sj_T w22 self = 1 ∧ q21 ≠ 0 ∧ ∀ w26 : sj_W, w26 = sj_sA w22 2 self q21 → ∀ q28 : Nat, q28 ≠ 0 → sj_T w26 q28 = 0 → ∀ w29 : sj_W, w29 = sj_nw w26 q28 7 32 → sj_T w29 self = 1 ∧ q28 ≠ 0 ∧ ∀ w33 : sj_W, w33 = sj_sA w29 3 self q28 → ∀ q35 : Nat, q35 ≠ 0 → sj_T w33 q35 = 0 → ∀ w36 : sj_W, w36 = sj_nw w33 q35 8 32 → sj_T w36 self = 1 ∧ q35 ≠ 0 ∧ ∀ w40 : sj_W, w40 = sj_sA w36 5 self q35 → Q w40
set_option maxHeartbeats 4000000 in
set_option maxRecDepth 100000 in
theorem wk_X0_init (G : sj_G) (l : Launch) (hlt : l.stackTraces = false) (self : Nat) (w : sj_W) (Q : sj_W → Prop) (QX : String → sj_W → Prop) (hv : vc_X0_init self w Q) : sj_MV G l yX0_init (sj_ws yX0_init cX0_init 1 none) rm_X0_init [.ref self] w Q QX := by
  refine sj_of (by decide +kernel) (Nat.le_of_ble_eq_true rfl) hlt ?_
  intro p e s m args below meth c ls hC hD hr hin hH hl
  have hx := hC.1
  have hb := hC.2.1
  have hl : lv_has ls 1 [(0, .ref self)] := hl
  refine lv_aload_n hx hb dX0_init_0 rfl (lv_at hl 0 rfl) ?_
  refine W.objInit hx hb hC.2.2.2.1 (hC.2.2.2.2.1 _ mb_33) (hC.2.2.2.2.1 _ mb_22) (hC.2.2.2.2.1 _ mb_23) rfl (by rw [hC.2.2.1]; exact hl.1) rfl dX0_init_1 (Nat.le_of_ble_eq_true rfl) (Nat.le_of_ble_eq_true rfl) ?_
  refine W.eq (g2 := F0 m 4 ls []) rfl ?_
  refine lv_aload_n hx hb dX0_init_4 rfl (lv_at hl 0 rfl) ?_
  refine lv_bipush (v := 33) hx hb dX0_init_5 (by decide) ?_
  refine lv_bipush (v := 33) hx hb dX0_init_7 (by decide) ?_
  refine sj_newM (N := 33) (K := 33) hC hH mb_69 mb_multi (by decide) (by decide) rfl rfl (by decide) (by decide) (Nat.le_of_ble_eq_true rfl) (Nat.le_of_ble_eq_true rfl) dX0_init_9 (fun q1 r2 w3 H h5 h6 h7 h8 e4 hH => ?_)
  refine W.widen (k := 34) (n := 1122) (Nat.le_of_ble_eq_true rfl) (Nat.le_of_ble_eq_true rfl) ?_
  refine pf_X0_11 hC hH (hv q1 r2 h5 h6 h7 h8 w3 e4).1 hin (hv q1 r2 h5 h6 h7 h8 w3 e4).2.1 dX0_init_13 (fun w9 H locs e10 hH => ?_)
  refine lv_aload_n hx hb dX0_init_16 rfl (lv_at hl 0 rfl) ?_
  refine lv_bipush (v := 33) hx hb dX0_init_17 (by decide) ?_
  refine lv_bipush (v := 33) hx hb dX0_init_19 (by decide) ?_
  refine sj_newM (N := 33) (K := 33) hC hH mb_69 mb_multi (by decide) (by decide) rfl rfl (by decide) (by decide) (Nat.le_of_ble_eq_true rfl) (Nat.le_of_ble_eq_true rfl) dX0_init_21 (fun q11 r12 w13 H h15 h16 h17 h18 e14 hH => ?_)
  refine W.widen (k := 68) (n := 2244) (Nat.le_of_ble_eq_true rfl) (Nat.le_of_ble_eq_true rfl) ?_
  refine pf_X0_16 hC hH (((hv q1 r2 h5 h6 h7 h8 w3 e4).2.2 w9 e10) q11 r12 h15 h16 h17 h18 w13 e14).1 hin (((hv q1 r2 h5 h6 h7 h8 w3 e4).2.2 w9 e10) q11 r12 h15 h16 h17 h18 w13 e14).2.1 dX0_init_25 (fun w19 H locs e20 hH => ?_)
  refine lv_aload_n hx hb dX0_init_28 rfl (lv_at hl 0 rfl) ?_
  refine lv_bipush (v := 32) hx hb dX0_init_29 (by decide) ?_
  refine sj_newI hC hH mb_69 (by decide) rfl (by decide) (Nat.le_of_ble_eq_true rfl) (Nat.le_of_ble_eq_true rfl) dX0_init_31 (fun q21 w22 H h24 h25 e23 hH => ?_)
  refine pf_X0_19 hC hH (((((hv q1 r2 h5 h6 h7 h8 w3 e4).2.2 w9 e10) q11 r12 h15 h16 h17 h18 w13 e14).2.2 w19 e20) q21 h24 h25 w22 e23).1 hin (((((hv q1 r2 h5 h6 h7 h8 w3 e4).2.2 w9 e10) q11 r12 h15 h16 h17 h18 w13 e14).2.2 w19 e20) q21 h24 h25 w22 e23).2.1 dX0_init_33 (fun w26 H locs e27 hH => ?_)
  refine lv_aload_n hx hb dX0_init_36 rfl (lv_at hl 0 rfl) ?_
  refine lv_bipush (v := 32) hx hb dX0_init_37 (by decide) ?_
  refine sj_newI hC hH mb_69 (by decide) rfl (by decide) (Nat.le_of_ble_eq_true rfl) (Nat.le_of_ble_eq_true rfl) dX0_init_39 (fun q28 w29 H h31 h32 e30 hH => ?_)
  refine pf_X0_23 hC hH (((((((hv q1 r2 h5 h6 h7 h8 w3 e4).2.2 w9 e10) q11 r12 h15 h16 h17 h18 w13 e14).2.2 w19 e20) q21 h24 h25 w22 e23).2.2 w26 e27) q28 h31 h32 w29 e30).1 hin (((((((hv q1 r2 h5 h6 h7 h8 w3 e4).2.2 w9 e10) q11 r12 h15 h16 h17 h18 w13 e14).2.2 w19 e20) q21 h24 h25 w22 e23).2.2 w26 e27) q28 h31 h32 w29 e30).2.1 dX0_init_41 (fun w33 H locs e34 hH => ?_)
  refine lv_aload_n hx hb dX0_init_44 rfl (lv_at hl 0 rfl) ?_
  refine lv_bipush (v := 32) hx hb dX0_init_45 (by decide) ?_
  refine sj_newJ hC hH mb_70 (by decide) rfl (by decide) (Nat.le_of_ble_eq_true rfl) (Nat.le_of_ble_eq_true rfl) dX0_init_47 (fun q35 w36 H h38 h39 e37 hH => ?_)
  refine pf_X0_26 hC hH (((((((((hv q1 r2 h5 h6 h7 h8 w3 e4).2.2 w9 e10) q11 r12 h15 h16 h17 h18 w13 e14).2.2 w19 e20) q21 h24 h25 w22 e23).2.2 w26 e27) q28 h31 h32 w29 e30).2.2 w33 e34) q35 h38 h39 w36 e37).1 (((((((((hv q1 r2 h5 h6 h7 h8 w3 e4).2.2 w9 e10) q11 r12 h15 h16 h17 h18 w13 e14).2.2 w19 e20) q21 h24 h25 w22 e23).2.2 w26 e27) q28 h31 h32 w29 e30).2.2 w33 e34) q35 h38 h39 w36 e37).2.1 dX0_init_49 (fun w40 H locs e41 hH => ?_)
  exact sj_retV hC hD hH hr ((((((((((hv q1 r2 h5 h6 h7 h8 w3 e4).2.2 w9 e10) q11 r12 h15 h16 h17 h18 w13 e14).2.2 w19 e20) q21 h24 h25 w22 e23).2.2 w26 e27) q28 h31 h32 w29 e30).2.2 w33 e34) q35 h38 h39 w36 e37).2.2 w40 e41) ⟨(Nat.le_of_ble_eq_true rfl), (Nat.le_of_ble_eq_true rfl)⟩ dX0_init_52
section SJL_X0_init
variable {p : Program} {l : Launch} {e : Env} {R : Room} {s : State} {m : MethodId} {args : Array Value} {below : List Frame} {meth : Method} {c : Code} {H : Heap} {locs : List Loc} {cells slots : Nat} {Q : State → Prop} {cc : ByteArray} {pc : Nat} {ls : Array Slot} {rest : List Value} {G : sj_G} {nL : Nat} {w : sj_W}
theorem cl_X6_27 {rmM : Room} {QcM : Array Value → State → Outcome → State → Prop} {QX : String → sj_W → Prop} {b : Nat} {Qi : sj_W → Prop} (hC : sj_C G p l s m args c cc RX6 nL) (hD : sj_D meth c) (hH : sj_H G s w H locs) (hv : vc_X0_init b w Qi) (hR : rm_X0_init.frames + 1 ≤ R.frames ∧ 8 + (1 + 11) + rm_X0_init.locals ≤ R.locals) (hf : cells + 71 ≤ R.cells ∧ slots + 2340 ≤ R.slots) (hfM : cells + 71 ≤ rmM.cells ∧ slots + 2340 ≤ rmM.slots) (hls : ls.size = nL) (hW : (rest.map fun v => v.category).sum ≤ 8) (hdg : decode cc pc = .ok (.invokespecial 27, 3)) (kk : ∀ (w1 : sj_W) (H : Heap) (locs : List Loc), sj_H G s w1 H locs → Qi w1 → W p l e R s m args below meth c H locs (cells + 71) (slots + 2340) (sj_MQ G below QcM QX args s rmM) (F0 m (pc + 3) ls rest)) : W p l e R s m args below meth c H locs cells slots (sj_MQ G below QcM QX args s rmM) (F0 m pc ls (.ref b :: rest)) :=
  sj_cV hD hH (sj_runIN (n := 0) hC hH (As := []) (wk_X0_init G l hC.2.2.2.2.2.2 b w Qi QX hv) mb_30 mb_31 mb_2 mb_32 rfl (by decide +kernel) hR hf rfl hls hW hdg) hfM kk
end SJL_X0_init
abbrev rm_X1_init : Room := { frames := 1, cells := 1, slots := 32, locals := 12 }
def vc_X1_init (self : Nat) (w : sj_W) (Q : sj_W → Prop) : Prop := ∀ q1 : Nat, q1 ≠ 0 → sj_T w q1 = 0 → ∀ w2 : sj_W, w2 = sj_nw w q1 8 32 → sj_T w2 self = 2 ∧ q1 ≠ 0 ∧ ∀ w6 : sj_W, w6 = sj_sA w2 8 self q1 → Q w6
set_option maxHeartbeats 4000000 in
set_option maxRecDepth 100000 in
theorem wk_X1_init (G : sj_G) (l : Launch) (hlt : l.stackTraces = false) (self : Nat) (w : sj_W) (Q : sj_W → Prop) (QX : String → sj_W → Prop) (hv : vc_X1_init self w Q) : sj_MV G l yX1_init (sj_ws yX1_init cX1_init 1 none) rm_X1_init [.ref self] w Q QX := by
  refine sj_of (by decide +kernel) (Nat.le_of_ble_eq_true rfl) hlt ?_
  intro p e s m args below meth c ls hC hD hr hin hH hl
  have hx := hC.1
  have hb := hC.2.1
  have hl : lv_has ls 1 [(0, .ref self)] := hl
  refine lv_aload_n hx hb dX1_init_0 rfl (lv_at hl 0 rfl) ?_
  refine W.objInit hx hb hC.2.2.2.1 (hC.2.2.2.2.1 _ mb_75) (hC.2.2.2.2.1 _ mb_22) (hC.2.2.2.2.1 _ mb_23) rfl (by rw [hC.2.2.1]; exact hl.1) rfl dX1_init_1 (Nat.le_of_ble_eq_true rfl) (Nat.le_of_ble_eq_true rfl) ?_
  refine W.eq (g2 := F0 m 4 ls []) rfl ?_
  refine lv_aload_n hx hb dX1_init_4 rfl (lv_at hl 0 rfl) ?_
  refine lv_bipush (v := 32) hx hb dX1_init_5 (by decide) ?_
  refine sj_newJ hC hH mb_70 (by decide) rfl (by decide) (Nat.le_of_ble_eq_true rfl) (Nat.le_of_ble_eq_true rfl) dX1_init_7 (fun q1 w2 H h4 h5 e3 hH => ?_)
  refine pf_X1_9 hC hH (hv q1 h4 h5 w2 e3).1 hin (hv q1 h4 h5 w2 e3).2.1 dX1_init_9 (fun w6 H locs e7 hH => ?_)
  exact sj_retV hC hD hH hr ((hv q1 h4 h5 w2 e3).2.2 w6 e7) ⟨(Nat.le_of_ble_eq_true rfl), (Nat.le_of_ble_eq_true rfl)⟩ dX1_init_12
section SJL_X1_init
variable {p : Program} {l : Launch} {e : Env} {R : Room} {s : State} {m : MethodId} {args : Array Value} {below : List Frame} {meth : Method} {c : Code} {H : Heap} {locs : List Loc} {cells slots : Nat} {Q : State → Prop} {cc : ByteArray} {pc : Nat} {ls : Array Slot} {rest : List Value} {G : sj_G} {nL : Nat} {w : sj_W}
theorem cl_X6_32 {rmM : Room} {QcM : Array Value → State → Outcome → State → Prop} {QX : String → sj_W → Prop} {b : Nat} {Qi : sj_W → Prop} (hC : sj_C G p l s m args c cc RX6 nL) (hD : sj_D meth c) (hH : sj_H G s w H locs) (hv : vc_X1_init b w Qi) (hR : rm_X1_init.frames + 1 ≤ R.frames ∧ 8 + (1 + 11) + rm_X1_init.locals ≤ R.locals) (hf : cells + 1 ≤ R.cells ∧ slots + 32 ≤ R.slots) (hfM : cells + 1 ≤ rmM.cells ∧ slots + 32 ≤ rmM.slots) (hls : ls.size = nL) (hW : (rest.map fun v => v.category).sum ≤ 8) (hdg : decode cc pc = .ok (.invokespecial 32, 3)) (kk : ∀ (w1 : sj_W) (H : Heap) (locs : List Loc), sj_H G s w1 H locs → Qi w1 → W p l e R s m args below meth c H locs (cells + 1) (slots + 32) (sj_MQ G below QcM QX args s rmM) (F0 m (pc + 3) ls rest)) : W p l e R s m args below meth c H locs cells slots (sj_MQ G below QcM QX args s rmM) (F0 m pc ls (.ref b :: rest)) :=
  sj_cV hD hH (sj_runIN (n := 0) hC hH (As := []) (wk_X1_init G l hC.2.2.2.2.2.2 b w Qi QX hv) mb_72 mb_73 mb_3 mb_74 rfl (by decide +kernel) hR hf rfl hls hW hdg) hfM kk
end SJL_X1_init
abbrev rm_X3_init : Room := { frames := 1, cells := 0, slots := 0, locals := 12 }
def vc_X3_init (self : Nat) (w : sj_W) (Q : sj_W → Prop) : Prop := Q w
set_option maxHeartbeats 4000000 in
set_option maxRecDepth 100000 in
theorem wk_X3_init (G : sj_G) (l : Launch) (hlt : l.stackTraces = false) (self : Nat) (w : sj_W) (Q : sj_W → Prop) (QX : String → sj_W → Prop) (hv : vc_X3_init self w Q) : sj_MV G l yX3_init (sj_ws yX3_init cX3_init 1 none) rm_X3_init [.ref self] w Q QX := by
  refine sj_of (by decide +kernel) (Nat.le_of_ble_eq_true rfl) hlt ?_
  intro p e s m args below meth c ls hC hD hr hin hH hl
  have hx := hC.1
  have hb := hC.2.1
  have hl : lv_has ls 1 [(0, .ref self)] := hl
  refine lv_aload_n hx hb dX3_init_0 rfl (lv_at hl 0 rfl) ?_
  refine W.objInit hx hb hC.2.2.2.1 (hC.2.2.2.2.1 _ mb_92) (hC.2.2.2.2.1 _ mb_22) (hC.2.2.2.2.1 _ mb_23) rfl (by rw [hC.2.2.1]; exact hl.1) rfl dX3_init_1 (Nat.le_of_ble_eq_true rfl) (Nat.le_of_ble_eq_true rfl) ?_
  refine W.eq (g2 := F0 m 4 ls []) rfl ?_
  exact sj_retV hC hD hH hr hv ⟨(Nat.le_of_ble_eq_true rfl), (Nat.le_of_ble_eq_true rfl)⟩ dX3_init_4
section SJL_X3_init
variable {p : Program} {l : Launch} {e : Env} {R : Room} {s : State} {m : MethodId} {args : Array Value} {below : List Frame} {meth : Method} {c : Code} {H : Heap} {locs : List Loc} {cells slots : Nat} {Q : State → Prop} {cc : ByteArray} {pc : Nat} {ls : Array Slot} {rest : List Value} {G : sj_G} {nL : Nat} {w : sj_W}
theorem cl_X6_33 {rmM : Room} {QcM : Array Value → State → Outcome → State → Prop} {QX : String → sj_W → Prop} {b : Nat} {Qi : sj_W → Prop} (hC : sj_C G p l s m args c cc RX6 nL) (hD : sj_D meth c) (hH : sj_H G s w H locs) (hv : vc_X3_init b w Qi) (hR : rm_X3_init.frames + 1 ≤ R.frames ∧ 8 + (1 + 11) + rm_X3_init.locals ≤ R.locals) (hf : cells + 0 ≤ R.cells ∧ slots + 0 ≤ R.slots) (hfM : cells + 0 ≤ rmM.cells ∧ slots + 0 ≤ rmM.slots) (hls : ls.size = nL) (hW : (rest.map fun v => v.category).sum ≤ 8) (hdg : decode cc pc = .ok (.invokespecial 33, 3)) (kk : ∀ (w1 : sj_W) (H : Heap) (locs : List Loc), sj_H G s w1 H locs → Qi w1 → W p l e R s m args below meth c H locs (cells + 0) (slots + 0) (sj_MQ G below QcM QX args s rmM) (F0 m (pc + 3) ls rest)) : W p l e R s m args below meth c H locs cells slots (sj_MQ G below QcM QX args s rmM) (F0 m pc ls (.ref b :: rest)) :=
  sj_cV hD hH (sj_runIN (n := 0) hC hH (As := []) (wk_X3_init G l hC.2.2.2.2.2.2 b w Qi QX hv) mb_89 mb_90 mb_4 mb_91 rfl (by decide +kernel) hR hf rfl hls hW hdg) hfM kk
end SJL_X3_init
abbrev rm_X6_checksum : Room := { frames := 0, cells := 0, slots := 0, locals := 0 }
def vb_X6_checksum_45 (f0 : Nat) (f3 : Nat) (f4 : Int32) (f5 : Int32) (f6 : Nat) (Q : Int64 → sj_W → Prop) (E : Int64 → sj_W → Prop) (K : Int64 → Int32 → sj_W → Prop) (v1 : Int64) (v7 : Int32) (w : sj_W) : Prop := sj_T w f6 = 2 ∧ (((sj_I w 9 f6) ≤ v7 → E v1 w) ∧ (¬ (sj_I w 9 f6) ≤ v7 → sj_T w f6 = 2 ∧ sj_A w 8 f6 ≠ 0 ∧ sj_T w (sj_A w 8 f6) = 8 ∧ vp_in v7 (sj_N w (sj_A w 8 f6)) ∧ K ((31 * v1) + (sj_l w (sj_A w 8 f6) v7.toNatClampNeg)) (v7 + 1) w))
def vb_X6_checksum_16 (f0 : Nat) (f3 : Nat) (f4 : Int32) (Q : Int64 → sj_W → Prop) (E : Int64 → sj_W → Prop) (K : Int64 → Int32 → sj_W → Prop) (v1 : Int64) (v5 : Int32) (w : sj_W) : Prop := ((f4 ≤ v5 → E v1 w) ∧ (¬ f4 ≤ v5 → (sj_T w f3 = 10 ∨ sj_T w f3 = 11 ∨ sj_T w f3 = 12) ∧ vp_in v5 (sj_N w f3) ∧ (sj_r w f3 v5.toNatClampNeg) ≠ 0 ∧ sj_T w (sj_r w f3 v5.toNatClampNeg) = 2 ∧ sj_lp2 (vb_X6_checksum_45 f0 f3 f4 v5 (sj_r w f3 v5.toNatClampNeg) Q (fun z1_45 w_45 => K z1_45 (v5 + 1) w_45)) 64 ((31 * v1) + (sj_I w 9 (sj_r w f3 v5.toNatClampNeg)).toInt64) 0 w))
def vb_X6_checksum_94 (f0 : Nat) (f3 : Nat) (f4 : Int32) (Q : Int64 → sj_W → Prop) (E : Int64 → sj_W → Prop) (K : Int64 → Int32 → sj_W → Prop) (v1 : Int64) (v5 : Int32) (w : sj_W) : Prop := ((f4 ≤ v5 → E v1 w) ∧ (¬ f4 ≤ v5 → (sj_T w f3 = 10 ∨ sj_T w f3 = 11 ∨ sj_T w f3 = 12) ∧ vp_in v5 (sj_N w f3) ∧ (sj_r w f3 v5.toNatClampNeg) ≠ 0 ∧ sj_T w (sj_r w f3 v5.toNatClampNeg) = 3 ∧ sj_T w (sj_r w f3 v5.toNatClampNeg) = 3 ∧ sj_T w (sj_r w f3 v5.toNatClampNeg) = 3 ∧ K ((31 * ((31 * ((31 * v1) + (sj_I w 16 (sj_r w f3 v5.toNatClampNeg)).toInt64)) + (sj_I w 17 (sj_r w f3 v5.toNatClampNeg)).toInt64)) + (sj_I w 18 (sj_r w f3 v5.toNatClampNeg)).toInt64) (v5 + 1) w))
def vb_X6_checksum_166 (f0 : Nat) (Q : Int64 → sj_W → Prop) (E : Int64 → sj_W → Prop) (K : Int64 → Int32 → sj_W → Prop) (v1 : Int64) (v3 : Int32) (w : sj_W) : Prop := sj_T w f0 = 5 ∧ (((sj_I w 36 f0) ≤ v3 → E v1 w) ∧ (¬ (sj_I w 36 f0) ≤ v3 → sj_T w f0 = 5 ∧ sj_A w 34 f0 ≠ 0 ∧ sj_T w (sj_A w 34 f0) = 7 ∧ vp_in v3 (sj_N w (sj_A w 34 f0)) ∧ K ((31 * v1) + (sj_i w (sj_A w 34 f0) v3.toNatClampNeg).toInt64) (v3 + 1) w))
def vc_X6_checksum (self : Nat) (w : sj_W) (Q : Int64 → sj_W → Prop) : Prop := sj_T w self = 5 ∧ sj_A w 32 self ≠ 0 ∧ (7 ≤ sj_T w (sj_A w 32 self) ∧ sj_T w (sj_A w 32 self) ≤ 13) ∧ sj_lp2 (vb_X6_checksum_16 self (sj_A w 32 self) (nI (sj_N w (sj_A w 32 self))) Q (fun z1_16 w_16 => sj_T w_16 self = 5 ∧ sj_A w_16 33 self ≠ 0 ∧ (7 ≤ sj_T w_16 (sj_A w_16 33 self) ∧ sj_T w_16 (sj_A w_16 33 self) ≤ 13) ∧ sj_lp2 (vb_X6_checksum_94 self (sj_A w_16 33 self) (nI (sj_N w_16 (sj_A w_16 33 self))) Q (fun z1_94 w_94 => sj_T w_94 self = 5 ∧ sj_lp2 (vb_X6_checksum_166 self Q (fun z1_166 w_166 => Q z1_166 w_166)) 64 ((31 * z1_94) + (sj_I w_94 36 self).toInt64) 0 w_94)) 64 z1_16 0 w_16)) 64 7 0 w
set_option maxHeartbeats 4000000 in
set_option maxRecDepth 100000 in
theorem wl_X6_checksum_45 {p : Program} {l : Launch} {e : Env} {s : State} {m : MethodId} {args : Array Value} {below : List Frame} {meth : Method} {c : Code} {G : sj_G} {f0 : Nat} {f3 : Nat} {f4 : Int32} {f5 : Int32} {f6 : Nat} {Q : Int64 → sj_W → Prop} {QX : String → sj_W → Prop} {E : Int64 → sj_W → Prop} (hC : sj_C G p l s m args c cX6_checksum RX6 8) (hD : sj_D meth c) (hr : meth.sig.returnType = (some .long)) (hin : meth.name = "checksum") (hE : ∀ (v1 : Int64) (w : sj_W) (H : Heap) (locs : List Loc) (ls : Array Slot), lv_has ls 8 [(0, .ref f0), (1, .long v1), (3, .ref f3), (4, .int f4), (5, .int f5)] → sj_H G s w H locs → E v1 w → W p l e rm_X6_checksum s m args below meth c H locs 0 0 (sj_MQ G below (va_Ql Q (sj_B G) (sj_F G)) QX args s rm_X6_checksum) (F0 m 76 ls [])) : ∀ (n : Nat) (v1 : Int64) (v7 : Int32) (w : sj_W) (H : Heap) (locs : List Loc) (ls : Array Slot), lv_has ls 8 [(0, .ref f0), (1, .long v1), (3, .ref f3), (4, .int f4), (5, .int f5), (6, .ref f6), (7, .int v7)] → sj_H G s w H locs → sj_lp2 (vb_X6_checksum_45 f0 f3 f4 f5 f6 Q E) n v1 v7 w → W p l e rm_X6_checksum s m args below meth c H locs 0 0 (sj_MQ G below (va_Ql Q (sj_B G) (sj_F G)) QX args s rm_X6_checksum) (F0 m 45 ls []) := by
  have hx := hC.1
  have hb := hC.2.1
  intro n
  induction n with
  | zero =>
    intro v1 v7 w H locs ls _ _ hv
    exact hv.elim
  | succ n ih =>
    intro v1 v7 w H locs ls hl hH hv
    have hv : vb_X6_checksum_45 f0 f3 f4 f5 f6 Q E (sj_lp2 (vb_X6_checksum_45 f0 f3 f4 f5 f6 Q E) n) v1 v7 w := hv
    have hc1 : rm_X6_checksum.cells = 0 := rfl
    have hc2 : rm_X6_checksum.slots = 0 := rfl
    refine lv_iload hx hb dX6_checksum_45 (lv_at hl 6 rfl) ?_
    refine lv_aload hx hb dX6_checksum_47 (lv_at hl 5 rfl) ?_
    refine gf_X6_46 hC hH hv.1 dX6_checksum_49 ?_
    refine lv_icmp_ge (tgt := 76) hx hb dX6_checksum_52 (by decide) (fun hc => ?_) (fun hc => ?_)
    · have hv3 := hv.2.1 hc
      exact hE v1 w _ _ _ (lv_sub hl [0, 1, 2, 3, 4] rfl) hH hv3
    · have hv4 := hv.2.2 hc
      refine lv_ldc2 (v := 31) hx hb hC.2.2.2.1 (hC.2.2.2.2.1 _ mb_124) dX6_checksum_55 ?_
      refine lv_lload_n hx hb dX6_checksum_58 rfl (lv_at hl 1 rfl) ?_
      refine lv_lmul hx hb dX6_checksum_59 ?_
      refine lv_aload hx hb dX6_checksum_60 (lv_at hl 5 rfl) ?_
      refine gf_X6_57 hC hH hv4.1 hv4.2.1 dX6_checksum_62 ?_
      refine lv_iload hx hb dX6_checksum_65 (lv_at hl 6 rfl) ?_
      refine sj_lald hC hH hv4.2.2.1 hv4.2.2.2.1 dX6_checksum_67 ?_
      refine lv_ladd hx hb dX6_checksum_68 ?_
      refine lv_lstore_n (lv' := [(1, .long ((31 * v1) + (sj_l w (sj_A w 8 f6) v7.toNatClampNeg))), (0, .ref f0), (3, .ref f3), (4, .int f4), (5, .int f5), (6, .ref f6), (7, .int v7)]) hx hb dX6_checksum_69 rfl hl (by decide) rfl (fun ls hl => ?_)
      refine lv_iinc (v := (v7 + 1)) (lv' := [(7, .int (v7 + 1)), (1, .long ((31 * v1) + (sj_l w (sj_A w 8 f6) v7.toNatClampNeg))), (0, .ref f0), (3, .ref f3), (4, .int f4), (5, .int f5), (6, .ref f6)]) hx hb dX6_checksum_70 hl (k := 6) rfl rfl (by decide) rfl (fun ls hl => ?_)
      refine lv_goto (tgt := 45) hx hb dX6_checksum_73 (by decide) ?_
      exact ih ((31 * v1) + (sj_l w (sj_A w 8 f6) v7.toNatClampNeg)) (v7 + 1) w _ _ _ (lv_sub hl [2, 1, 3, 4, 5, 6, 0] rfl) hH hv4.2.2.2.2
set_option maxHeartbeats 4000000 in
set_option maxRecDepth 100000 in
theorem wl_X6_checksum_16 {p : Program} {l : Launch} {e : Env} {s : State} {m : MethodId} {args : Array Value} {below : List Frame} {meth : Method} {c : Code} {G : sj_G} {f0 : Nat} {f3 : Nat} {f4 : Int32} {Q : Int64 → sj_W → Prop} {QX : String → sj_W → Prop} {E : Int64 → sj_W → Prop} (hC : sj_C G p l s m args c cX6_checksum RX6 8) (hD : sj_D meth c) (hr : meth.sig.returnType = (some .long)) (hin : meth.name = "checksum") (hE : ∀ (v1 : Int64) (w : sj_W) (H : Heap) (locs : List Loc) (ls : Array Slot), lv_has ls 8 [(0, .ref f0), (1, .long v1)] → sj_H G s w H locs → E v1 w → W p l e rm_X6_checksum s m args below meth c H locs 0 0 (sj_MQ G below (va_Ql Q (sj_B G) (sj_F G)) QX args s rm_X6_checksum) (F0 m 82 ls [])) : ∀ (n : Nat) (v1 : Int64) (v5 : Int32) (w : sj_W) (H : Heap) (locs : List Loc) (ls : Array Slot), lv_has ls 8 [(0, .ref f0), (1, .long v1), (3, .ref f3), (4, .int f4), (5, .int v5)] → sj_H G s w H locs → sj_lp2 (vb_X6_checksum_16 f0 f3 f4 Q E) n v1 v5 w → W p l e rm_X6_checksum s m args below meth c H locs 0 0 (sj_MQ G below (va_Ql Q (sj_B G) (sj_F G)) QX args s rm_X6_checksum) (F0 m 16 ls []) := by
  have hx := hC.1
  have hb := hC.2.1
  intro n
  induction n with
  | zero =>
    intro v1 v5 w H locs ls _ _ hv
    exact hv.elim
  | succ n ih =>
    intro v1 v5 w H locs ls hl hH hv
    have hv : vb_X6_checksum_16 f0 f3 f4 Q E (sj_lp2 (vb_X6_checksum_16 f0 f3 f4 Q E) n) v1 v5 w := hv
    have hc1 : rm_X6_checksum.cells = 0 := rfl
    have hc2 : rm_X6_checksum.slots = 0 := rfl
    refine lv_iload hx hb dX6_checksum_16 (lv_at hl 4 rfl) ?_
    refine lv_iload hx hb dX6_checksum_18 (lv_at hl 3 rfl) ?_
    refine lv_icmp_ge (tgt := 82) hx hb dX6_checksum_20 (by decide) (fun hc => ?_) (fun hc => ?_)
    · have hv1 := hv.1 hc
      exact hE v1 w _ _ _ (lv_sub hl [0, 1] rfl) hH hv1
    · have hv2 := hv.2 hc
      refine lv_aload_n hx hb dX6_checksum_23 rfl (lv_at hl 2 rfl) ?_
      refine lv_iload hx hb dX6_checksum_24 (lv_at hl 4 rfl) ?_
      refine sj_aald hC hH hv2.1 hv2.2.1 hv2.2.2.1 dX6_checksum_26 ?_
      refine lv_astore (lv' := [(6, .ref (sj_r w f3 v5.toNatClampNeg)), (0, .ref f0), (1, .long v1), (3, .ref f3), (4, .int f4), (5, .int v5)]) hx hb dX6_checksum_27 hl (by decide) rfl (fun ls hl => ?_)
      refine lv_ldc2 (v := 31) hx hb hC.2.2.2.1 (hC.2.2.2.2.1 _ mb_124) dX6_checksum_29 ?_
      refine lv_lload_n hx hb dX6_checksum_32 rfl (lv_at hl 2 rfl) ?_
      refine lv_lmul hx hb dX6_checksum_33 ?_
      refine lv_aload hx hb dX6_checksum_34 (lv_at hl 0 rfl) ?_
      refine gf_X6_46 hC hH hv2.2.2.2.1 dX6_checksum_36 ?_
      refine lv_i2l hx hb dX6_checksum_39 rfl ?_
      refine lv_ladd hx hb dX6_checksum_40 ?_
      refine lv_lstore_n (lv' := [(1, .long ((31 * v1) + (sj_I w 9 (sj_r w f3 v5.toNatClampNeg)).toInt64)), (6, .ref (sj_r w f3 v5.toNatClampNeg)), (0, .ref f0), (3, .ref f3), (4, .int f4), (5, .int v5)]) hx hb dX6_checksum_41 rfl hl (by decide) rfl (fun ls hl => ?_)
      refine lv_iconst (v := 0) hx hb dX6_checksum_42 (by decide) ?_
      refine lv_istore (lv' := [(7, .int 0), (1, .long ((31 * v1) + (sj_I w 9 (sj_r w f3 v5.toNatClampNeg)).toInt64)), (6, .ref (sj_r w f3 v5.toNatClampNeg)), (0, .ref f0), (3, .ref f3), (4, .int f4), (5, .int v5)]) hx hb dX6_checksum_43 hl (by decide) rfl (fun ls hl => ?_)
      refine wl_X6_checksum_45 hC hD hr hin (fun z1_45 w_45 H locs ls hl hH hv5 => ?_) 64 ((31 * v1) + (sj_I w 9 (sj_r w f3 v5.toNatClampNeg)).toInt64) 0 w _ _ _ (lv_sub hl [3, 1, 4, 5, 6, 2, 0] rfl) hH hv2.2.2.2.2
      refine lv_iinc (v := (v5 + 1)) (lv' := [(5, .int (v5 + 1)), (0, .ref f0), (1, .long z1_45), (3, .ref f3), (4, .int f4)]) hx hb dX6_checksum_76 hl (k := 4) rfl rfl (by decide) rfl (fun ls hl => ?_)
      refine lv_goto (tgt := 16) hx hb dX6_checksum_79 (by decide) ?_
      exact ih z1_45 (v5 + 1) w_45 _ _ _ (lv_sub hl [1, 2, 3, 4, 0] rfl) hH hv5
set_option maxHeartbeats 4000000 in
set_option maxRecDepth 100000 in
theorem wl_X6_checksum_94 {p : Program} {l : Launch} {e : Env} {s : State} {m : MethodId} {args : Array Value} {below : List Frame} {meth : Method} {c : Code} {G : sj_G} {f0 : Nat} {f3 : Nat} {f4 : Int32} {Q : Int64 → sj_W → Prop} {QX : String → sj_W → Prop} {E : Int64 → sj_W → Prop} (hC : sj_C G p l s m args c cX6_checksum RX6 8) (hD : sj_D meth c) (hr : meth.sig.returnType = (some .long)) (hin : meth.name = "checksum") (hE : ∀ (v1 : Int64) (w : sj_W) (H : Heap) (locs : List Loc) (ls : Array Slot), lv_has ls 8 [(0, .ref f0), (1, .long v1)] → sj_H G s w H locs → E v1 w → W p l e rm_X6_checksum s m args below meth c H locs 0 0 (sj_MQ G below (va_Ql Q (sj_B G) (sj_F G)) QX args s rm_X6_checksum) (F0 m 152 ls [])) : ∀ (n : Nat) (v1 : Int64) (v5 : Int32) (w : sj_W) (H : Heap) (locs : List Loc) (ls : Array Slot), lv_has ls 8 [(0, .ref f0), (1, .long v1), (3, .ref f3), (4, .int f4), (5, .int v5)] → sj_H G s w H locs → sj_lp2 (vb_X6_checksum_94 f0 f3 f4 Q E) n v1 v5 w → W p l e rm_X6_checksum s m args below meth c H locs 0 0 (sj_MQ G below (va_Ql Q (sj_B G) (sj_F G)) QX args s rm_X6_checksum) (F0 m 94 ls []) := by
  have hx := hC.1
  have hb := hC.2.1
  intro n
  induction n with
  | zero =>
    intro v1 v5 w H locs ls _ _ hv
    exact hv.elim
  | succ n ih =>
    intro v1 v5 w H locs ls hl hH hv
    have hv : vb_X6_checksum_94 f0 f3 f4 Q E (sj_lp2 (vb_X6_checksum_94 f0 f3 f4 Q E) n) v1 v5 w := hv
    have hc1 : rm_X6_checksum.cells = 0 := rfl
    have hc2 : rm_X6_checksum.slots = 0 := rfl
    refine lv_iload hx hb dX6_checksum_94 (lv_at hl 4 rfl) ?_
    refine lv_iload hx hb dX6_checksum_96 (lv_at hl 3 rfl) ?_
    refine lv_icmp_ge (tgt := 152) hx hb dX6_checksum_98 (by decide) (fun hc => ?_) (fun hc => ?_)
    · have hv7 := hv.1 hc
      exact hE v1 w _ _ _ (lv_sub hl [0, 1] rfl) hH hv7
    · have hv8 := hv.2 hc
      refine lv_aload_n hx hb dX6_checksum_101 rfl (lv_at hl 2 rfl) ?_
      refine lv_iload hx hb dX6_checksum_102 (lv_at hl 4 rfl) ?_
      refine sj_aald hC hH hv8.1 hv8.2.1 hv8.2.2.1 dX6_checksum_104 ?_
      refine lv_astore (lv' := [(6, .ref (sj_r w f3 v5.toNatClampNeg)), (0, .ref f0), (1, .long v1), (3, .ref f3), (4, .int f4), (5, .int v5)]) hx hb dX6_checksum_105 hl (by decide) rfl (fun ls hl => ?_)
      refine lv_ldc2 (v := 31) hx hb hC.2.2.2.1 (hC.2.2.2.2.1 _ mb_124) dX6_checksum_107 ?_
      refine lv_lload_n hx hb dX6_checksum_110 rfl (lv_at hl 2 rfl) ?_
      refine lv_lmul hx hb dX6_checksum_111 ?_
      refine lv_aload hx hb dX6_checksum_112 (lv_at hl 0 rfl) ?_
      refine gf_X6_97 hC hH hv8.2.2.2.1 dX6_checksum_114 ?_
      refine lv_i2l hx hb dX6_checksum_117 rfl ?_
      refine lv_ladd hx hb dX6_checksum_118 ?_
      refine lv_lstore_n (lv' := [(1, .long ((31 * v1) + (sj_I w 16 (sj_r w f3 v5.toNatClampNeg)).toInt64)), (6, .ref (sj_r w f3 v5.toNatClampNeg)), (0, .ref f0), (3, .ref f3), (4, .int f4), (5, .int v5)]) hx hb dX6_checksum_119 rfl hl (by decide) rfl (fun ls hl => ?_)
      refine lv_ldc2 (v := 31) hx hb hC.2.2.2.1 (hC.2.2.2.2.1 _ mb_124) dX6_checksum_120 ?_
      refine lv_lload_n hx hb dX6_checksum_123 rfl (lv_at hl 0 rfl) ?_
      refine lv_lmul hx hb dX6_checksum_124 ?_
      refine lv_aload hx hb dX6_checksum_125 (lv_at hl 1 rfl) ?_
      refine gf_X6_100 hC hH hv8.2.2.2.2.1 dX6_checksum_127 ?_
      refine lv_i2l hx hb dX6_checksum_130 rfl ?_
      refine lv_ladd hx hb dX6_checksum_131 ?_
      refine lv_lstore_n (lv' := [(1, .long ((31 * ((31 * v1) + (sj_I w 16 (sj_r w f3 v5.toNatClampNeg)).toInt64)) + (sj_I w 17 (sj_r w f3 v5.toNatClampNeg)).toInt64)), (6, .ref (sj_r w f3 v5.toNatClampNeg)), (0, .ref f0), (3, .ref f3), (4, .int f4), (5, .int v5)]) hx hb dX6_checksum_132 rfl hl (by decide) rfl (fun ls hl => ?_)
      refine lv_ldc2 (v := 31) hx hb hC.2.2.2.1 (hC.2.2.2.2.1 _ mb_124) dX6_checksum_133 ?_
      refine lv_lload_n hx hb dX6_checksum_136 rfl (lv_at hl 0 rfl) ?_
      refine lv_lmul hx hb dX6_checksum_137 ?_
      refine lv_aload hx hb dX6_checksum_138 (lv_at hl 1 rfl) ?_
      refine gf_X6_103 hC hH hv8.2.2.2.2.2.1 dX6_checksum_140 ?_
      refine lv_i2l hx hb dX6_checksum_143 rfl ?_
      refine lv_ladd hx hb dX6_checksum_144 ?_
      refine lv_lstore_n (lv' := [(1, .long ((31 * ((31 * ((31 * v1) + (sj_I w 16 (sj_r w f3 v5.toNatClampNeg)).toInt64)) + (sj_I w 17 (sj_r w f3 v5.toNatClampNeg)).toInt64)) + (sj_I w 18 (sj_r w f3 v5.toNatClampNeg)).toInt64)), (6, .ref (sj_r w f3 v5.toNatClampNeg)), (0, .ref f0), (3, .ref f3), (4, .int f4), (5, .int v5)]) hx hb dX6_checksum_145 rfl hl (by decide) rfl (fun ls hl => ?_)
      refine lv_iinc (v := (v5 + 1)) (lv' := [(5, .int (v5 + 1)), (1, .long ((31 * ((31 * ((31 * v1) + (sj_I w 16 (sj_r w f3 v5.toNatClampNeg)).toInt64)) + (sj_I w 17 (sj_r w f3 v5.toNatClampNeg)).toInt64)) + (sj_I w 18 (sj_r w f3 v5.toNatClampNeg)).toInt64)), (6, .ref (sj_r w f3 v5.toNatClampNeg)), (0, .ref f0), (3, .ref f3), (4, .int f4)]) hx hb dX6_checksum_146 hl (k := 5) rfl rfl (by decide) rfl (fun ls hl => ?_)
      refine lv_goto (tgt := 94) hx hb dX6_checksum_149 (by decide) ?_
      exact ih ((31 * ((31 * ((31 * v1) + (sj_I w 16 (sj_r w f3 v5.toNatClampNeg)).toInt64)) + (sj_I w 17 (sj_r w f3 v5.toNatClampNeg)).toInt64)) + (sj_I w 18 (sj_r w f3 v5.toNatClampNeg)).toInt64) (v5 + 1) w _ _ _ (lv_sub hl [3, 1, 4, 5, 0] rfl) hH hv8.2.2.2.2.2.2
set_option maxHeartbeats 4000000 in
set_option maxRecDepth 100000 in
theorem wl_X6_checksum_166 {p : Program} {l : Launch} {e : Env} {s : State} {m : MethodId} {args : Array Value} {below : List Frame} {meth : Method} {c : Code} {G : sj_G} {f0 : Nat} {Q : Int64 → sj_W → Prop} {QX : String → sj_W → Prop} {E : Int64 → sj_W → Prop} (hC : sj_C G p l s m args c cX6_checksum RX6 8) (hD : sj_D meth c) (hr : meth.sig.returnType = (some .long)) (hin : meth.name = "checksum") (hE : ∀ (v1 : Int64) (w : sj_W) (H : Heap) (locs : List Loc) (ls : Array Slot), lv_has ls 8 [(1, .long v1)] → sj_H G s w H locs → E v1 w → W p l e rm_X6_checksum s m args below meth c H locs 0 0 (sj_MQ G below (va_Ql Q (sj_B G) (sj_F G)) QX args s rm_X6_checksum) (F0 m 194 ls [])) : ∀ (n : Nat) (v1 : Int64) (v3 : Int32) (w : sj_W) (H : Heap) (locs : List Loc) (ls : Array Slot), lv_has ls 8 [(0, .ref f0), (1, .long v1), (3, .int v3)] → sj_H G s w H locs → sj_lp2 (vb_X6_checksum_166 f0 Q E) n v1 v3 w → W p l e rm_X6_checksum s m args below meth c H locs 0 0 (sj_MQ G below (va_Ql Q (sj_B G) (sj_F G)) QX args s rm_X6_checksum) (F0 m 166 ls []) := by
  have hx := hC.1
  have hb := hC.2.1
  intro n
  induction n with
  | zero =>
    intro v1 v3 w H locs ls _ _ hv
    exact hv.elim
  | succ n ih =>
    intro v1 v3 w H locs ls hl hH hv
    have hv : vb_X6_checksum_166 f0 Q E (sj_lp2 (vb_X6_checksum_166 f0 Q E) n) v1 v3 w := hv
    have hc1 : rm_X6_checksum.cells = 0 := rfl
    have hc2 : rm_X6_checksum.slots = 0 := rfl
    refine lv_iload_n hx hb dX6_checksum_166 rfl (lv_at hl 2 rfl) ?_
    refine lv_aload_n hx hb dX6_checksum_167 rfl (lv_at hl 0 rfl) ?_
    refine gf_X6_144 hC hH hv.1 dX6_checksum_168 ?_
    refine lv_icmp_ge (tgt := 194) hx hb dX6_checksum_171 (by decide) (fun hc => ?_) (fun hc => ?_)
    · have hv10 := hv.2.1 hc
      exact hE v1 w _ _ _ (lv_sub hl [1] rfl) hH hv10
    · have hv11 := hv.2.2 hc
      refine lv_ldc2 (v := 31) hx hb hC.2.2.2.1 (hC.2.2.2.2.1 _ mb_124) dX6_checksum_174 ?_
      refine lv_lload_n hx hb dX6_checksum_177 rfl (lv_at hl 1 rfl) ?_
      refine lv_lmul hx hb dX6_checksum_178 ?_
      refine lv_aload_n hx hb dX6_checksum_179 rfl (lv_at hl 0 rfl) ?_
      refine gf_X6_21 hC hH hv11.1 hv11.2.1 dX6_checksum_180 ?_
      refine lv_iload_n hx hb dX6_checksum_183 rfl (lv_at hl 2 rfl) ?_
      refine sj_iald hC hH hv11.2.2.1 hv11.2.2.2.1 dX6_checksum_184 ?_
      refine lv_i2l hx hb dX6_checksum_185 rfl ?_
      refine lv_ladd hx hb dX6_checksum_186 ?_
      refine lv_lstore_n (lv' := [(1, .long ((31 * v1) + (sj_i w (sj_A w 34 f0) v3.toNatClampNeg).toInt64)), (0, .ref f0), (3, .int v3)]) hx hb dX6_checksum_187 rfl hl (by decide) rfl (fun ls hl => ?_)
      refine lv_iinc (v := (v3 + 1)) (lv' := [(3, .int (v3 + 1)), (1, .long ((31 * v1) + (sj_i w (sj_A w 34 f0) v3.toNatClampNeg).toInt64)), (0, .ref f0)]) hx hb dX6_checksum_188 hl (k := 2) rfl rfl (by decide) rfl (fun ls hl => ?_)
      refine lv_goto (tgt := 166) hx hb dX6_checksum_191 (by decide) ?_
      exact ih ((31 * v1) + (sj_i w (sj_A w 34 f0) v3.toNatClampNeg).toInt64) (v3 + 1) w _ _ _ (lv_sub hl [2, 1, 0] rfl) hH hv11.2.2.2.2
set_option maxHeartbeats 4000000 in
set_option maxRecDepth 100000 in
theorem wk_X6_checksum (G : sj_G) (l : Launch) (hlt : l.stackTraces = false) (self : Nat) (w : sj_W) (Q : Int64 → sj_W → Prop) (QX : String → sj_W → Prop) (hv : vc_X6_checksum self w Q) : sj_ML G l yX6_checksum (sj_ws yX6_checksum cX6_checksum 8 (some .long)) rm_X6_checksum [.ref self] w Q QX := by
  refine sj_of (by decide +kernel) (Nat.le_of_ble_eq_true rfl) hlt ?_
  intro p e s m args below meth c ls hC hD hr hin hH hl
  have hx := hC.1
  have hb := hC.2.1
  have hl : lv_has ls 8 [(0, .ref self)] := hl
  refine lv_ldc2 (v := 7) hx hb hC.2.2.2.1 (hC.2.2.2.2.1 _ mb_123) dX6_checksum_0 ?_
  refine lv_lstore_n (lv' := [(1, .long 7), (0, .ref self)]) hx hb dX6_checksum_3 rfl hl (by decide) rfl (fun ls hl => ?_)
  refine lv_aload_n hx hb dX6_checksum_4 rfl (lv_at hl 1 rfl) ?_
  refine gf_X6_11 hC hH hv.1 hv.2.1 dX6_checksum_5 ?_
  refine lv_astore_n (lv' := [(3, .ref (sj_A w 32 self)), (1, .long 7), (0, .ref self)]) hx hb dX6_checksum_8 rfl hl (by decide) rfl (fun ls hl => ?_)
  refine lv_aload_n hx hb dX6_checksum_9 rfl (lv_at hl 0 rfl) ?_
  refine sj_alen hC hH hv.2.2.1 dX6_checksum_10 ?_
  refine lv_istore (lv' := [(4, .int (nI (sj_N w (sj_A w 32 self)))), (3, .ref (sj_A w 32 self)), (1, .long 7), (0, .ref self)]) hx hb dX6_checksum_11 hl (by decide) rfl (fun ls hl => ?_)
  refine lv_iconst (v := 0) hx hb dX6_checksum_13 (by decide) ?_
  refine lv_istore (lv' := [(5, .int 0), (4, .int (nI (sj_N w (sj_A w 32 self)))), (3, .ref (sj_A w 32 self)), (1, .long 7), (0, .ref self)]) hx hb dX6_checksum_14 hl (by decide) rfl (fun ls hl => ?_)
  refine wl_X6_checksum_16 hC hD hr hin (fun z1_16 w_16 H locs ls hl hH hv6 => ?_) 64 7 0 w _ _ _ (lv_sub hl [4, 3, 2, 1, 0] rfl) hH hv.2.2.2
  refine lv_aload_n hx hb dX6_checksum_82 rfl (lv_at hl 0 rfl) ?_
  refine gf_X6_17 hC hH hv6.1 hv6.2.1 dX6_checksum_83 ?_
  refine lv_astore_n (lv' := [(3, .ref (sj_A w_16 33 self)), (0, .ref self), (1, .long z1_16)]) hx hb dX6_checksum_86 rfl hl (by decide) rfl (fun ls hl => ?_)
  refine lv_aload_n hx hb dX6_checksum_87 rfl (lv_at hl 0 rfl) ?_
  refine sj_alen hC hH hv6.2.2.1 dX6_checksum_88 ?_
  refine lv_istore (lv' := [(4, .int (nI (sj_N w_16 (sj_A w_16 33 self)))), (3, .ref (sj_A w_16 33 self)), (0, .ref self), (1, .long z1_16)]) hx hb dX6_checksum_89 hl (by decide) rfl (fun ls hl => ?_)
  refine lv_iconst (v := 0) hx hb dX6_checksum_91 (by decide) ?_
  refine lv_istore (lv' := [(5, .int 0), (4, .int (nI (sj_N w_16 (sj_A w_16 33 self)))), (3, .ref (sj_A w_16 33 self)), (0, .ref self), (1, .long z1_16)]) hx hb dX6_checksum_92 hl (by decide) rfl (fun ls hl => ?_)
  refine wl_X6_checksum_94 hC hD hr hin (fun z1_94 w_94 H locs ls hl hH hv9 => ?_) 64 z1_16 0 w_16 _ _ _ (lv_sub hl [3, 4, 2, 1, 0] rfl) hH hv6.2.2.2
  refine lv_ldc2 (v := 31) hx hb hC.2.2.2.1 (hC.2.2.2.2.1 _ mb_124) dX6_checksum_152 ?_
  refine lv_lload_n hx hb dX6_checksum_155 rfl (lv_at hl 1 rfl) ?_
  refine lv_lmul hx hb dX6_checksum_156 ?_
  refine lv_aload_n hx hb dX6_checksum_157 rfl (lv_at hl 0 rfl) ?_
  refine gf_X6_144 hC hH hv9.1 dX6_checksum_158 ?_
  refine lv_i2l hx hb dX6_checksum_161 rfl ?_
  refine lv_ladd hx hb dX6_checksum_162 ?_
  refine lv_lstore_n (lv' := [(1, .long ((31 * z1_94) + (sj_I w_94 36 self).toInt64)), (0, .ref self)]) hx hb dX6_checksum_163 rfl hl (by decide) rfl (fun ls hl => ?_)
  refine lv_iconst (v := 0) hx hb dX6_checksum_164 (by decide) ?_
  refine lv_istore_n (lv' := [(3, .int 0), (1, .long ((31 * z1_94) + (sj_I w_94 36 self).toInt64)), (0, .ref self)]) hx hb dX6_checksum_165 rfl hl (by decide) rfl (fun ls hl => ?_)
  refine wl_X6_checksum_166 hC hD hr hin (fun z1_166 w_166 H locs ls hl hH hv12 => ?_) 64 ((31 * z1_94) + (sj_I w_94 36 self).toInt64) 0 w_94 _ _ _ (lv_sub hl [2, 1, 0] rfl) hH hv9.2
  refine lv_lload_n hx hb dX6_checksum_194 rfl (lv_at hl 0 rfl) ?_
  exact sj_retL hC hD hH hr hv12 ⟨(Nat.le_of_ble_eq_true rfl), (Nat.le_of_ble_eq_true rfl)⟩ dX6_checksum_195
abbrev rm_X6_init : Room := { frames := 2, cells := 136, slots := 3131, locals := 32 }
def vb_X6_init_43 (f0 : Nat) (Q : sj_W → Prop) (E : sj_W → Prop) (K : Int32 → sj_W → Prop) (v1 : Int32) (w : sj_W) : Prop := sj_T w f0 = 5 ∧ sj_A w 32 f0 ≠ 0 ∧ (7 ≤ sj_T w (sj_A w 32 f0) ∧ sj_T w (sj_A w 32 f0) ≤ 13) ∧ (((nI (sj_N w (sj_A w 32 f0))) ≤ v1 → E w) ∧ (¬ (nI (sj_N w (sj_A w 32 f0))) ≤ v1 → sj_T w f0 = 5 ∧ sj_A w 32 f0 ≠ 0 ∧ ∀ q34 : Nat, q34 ≠ 0 → sj_T w q34 = 0 → ∀ w35 : sj_W, w35 = sj_nw w q34 2 0 → vc_X1_init q34 w35 (fun w40 => sj_T w40 (sj_A w 32 f0) = 10 ∧ sj_T w40 q34 = 2 ∧ vp_in v1 (sj_N w40 (sj_A w 32 f0)) ∧ q34 ≠ 0 ∧ ∀ w42 : sj_W, w42 = sj_sr w40 (sj_A w 32 f0) v1.toNatClampNeg q34 → K (v1 + 1) w42)))
def vb_X6_init_73 (f0 : Nat) (Q : sj_W → Prop) (E : sj_W → Prop) (K : Int32 → sj_W → Prop) (v1 : Int32) (w : sj_W) : Prop := sj_T w f0 = 5 ∧ sj_A w 33 f0 ≠ 0 ∧ (7 ≤ sj_T w (sj_A w 33 f0) ∧ sj_T w (sj_A w 33 f0) ≤ 13) ∧ (((nI (sj_N w (sj_A w 33 f0))) ≤ v1 → E w) ∧ (¬ (nI (sj_N w (sj_A w 33 f0))) ≤ v1 → sj_T w f0 = 5 ∧ sj_A w 33 f0 ≠ 0 ∧ ∀ q47 : Nat, q47 ≠ 0 → sj_T w q47 = 0 → ∀ w48 : sj_W, w48 = sj_nw w q47 3 0 → vc_X3_init q47 w48 (fun w53 => sj_T w53 (sj_A w 33 f0) = 11 ∧ sj_T w53 q47 = 3 ∧ vp_in v1 (sj_N w53 (sj_A w 33 f0)) ∧ q47 ≠ 0 ∧ ∀ w55 : sj_W, w55 = sj_sr w53 (sj_A w 33 f0) v1.toNatClampNeg q47 → K (v1 + 1) w55)))
def vc_X6_init (self : Nat) (w : sj_W) (Q : sj_W → Prop) : Prop := ∀ q1 : Nat, q1 ≠ 0 → sj_T w q1 = 0 → ∀ w2 : sj_W, w2 = sj_nw w q1 10 16 → sj_T w2 self = 5 ∧ q1 ≠ 0 ∧ ∀ w6 : sj_W, w6 = sj_sA w2 32 self q1 → ∀ q8 : Nat, q8 ≠ 0 → sj_T w6 q8 = 0 → ∀ w9 : sj_W, w9 = sj_nw w6 q8 11 12 → sj_T w9 self = 5 ∧ q8 ≠ 0 ∧ ∀ w13 : sj_W, w13 = sj_sA w9 33 self q8 → ∀ q15 : Nat, q15 ≠ 0 → sj_T w13 q15 = 0 → ∀ w16 : sj_W, w16 = sj_nw w13 q15 7 12 → sj_T w16 self = 5 ∧ q15 ≠ 0 ∧ ∀ w20 : sj_W, w20 = sj_sA w16 34 self q15 → ∀ q22 : Nat, q22 ≠ 0 → sj_T w20 q22 = 0 → ∀ w23 : sj_W, w23 = sj_nw w20 q22 1 0 → vc_X0_init q22 w23 (fun w28 => sj_T w28 self = 5 ∧ q22 ≠ 0 ∧ ∀ w30 : sj_W, w30 = sj_sA w28 35 self q22 → sj_lp1 (vb_X6_init_43 self Q (fun w_43 => sj_lp1 (vb_X6_init_73 self Q (fun w_73 => Q w_73)) 20 0 w_43)) 20 0 w30)
set_option maxHeartbeats 4000000 in
set_option maxRecDepth 100000 in
theorem wl_X6_init_43 {p : Program} {l : Launch} {e : Env} {s : State} {m : MethodId} {args : Array Value} {below : List Frame} {meth : Method} {c : Code} {G : sj_G} {f0 : Nat} {Q : sj_W → Prop} {QX : String → sj_W → Prop} {E : sj_W → Prop} (hC : sj_C G p l s m args c cX6_init RX6 2) (hD : sj_D meth c) (hr : meth.sig.returnType = none) (hin : meth.name = "<init>") (hE : ∀ (w : sj_W) (H : Heap) (locs : List Loc) (ls : Array Slot), lv_has ls 2 [(0, .ref f0)] → sj_H G s w H locs → E w → W p l e rm_X6_init s m args below meth c H locs 115 3068 (sj_MQ G below (va_Qv Q (sj_B G) (sj_F G)) QX args s rm_X6_init) (F0 m 71 ls [])) : ∀ (n : Nat) (v1 : Int32) (w : sj_W) (H : Heap) (locs : List Loc) (ls : Array Slot) (cells slots : Nat), cells + n * 2 ≤ 115 → slots + n * 34 ≤ 3068 → lv_has ls 2 [(0, .ref f0), (1, .int v1)] → sj_H G s w H locs → sj_lp1 (vb_X6_init_43 f0 Q E) n v1 w → W p l e rm_X6_init s m args below meth c H locs cells slots (sj_MQ G below (va_Qv Q (sj_B G) (sj_F G)) QX args s rm_X6_init) (F0 m 43 ls []) := by
  have hx := hC.1
  have hb := hC.2.1
  intro n
  induction n with
  | zero =>
    intro v1 w H locs ls cells slots _ _ _ _ hv
    exact hv.elim
  | succ n ih =>
    intro v1 w H locs ls cells slots hcc hcs hl hH hv
    have hv : vb_X6_init_43 f0 Q E (sj_lp1 (vb_X6_init_43 f0 Q E) n) v1 w := hv
    have hc1 : rm_X6_init.cells = 136 := rfl
    have hc2 : rm_X6_init.slots = 3131 := rfl
    refine lv_iload_n hx hb dX6_init_43 rfl (lv_at hl 1 rfl) ?_
    refine lv_aload_n hx hb dX6_init_44 rfl (lv_at hl 0 rfl) ?_
    refine gf_X6_11 hC hH hv.1 hv.2.1 dX6_init_45 ?_
    refine sj_alen hC hH hv.2.2.1 dX6_init_48 ?_
    refine lv_icmp_ge (tgt := 71) hx hb dX6_init_49 (by decide) (fun hc => ?_) (fun hc => ?_)
    · have hv32 := hv.2.2.2.1 hc
      refine W.widen (k := 115) (n := 3068) (by omega) (by omega) ?_
      exact hE  w _ _ _ (lv_sub hl [0] rfl) hH hv32
    · have hv33 := hv.2.2.2.2 hc
      refine lv_aload_n hx hb dX6_init_52 rfl (lv_at hl 0 rfl) ?_
      refine gf_X6_11 hC hH hv33.1 hv33.2.1 dX6_init_53 ?_
      refine lv_iload_n hx hb dX6_init_56 rfl (lv_at hl 1 rfl) ?_
      refine nw_X6_9 hC hH (by have hc1 : rm_X6_init.cells = 136 := rfl; omega) (by have hc1 : rm_X6_init.slots = 3131 := rfl; omega) dX6_init_57 (fun q34 w35 H h37 h38 e36 hH => ?_)
      refine lv_dup hx hb dX6_init_60 rfl ?_
      refine cl_X6_32 hC hD hH (hv33.2.2 q34 h37 h38 w35 e36) ⟨Nat.le_of_ble_eq_true rfl, Nat.le_of_ble_eq_true rfl⟩ ⟨(by have hc1 : rm_X6_init.cells = 136 := rfl; omega), (by have hc1 : rm_X6_init.slots = 3131 := rfl; omega)⟩ ⟨(by have hc1 : rm_X6_init.cells = 136 := rfl; omega), (by have hc1 : rm_X6_init.slots = 3131 := rfl; omega)⟩ hl.1 (Nat.le_of_ble_eq_true rfl) dX6_init_61 (fun w40 H locs hH hv41 => ?_)
      refine sj_aast (t := 3) (ci := 1) (r := (RX1, TX1, 2)) hC hH hv41.1 (by decide) rfl (by decide) rfl hv41.2.1 hv41.2.2.1 hv41.2.2.2.1 dX6_init_64 (fun w42 H locs e43 hH => ?_)
      refine lv_iinc (v := (v1 + 1)) (lv' := [(1, .int (v1 + 1)), (0, .ref f0)]) hx hb dX6_init_65 hl (k := 1) rfl rfl (by decide) rfl (fun ls hl => ?_)
      refine lv_goto (tgt := 43) hx hb dX6_init_68 (by decide) ?_
      refine W.widen (k := cells + 2) (n := slots + 34) (by omega) (by omega) ?_
      exact ih (v1 + 1) w42 _ _ _ _ _ (by omega) (by omega) (lv_sub hl [1, 0] rfl) hH (hv41.2.2.2.2 w42 e43)
set_option maxHeartbeats 4000000 in
set_option maxRecDepth 100000 in
theorem wl_X6_init_73 {p : Program} {l : Launch} {e : Env} {s : State} {m : MethodId} {args : Array Value} {below : List Frame} {meth : Method} {c : Code} {G : sj_G} {f0 : Nat} {Q : sj_W → Prop} {QX : String → sj_W → Prop} {E : sj_W → Prop} (hC : sj_C G p l s m args c cX6_init RX6 2) (hD : sj_D meth c) (hr : meth.sig.returnType = none) (hin : meth.name = "<init>") (hE : ∀ (w : sj_W) (H : Heap) (locs : List Loc) (ls : Array Slot), lv_has ls 2 [] → sj_H G s w H locs → E w → W p l e rm_X6_init s m args below meth c H locs 135 3128 (sj_MQ G below (va_Qv Q (sj_B G) (sj_F G)) QX args s rm_X6_init) (F0 m 101 ls [])) : ∀ (n : Nat) (v1 : Int32) (w : sj_W) (H : Heap) (locs : List Loc) (ls : Array Slot) (cells slots : Nat), cells + n * 1 ≤ 135 → slots + n * 3 ≤ 3128 → lv_has ls 2 [(0, .ref f0), (1, .int v1)] → sj_H G s w H locs → sj_lp1 (vb_X6_init_73 f0 Q E) n v1 w → W p l e rm_X6_init s m args below meth c H locs cells slots (sj_MQ G below (va_Qv Q (sj_B G) (sj_F G)) QX args s rm_X6_init) (F0 m 73 ls []) := by
  have hx := hC.1
  have hb := hC.2.1
  intro n
  induction n with
  | zero =>
    intro v1 w H locs ls cells slots _ _ _ _ hv
    exact hv.elim
  | succ n ih =>
    intro v1 w H locs ls cells slots hcc hcs hl hH hv
    have hv : vb_X6_init_73 f0 Q E (sj_lp1 (vb_X6_init_73 f0 Q E) n) v1 w := hv
    have hc1 : rm_X6_init.cells = 136 := rfl
    have hc2 : rm_X6_init.slots = 3131 := rfl
    refine lv_iload_n hx hb dX6_init_73 rfl (lv_at hl 1 rfl) ?_
    refine lv_aload_n hx hb dX6_init_74 rfl (lv_at hl 0 rfl) ?_
    refine gf_X6_17 hC hH hv.1 hv.2.1 dX6_init_75 ?_
    refine sj_alen hC hH hv.2.2.1 dX6_init_78 ?_
    refine lv_icmp_ge (tgt := 101) hx hb dX6_init_79 (by decide) (fun hc => ?_) (fun hc => ?_)
    · have hv45 := hv.2.2.2.1 hc
      refine W.widen (k := 135) (n := 3128) (by omega) (by omega) ?_
      exact hE  w _ _ _ (lv_sub hl [] rfl) hH hv45
    · have hv46 := hv.2.2.2.2 hc
      refine lv_aload_n hx hb dX6_init_82 rfl (lv_at hl 0 rfl) ?_
      refine gf_X6_17 hC hH hv46.1 hv46.2.1 dX6_init_83 ?_
      refine lv_iload_n hx hb dX6_init_86 rfl (lv_at hl 1 rfl) ?_
      refine nw_X6_15 hC hH (by have hc1 : rm_X6_init.cells = 136 := rfl; omega) (by have hc1 : rm_X6_init.slots = 3131 := rfl; omega) dX6_init_87 (fun q47 w48 H h50 h51 e49 hH => ?_)
      refine lv_dup hx hb dX6_init_90 rfl ?_
      refine cl_X6_33 hC hD hH (hv46.2.2 q47 h50 h51 w48 e49) ⟨Nat.le_of_ble_eq_true rfl, Nat.le_of_ble_eq_true rfl⟩ ⟨(by have hc1 : rm_X6_init.cells = 136 := rfl; omega), (by have hc1 : rm_X6_init.slots = 3131 := rfl; omega)⟩ ⟨(by have hc1 : rm_X6_init.cells = 136 := rfl; omega), (by have hc1 : rm_X6_init.slots = 3131 := rfl; omega)⟩ hl.1 (Nat.le_of_ble_eq_true rfl) dX6_init_91 (fun w53 H locs hH hv54 => ?_)
      refine sj_aast (t := 4) (ci := 2) (r := (RX3, TX3, 3)) hC hH hv54.1 (by decide) rfl (by decide) rfl hv54.2.1 hv54.2.2.1 hv54.2.2.2.1 dX6_init_94 (fun w55 H locs e56 hH => ?_)
      refine lv_iinc (v := (v1 + 1)) (lv' := [(1, .int (v1 + 1)), (0, .ref f0)]) hx hb dX6_init_95 hl (k := 1) rfl rfl (by decide) rfl (fun ls hl => ?_)
      refine lv_goto (tgt := 73) hx hb dX6_init_98 (by decide) ?_
      refine W.widen (k := cells + 1) (n := slots + 3) (by omega) (by omega) ?_
      exact ih (v1 + 1) w55 _ _ _ _ _ (by omega) (by omega) (lv_sub hl [1, 0] rfl) hH (hv54.2.2.2.2 w55 e56)
set_option maxHeartbeats 4000000 in
set_option maxRecDepth 100000 in
theorem wk_X6_init (G : sj_G) (l : Launch) (hlt : l.stackTraces = false) (self : Nat) (w : sj_W) (Q : sj_W → Prop) (QX : String → sj_W → Prop) (hv : vc_X6_init self w Q) : sj_MV G l yX6_init (sj_ws yX6_init cX6_init 2 none) rm_X6_init [.ref self] w Q QX := by
  refine sj_of (by decide +kernel) (Nat.le_of_ble_eq_true rfl) hlt ?_
  intro p e s m args below meth c ls hC hD hr hin hH hl
  have hx := hC.1
  have hb := hC.2.1
  have hl : lv_has ls 2 [(0, .ref self)] := hl
  refine lv_aload_n hx hb dX6_init_0 rfl (lv_at hl 0 rfl) ?_
  refine W.objInit hx hb hC.2.2.2.1 (hC.2.2.2.2.1 _ mb_21) (hC.2.2.2.2.1 _ mb_22) (hC.2.2.2.2.1 _ mb_23) rfl (by rw [hC.2.2.1]; exact hl.1) rfl dX6_init_1 (Nat.le_of_ble_eq_true rfl) (Nat.le_of_ble_eq_true rfl) ?_
  refine W.eq (g2 := F0 m 4 ls []) rfl ?_
  refine lv_aload_n hx hb dX6_init_4 rfl (lv_at hl 0 rfl) ?_
  refine lv_bipush (v := 16) hx hb dX6_init_5 (by decide) ?_
  refine sj_newQ (t := 3) hC hH (by decide) (by decide) mb_24 rfl (by decide) rfl (by decide) (Nat.le_of_ble_eq_true rfl) (Nat.le_of_ble_eq_true rfl) dX6_init_7 (fun q1 w2 H h4 h5 e3 hH => ?_)
  refine pf_X6_11 hC hH (hv q1 h4 h5 w2 e3).1 hin (hv q1 h4 h5 w2 e3).2.1 dX6_init_10 (fun w6 H locs e7 hH => ?_)
  refine lv_aload_n hx hb dX6_init_13 rfl (lv_at hl 0 rfl) ?_
  refine lv_bipush (v := 12) hx hb dX6_init_14 (by decide) ?_
  refine sj_newQ (t := 4) hC hH (by decide) (by decide) mb_26 rfl (by decide) rfl (by decide) (Nat.le_of_ble_eq_true rfl) (Nat.le_of_ble_eq_true rfl) dX6_init_16 (fun q8 w9 H h11 h12 e10 hH => ?_)
  refine pf_X6_17 hC hH (((hv q1 h4 h5 w2 e3).2.2 w6 e7) q8 h11 h12 w9 e10).1 hin (((hv q1 h4 h5 w2 e3).2.2 w6 e7) q8 h11 h12 w9 e10).2.1 dX6_init_19 (fun w13 H locs e14 hH => ?_)
  refine lv_aload_n hx hb dX6_init_22 rfl (lv_at hl 0 rfl) ?_
  refine lv_bipush (v := 12) hx hb dX6_init_23 (by decide) ?_
  refine sj_newI hC hH mb_69 (by decide) rfl (by decide) (Nat.le_of_ble_eq_true rfl) (Nat.le_of_ble_eq_true rfl) dX6_init_25 (fun q15 w16 H h18 h19 e17 hH => ?_)
  refine pf_X6_21 hC hH (((((hv q1 h4 h5 w2 e3).2.2 w6 e7) q8 h11 h12 w9 e10).2.2 w13 e14) q15 h18 h19 w16 e17).1 hin (((((hv q1 h4 h5 w2 e3).2.2 w6 e7) q8 h11 h12 w9 e10).2.2 w13 e14) q15 h18 h19 w16 e17).2.1 dX6_init_27 (fun w20 H locs e21 hH => ?_)
  refine lv_aload_n hx hb dX6_init_30 rfl (lv_at hl 0 rfl) ?_
  refine nw_X6_25 hC hH (Nat.le_of_ble_eq_true rfl) (Nat.le_of_ble_eq_true rfl) dX6_init_31 (fun q22 w23 H h25 h26 e24 hH => ?_)
  refine lv_dup hx hb dX6_init_34 rfl ?_
  refine cl_X6_27 hC hD hH (((((((hv q1 h4 h5 w2 e3).2.2 w6 e7) q8 h11 h12 w9 e10).2.2 w13 e14) q15 h18 h19 w16 e17).2.2 w20 e21) q22 h25 h26 w23 e24) ⟨Nat.le_of_ble_eq_true rfl, Nat.le_of_ble_eq_true rfl⟩ ⟨(Nat.le_of_ble_eq_true rfl), (Nat.le_of_ble_eq_true rfl)⟩ ⟨(Nat.le_of_ble_eq_true rfl), (Nat.le_of_ble_eq_true rfl)⟩ hl.1 (Nat.le_of_ble_eq_true rfl) dX6_init_35 (fun w28 H locs hH hv29 => ?_)
  refine pf_X6_28 hC hH hv29.1 hin hv29.2.1 dX6_init_38 (fun w30 H locs e31 hH => ?_)
  refine lv_iconst (v := 0) hx hb dX6_init_41 (by decide) ?_
  refine lv_istore_n (lv' := [(1, .int 0), (0, .ref self)]) hx hb dX6_init_42 rfl hl (by decide) rfl (fun ls hl => ?_)
  refine wl_X6_init_43 hC hD hr hin (fun w_43 H locs ls hl hH hv44 => ?_) 20 0 w30 _ _ _ 75 2388 (Nat.le_of_ble_eq_true rfl) (Nat.le_of_ble_eq_true rfl) (lv_sub hl [1, 0] rfl) hH (hv29.2.2 w30 e31)
  refine lv_iconst (v := 0) hx hb dX6_init_71 (by decide) ?_
  refine lv_istore_n (lv' := [(1, .int 0), (0, .ref self)]) hx hb dX6_init_72 rfl hl (by decide) rfl (fun ls hl => ?_)
  refine wl_X6_init_73 hC hD hr hin (fun w_73 H locs ls hl hH hv57 => ?_) 20 0 w_43 _ _ _ 115 3068 (Nat.le_of_ble_eq_true rfl) (Nat.le_of_ble_eq_true rfl) (lv_sub hl [1, 0] rfl) hH hv44
  exact sj_retV hC hD hH hr hv57 ⟨(Nat.le_of_ble_eq_true rfl), (Nat.le_of_ble_eq_true rfl)⟩ dX6_init_101

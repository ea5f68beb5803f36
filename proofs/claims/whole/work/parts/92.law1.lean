def vd_L_law_0 (L : Nat) (xs : Nat → Int32) (K : Int32 → sj_W → Prop) (f1 : Nat) (f2 : Nat) (f3 : Nat) (f4 : Nat) (v5 : Int32) (w : sj_W) : Prop := vp_in (v5 + 1) L ∧ vp_in (v5 + 2) L ∧ vp_in (v5 + 3) L ∧ vp_in (v5 + 4) L ∧ vc_L_append f1 (((xs (v5 + 1).toNatClampNeg).toUInt32 % 65536).toInt32) (xs (v5 + 2).toNatClampNeg) ((((xs (v5 + 3).toNatClampNeg).toInt64) <<< ((32 : Int32).toInt64 &&& 63)) ||| ((xs (v5 + 4).toNatClampNeg).toInt64 &&& 4294967295)) f3 w (fun r31 w32 => vp_in (v5 + 1) L ∧ vp_in (v5 + 2) L ∧ vp_in (v5 + 3) L ∧ vp_in (v5 + 4) L ∧ sj_T w32 f2 = 6 ∧ vc_X7_append f2 (((xs (v5 + 1).toNatClampNeg).toUInt32 % 65536).toInt32) (xs (v5 + 2).toNatClampNeg) ((((xs (v5 + 3).toNatClampNeg).toInt64) <<< ((32 : Int32).toInt64 &&& 63)) ||| ((xs (v5 + 4).toNatClampNeg).toInt64 &&& 4294967295)) w32 (fun r34 w35 => sj_T w35 f2 = 6 ∧ vc_X7_thrown f2 w35 (fun r37 w38 => ((r37 = r31 → ((¬ r31 = 0 → K (v5 + 6) w38) ∧ (r31 = 0 → sj_T w38 f3 = 8 ∧ vp_in 0 (sj_N w38 f3) ∧ (((lg_cmp (sj_l w38 f3 (0 : Int32).toNatClampNeg) (r34.toInt64)) = 0 → K (v5 + 6) w38) ∧ (¬ (lg_cmp (sj_l w38 f3 (0 : Int32).toNatClampNeg) (r34.toInt64)) = 0 → False))))) ∧ (¬ r37 = r31 → False)))))
def vd_L_law_1 (L : Nat) (xs : Nat → Int32) (K : Int32 → sj_W → Prop) (f1 : Nat) (f2 : Nat) (f3 : Nat) (f4 : Nat) (v5 : Int32) (w : sj_W) : Prop := vp_in (v5 + 1) L ∧ vp_in (v5 + 2) L ∧ vp_in (v5 + 3) L ∧ vp_in (v5 + 4) L ∧ vp_in (v5 + 5) L ∧ vc_L_set f1 (((xs (v5 + 1).toNatClampNeg).toUInt32 % 65536).toInt32) (xs (v5 + 2).toNatClampNeg) (xs (v5 + 3).toNatClampNeg) ((((xs (v5 + 4).toNatClampNeg).toInt64) <<< ((32 : Int32).toInt64 &&& 63)) ||| ((xs (v5 + 5).toNatClampNeg).toInt64 &&& 4294967295)) f3 w (fun r47 w48 => vp_in (v5 + 1) L ∧ vp_in (v5 + 2) L ∧ vp_in (v5 + 3) L ∧ vp_in (v5 + 4) L ∧ vp_in (v5 + 5) L ∧ sj_T w48 f2 = 6 ∧ vc_X7_set f2 (((xs (v5 + 1).toNatClampNeg).toUInt32 % 65536).toInt32) (xs (v5 + 2).toNatClampNeg) (xs (v5 + 3).toNatClampNeg) ((((xs (v5 + 4).toNatClampNeg).toInt64) <<< ((32 : Int32).toInt64 &&& 63)) ||| ((xs (v5 + 5).toNatClampNeg).toInt64 &&& 4294967295)) w48 (fun r50 w51 => sj_T w51 f2 = 6 ∧ vc_X7_thrown f2 w51 (fun r53 w54 => ((r53 = r47 → ((¬ r47 = 0 → K (v5 + 6) w54) ∧ (r47 = 0 → sj_T w54 f3 = 8 ∧ vp_in 0 (sj_N w54 f3) ∧ (((lg_cmp (sj_l w54 f3 (0 : Int32).toNatClampNeg) r50) = 0 → K (v5 + 6) w54) ∧ (¬ (lg_cmp (sj_l w54 f3 (0 : Int32).toNatClampNeg) r50) = 0 → False))))) ∧ (¬ r53 = r47 → False)))))
def vd_L_law_2 (L : Nat) (xs : Nat → Int32) (K : Int32 → sj_W → Prop) (f1 : Nat) (f2 : Nat) (f3 : Nat) (f4 : Nat) (v5 : Int32) (w : sj_W) : Prop := vp_in (v5 + 1) L ∧ vp_in (v5 + 2) L ∧ vp_in (v5 + 3) L ∧ vc_L_number f1 (((xs (v5 + 1).toNatClampNeg).toUInt32 % 65536).toInt32) (xs (v5 + 2).toNatClampNeg) (xs (v5 + 3).toNatClampNeg) f3 w (fun r63 w64 => vp_in (v5 + 1) L ∧ vp_in (v5 + 2) L ∧ vp_in (v5 + 3) L ∧ sj_T w64 f2 = 6 ∧ vc_X7_number f2 (((xs (v5 + 1).toNatClampNeg).toUInt32 % 65536).toInt32) (xs (v5 + 2).toNatClampNeg) (xs (v5 + 3).toNatClampNeg) w64 (fun r66 w67 => sj_T w67 f2 = 6 ∧ vc_X7_thrown f2 w67 (fun r69 w70 => ((r69 = r63 → ((¬ r63 = 0 → K (v5 + 6) w70) ∧ (r63 = 0 → sj_T w70 f3 = 8 ∧ vp_in 0 (sj_N w70 f3) ∧ (((lg_cmp (sj_l w70 f3 (0 : Int32).toNatClampNeg) r66) = 0 → K (v5 + 6) w70) ∧ (¬ (lg_cmp (sj_l w70 f3 (0 : Int32).toNatClampNeg) r66) = 0 → False))))) ∧ (¬ r69 = r63 → False)))))
def vd_L_law_3 (L : Nat) (xs : Nat → Int32) (K : Int32 → sj_W → Prop) (f1 : Nat) (f2 : Nat) (f3 : Nat) (f4 : Nat) (v5 : Int32) (w : sj_W) : Prop := vp_in (v5 + 1) L ∧ vp_in (v5 + 2) L ∧ vc_L_length f1 (((xs (v5 + 1).toNatClampNeg).toUInt32 % 65536).toInt32) (xs (v5 + 2).toNatClampNeg) f3 w (fun r79 w80 => vp_in (v5 + 1) L ∧ vp_in (v5 + 2) L ∧ sj_T w80 f2 = 6 ∧ vc_X7_length f2 (((xs (v5 + 1).toNatClampNeg).toUInt32 % 65536).toInt32) (xs (v5 + 2).toNatClampNeg) w80 (fun r82 w83 => sj_T w83 f2 = 6 ∧ vc_X7_thrown f2 w83 (fun r85 w86 => ((r85 = r79 → ((¬ r79 = 0 → K (v5 + 6) w86) ∧ (r79 = 0 → sj_T w86 f3 = 8 ∧ vp_in 0 (sj_N w86 f3) ∧ (((lg_cmp (sj_l w86 f3 (0 : Int32).toNatClampNeg) (r82.toInt64)) = 0 → K (v5 + 6) w86) ∧ (¬ (lg_cmp (sj_l w86 f3 (0 : Int32).toNatClampNeg) (r82.toInt64)) = 0 → False))))) ∧ (¬ r85 = r79 → False)))))
def vd_L_law_4 (L : Nat) (xs : Nat → Int32) (K : Int32 → sj_W → Prop) (f1 : Nat) (f2 : Nat) (f3 : Nat) (f4 : Nat) (v5 : Int32) (w : sj_W) : Prop := vp_in (v5 + 1) L ∧ vp_in (v5 + 2) L ∧ vc_L_clear f1 (((xs (v5 + 1).toNatClampNeg).toUInt32 % 65536).toInt32) (xs (v5 + 2).toNatClampNeg) f3 w (fun r95 w96 => vp_in (v5 + 1) L ∧ vp_in (v5 + 2) L ∧ sj_T w96 f2 = 6 ∧ vc_X7_clear f2 (((xs (v5 + 1).toNatClampNeg).toUInt32 % 65536).toInt32) (xs (v5 + 2).toNatClampNeg) w96 (fun r98 w99 => sj_T w99 f2 = 6 ∧ vc_X7_thrown f2 w99 (fun r101 w102 => ((r101 = r95 → ((¬ r95 = 0 → K (v5 + 6) w102) ∧ (r95 = 0 → sj_T w102 f3 = 8 ∧ vp_in 0 (sj_N w102 f3) ∧ (((lg_cmp (sj_l w102 f3 (0 : Int32).toNatClampNeg) (r98.toInt64)) = 0 → K (v5 + 6) w102) ∧ (¬ (lg_cmp (sj_l w102 f3 (0 : Int32).toNatClampNeg) (r98.toInt64)) = 0 → False))))) ∧ (¬ r101 = r95 → False)))))
def vd_L_law_5 (L : Nat) (xs : Nat → Int32) (K : Int32 → sj_W → Prop) (f1 : Nat) (f2 : Nat) (f3 : Nat) (f4 : Nat) (v5 : Int32) (w : sj_W) : Prop := vp_in (v5 + 1) L ∧ vp_in (v5 + 2) L ∧ vp_in (v5 + 3) L ∧ vc_L_repeat f1 (((xs (v5 + 1).toNatClampNeg).toUInt32 % 65536).toInt32) (xs (v5 + 2).toNatClampNeg) (xs (v5 + 3).toNatClampNeg) f3 w (fun r111 w112 => vp_in (v5 + 1) L ∧ vp_in (v5 + 2) L ∧ vp_in (v5 + 3) L ∧ sj_T w112 f2 = 6 ∧ vc_X7_repeat f2 (((xs (v5 + 1).toNatClampNeg).toUInt32 % 65536).toInt32) (xs (v5 + 2).toNatClampNeg) (xs (v5 + 3).toNatClampNeg) w112 (fun r114 w115 => sj_T w115 f2 = 6 ∧ vc_X7_thrown f2 w115 (fun r117 w118 => ((r117 = r111 → ((¬ r111 = 0 → K (v5 + 6) w118) ∧ (r111 = 0 → sj_T w118 f3 = 8 ∧ vp_in 0 (sj_N w118 f3) ∧ (((lg_cmp (sj_l w118 f3 (0 : Int32).toNatClampNeg) (r114.toInt64)) = 0 → K (v5 + 6) w118) ∧ (¬ (lg_cmp (sj_l w118 f3 (0 : Int32).toNatClampNeg) (r114.toInt64)) = 0 → False))))) ∧ (¬ r117 = r111 → False)))))
def vd_L_law_6 (L : Nat) (xs : Nat → Int32) (K : Int32 → sj_W → Prop) (f1 : Nat) (f2 : Nat) (f3 : Nat) (f4 : Nat) (v5 : Int32) (w : sj_W) : Prop := vp_in (v5 + 1) L ∧ vp_in (v5 + 2) L ∧ vc_L_reverse f1 (((xs (v5 + 1).toNatClampNeg).toUInt32 % 65536).toInt32) (xs (v5 + 2).toNatClampNeg) f3 w (fun r127 w128 => vp_in (v5 + 1) L ∧ vp_in (v5 + 2) L ∧ sj_T w128 f2 = 6 ∧ vc_X7_reverse f2 (((xs (v5 + 1).toNatClampNeg).toUInt32 % 65536).toInt32) (xs (v5 + 2).toNatClampNeg) w128 (fun r130 w131 => sj_T w131 f2 = 6 ∧ vc_X7_thrown f2 w131 (fun r133 w134 => ((r133 = r127 → ((¬ r127 = 0 → K (v5 + 6) w134) ∧ (r127 = 0 → sj_T w134 f3 = 8 ∧ vp_in 0 (sj_N w134 f3) ∧ (((lg_cmp (sj_l w134 f3 (0 : Int32).toNatClampNeg) (r130.toInt64)) = 0 → K (v5 + 6) w134) ∧ (¬ (lg_cmp (sj_l w134 f3 (0 : Int32).toNatClampNeg) (r130.toInt64)) = 0 → False))))) ∧ (¬ r133 = r127 → False)))))
def vd_L_law_7 (L : Nat) (xs : Nat → Int32) (K : Int32 → sj_W → Prop) (f1 : Nat) (f2 : Nat) (f3 : Nat) (f4 : Nat) (v5 : Int32) (w : sj_W) : Prop := vp_in (v5 + 1) L ∧ vp_in (v5 + 2) L ∧ vp_in (v5 + 3) L ∧ vp_in (v5 + 4) L ∧ vc_L_cut f1 (((xs (v5 + 1).toNatClampNeg).toUInt32 % 65536).toInt32) (xs (v5 + 2).toNatClampNeg) (xs (v5 + 3).toNatClampNeg) (xs (v5 + 4).toNatClampNeg) f3 w (fun r143 w144 => vp_in (v5 + 1) L ∧ vp_in (v5 + 2) L ∧ vp_in (v5 + 3) L ∧ vp_in (v5 + 4) L ∧ sj_T w144 f2 = 6 ∧ vc_X7_cut f2 (((xs (v5 + 1).toNatClampNeg).toUInt32 % 65536).toInt32) (xs (v5 + 2).toNatClampNeg) (xs (v5 + 3).toNatClampNeg) (xs (v5 + 4).toNatClampNeg) w144 (fun r146 w147 => sj_T w147 f2 = 6 ∧ vc_X7_thrown f2 w147 (fun r149 w150 => ((r149 = r143 → ((¬ r143 = 0 → K (v5 + 6) w150) ∧ (r143 = 0 → sj_T w150 f3 = 8 ∧ vp_in 0 (sj_N w150 f3) ∧ (((lg_cmp (sj_l w150 f3 (0 : Int32).toNatClampNeg) (r146.toInt64)) = 0 → K (v5 + 6) w150) ∧ (¬ (lg_cmp (sj_l w150 f3 (0 : Int32).toNatClampNeg) (r146.toInt64)) = 0 → False))))) ∧ (¬ r149 = r143 → False)))))
def vd_L_law_8 (L : Nat) (xs : Nat → Int32) (K : Int32 → sj_W → Prop) (f1 : Nat) (f2 : Nat) (f3 : Nat) (f4 : Nat) (v5 : Int32) (w : sj_W) : Prop := vp_in (v5 + 1) L ∧ vp_in (v5 + 2) L ∧ vp_in (v5 + 3) L ∧ vp_in (v5 + 4) L ∧ vp_in (v5 + 5) L ∧ vc_L_convert f1 (((xs (v5 + 1).toNatClampNeg).toUInt32 % 65536).toInt32) (xs (v5 + 2).toNatClampNeg) (((xs (v5 + 3).toNatClampNeg).toUInt32 % 65536).toInt32) (xs (v5 + 4).toNatClampNeg) (((xs (v5 + 5).toNatClampNeg).toUInt32 % 65536).toInt32) f3 w (fun r159 w160 => vp_in (v5 + 1) L ∧ vp_in (v5 + 2) L ∧ vp_in (v5 + 3) L ∧ vp_in (v5 + 4) L ∧ vp_in (v5 + 5) L ∧ sj_T w160 f2 = 6 ∧ vc_X7_convert f2 (((xs (v5 + 1).toNatClampNeg).toUInt32 % 65536).toInt32) (xs (v5 + 2).toNatClampNeg) (((xs (v5 + 3).toNatClampNeg).toUInt32 % 65536).toInt32) (xs (v5 + 4).toNatClampNeg) (((xs (v5 + 5).toNatClampNeg).toUInt32 % 65536).toInt32) w160 (fun r162 w163 => sj_T w163 f2 = 6 ∧ vc_X7_thrown f2 w163 (fun r165 w166 => ((r165 = r159 → ((¬ r159 = 0 → K (v5 + 6) w166) ∧ (r159 = 0 → sj_T w166 f3 = 8 ∧ vp_in 0 (sj_N w166 f3) ∧ (((lg_cmp (sj_l w166 f3 (0 : Int32).toNatClampNeg) (r162.toInt64)) = 0 → K (v5 + 6) w166) ∧ (¬ (lg_cmp (sj_l w166 f3 (0 : Int32).toNatClampNeg) (r162.toInt64)) = 0 → False))))) ∧ (¬ r165 = r159 → False)))))
def vd_L_law_9 (L : Nat) (xs : Nat → Int32) (K : Int32 → sj_W → Prop) (f1 : Nat) (f2 : Nat) (f3 : Nat) (f4 : Nat) (v5 : Int32) (w : sj_W) : Prop := vp_in (v5 + 1) L ∧ vp_in (v5 + 2) L ∧ vp_in (v5 + 3) L ∧ vp_in (v5 + 4) L ∧ vc_L_span f1 (xs (v5 + 1).toNatClampNeg) (xs (v5 + 2).toNatClampNeg) (xs (v5 + 3).toNatClampNeg) (xs (v5 + 4).toNatClampNeg) f3 w (fun r175 w176 => vp_in (v5 + 1) L ∧ vp_in (v5 + 2) L ∧ vp_in (v5 + 3) L ∧ vp_in (v5 + 4) L ∧ sj_T w176 f2 = 6 ∧ vc_X7_span f2 (xs (v5 + 1).toNatClampNeg) (xs (v5 + 2).toNatClampNeg) (xs (v5 + 3).toNatClampNeg) (xs (v5 + 4).toNatClampNeg) w176 (fun r178 w179 => sj_T w179 f2 = 6 ∧ vc_X7_thrown f2 w179 (fun r181 w182 => ((r181 = r175 → ((¬ r175 = 0 → K (v5 + 6) w182) ∧ (r175 = 0 → sj_T w182 f3 = 8 ∧ vp_in 0 (sj_N w182 f3) ∧ (((lg_cmp (sj_l w182 f3 (0 : Int32).toNatClampNeg) (r178.toInt64)) = 0 → K (v5 + 6) w182) ∧ (¬ (lg_cmp (sj_l w182 f3 (0 : Int32).toNatClampNeg) (r178.toInt64)) = 0 → False))))) ∧ (¬ r181 = r175 → False)))))
def vd_L_law_10 (L : Nat) (xs : Nat → Int32) (K : Int32 → sj_W → Prop) (f1 : Nat) (f2 : Nat) (f3 : Nat) (f4 : Nat) (v5 : Int32) (w : sj_W) : Prop := vp_in (v5 + 1) L ∧ vp_in (v5 + 2) L ∧ vc_L_tells f1 (xs (v5 + 1).toNatClampNeg) (((xs (v5 + 2).toNatClampNeg).toUInt32 % 65536).toInt32) f3 w (fun r191 w192 => vp_in (v5 + 1) L ∧ vp_in (v5 + 2) L ∧ sj_T w192 f2 = 6 ∧ vc_X7_tells f2 (xs (v5 + 1).toNatClampNeg) (((xs (v5 + 2).toNatClampNeg).toUInt32 % 65536).toInt32) w192 (fun r194 w195 => sj_T w195 f2 = 6 ∧ vc_X7_thrown f2 w195 (fun r197 w198 => ((r197 = r191 → ((¬ r191 = 0 → K (v5 + 6) w198) ∧ (r191 = 0 → sj_T w198 f3 = 8 ∧ vp_in 0 (sj_N w198 f3) ∧ (((lg_cmp (sj_l w198 f3 (0 : Int32).toNatClampNeg) (r194.toInt64)) = 0 → K (v5 + 6) w198) ∧ (¬ (lg_cmp (sj_l w198 f3 (0 : Int32).toNatClampNeg) (r194.toInt64)) = 0 → False))))) ∧ (¬ r197 = r191 → False)))))
def vd_L_law_11 (L : Nat) (xs : Nat → Int32) (K : Int32 → sj_W → Prop) (f1 : Nat) (f2 : Nat) (f3 : Nat) (f4 : Nat) (v5 : Int32) (w : sj_W) : Prop := vp_in (v5 + 1) L ∧ vp_in (v5 + 2) L ∧ vc_L_fits f1 (((xs (v5 + 1).toNatClampNeg).toUInt32 % 65536).toInt32) (xs (v5 + 2).toNatClampNeg) f3 w (fun r207 w208 => vp_in (v5 + 1) L ∧ vp_in (v5 + 2) L ∧ sj_T w208 f2 = 6 ∧ vc_X7_fits f2 (((xs (v5 + 1).toNatClampNeg).toUInt32 % 65536).toInt32) (xs (v5 + 2).toNatClampNeg) w208 (fun r210 w211 => sj_T w211 f2 = 6 ∧ vc_X7_thrown f2 w211 (fun r213 w214 => ((r213 = r207 → ((¬ r207 = 0 → K (v5 + 6) w214) ∧ (r207 = 0 → sj_T w214 f3 = 8 ∧ vp_in 0 (sj_N w214 f3) ∧ sj_jn2 (fun (E219 : Int64 → Int64 → sj_W → Prop) => ((r210 = 0 → E219 0 (sj_l w214 f3 (0 : Int32).toNatClampNeg) w214) ∧ (¬ r210 = 0 → E219 1 (sj_l w214 f3 (0 : Int32).toNatClampNeg) w214))) (fun (y0_1242 : Int64) (y1_1242 : Int64) (w_1242 : sj_W) => (((lg_cmp y1_1242 y0_1242) = 0 → K (v5 + 6) w_1242) ∧ (¬ (lg_cmp y1_1242 y0_1242) = 0 → False)))))) ∧ (¬ r213 = r207 → False)))))
def vd_L_law_12 (L : Nat) (xs : Nat → Int32) (K : Int32 → sj_W → Prop) (f1 : Nat) (f2 : Nat) (f3 : Nat) (f4 : Nat) (v5 : Int32) (w : sj_W) : Prop := vp_in (v5 + 1) L ∧ vp_in (v5 + 2) L ∧ vp_in (v5 + 3) L ∧ vp_in (v5 + 4) L ∧ vc_L_asks f1 (((xs (v5 + 1).toNatClampNeg).toUInt32 % 65536).toInt32) (((xs (v5 + 2).toNatClampNeg).toUInt32 % 65536).toInt32) (xs (v5 + 3).toNatClampNeg) (xs (v5 + 4).toNatClampNeg) f3 w (fun r231 w232 => vp_in (v5 + 1) L ∧ vp_in (v5 + 2) L ∧ vp_in (v5 + 3) L ∧ vp_in (v5 + 4) L ∧ sj_T w232 f2 = 6 ∧ vc_X7_asks f2 (((xs (v5 + 1).toNatClampNeg).toUInt32 % 65536).toInt32) (((xs (v5 + 2).toNatClampNeg).toUInt32 % 65536).toInt32) (xs (v5 + 3).toNatClampNeg) (xs (v5 + 4).toNatClampNeg) w232 (fun r234 w235 => sj_T w235 f2 = 6 ∧ vc_X7_thrown f2 w235 (fun r237 w238 => ((r237 = r231 → ((¬ r231 = 0 → K (v5 + 6) w238) ∧ (r231 = 0 → sj_T w238 f3 = 8 ∧ vp_in 0 (sj_N w238 f3) ∧ (((lg_cmp (sj_l w238 f3 (0 : Int32).toNatClampNeg) (r234.toInt64)) = 0 → K (v5 + 6) w238) ∧ (¬ (lg_cmp (sj_l w238 f3 (0 : Int32).toNatClampNeg) (r234.toInt64)) = 0 → False))))) ∧ (¬ r237 = r231 → False)))))
def vd_L_law_13 (L : Nat) (xs : Nat → Int32) (K : Int32 → sj_W → Prop) (f1 : Nat) (f2 : Nat) (f3 : Nat) (f4 : Nat) (v5 : Int32) (w : sj_W) : Prop := vp_in (v5 + 1) L ∧ vp_in (v5 + 2) L ∧ vp_in (v5 + 3) L ∧ vp_in (v5 + 4) L ∧ vc_L_asksRows f1 (((xs (v5 + 1).toNatClampNeg).toUInt32 % 65536).toInt32) (((xs (v5 + 2).toNatClampNeg).toUInt32 % 65536).toInt32) (xs (v5 + 3).toNatClampNeg) (xs (v5 + 4).toNatClampNeg) f3 w (fun r247 w248 => vp_in (v5 + 1) L ∧ vp_in (v5 + 2) L ∧ vp_in (v5 + 3) L ∧ vp_in (v5 + 4) L ∧ sj_T w248 f2 = 6 ∧ vc_X7_asksRows f2 (((xs (v5 + 1).toNatClampNeg).toUInt32 % 65536).toInt32) (((xs (v5 + 2).toNatClampNeg).toUInt32 % 65536).toInt32) (xs (v5 + 3).toNatClampNeg) (xs (v5 + 4).toNatClampNeg) w248 (fun r250 w251 => sj_T w251 f2 = 6 ∧ vc_X7_thrown f2 w251 (fun r253 w254 => ((r253 = r247 → ((¬ r247 = 0 → K (v5 + 6) w254) ∧ (r247 = 0 → sj_T w254 f3 = 8 ∧ vp_in 0 (sj_N w254 f3) ∧ (((lg_cmp (sj_l w254 f3 (0 : Int32).toNatClampNeg) (r250.toInt64)) = 0 → K (v5 + 6) w254) ∧ (¬ (lg_cmp (sj_l w254 f3 (0 : Int32).toNatClampNeg) (r250.toInt64)) = 0 → False))))) ∧ (¬ r253 = r247 → False)))))
def vd_L_law_14 (L : Nat) (xs : Nat → Int32) (K : Int32 → sj_W → Prop) (f1 : Nat) (f2 : Nat) (f3 : Nat) (f4 : Nat) (v5 : Int32) (w : sj_W) : Prop := vp_in (v5 + 1) L ∧ vp_in (v5 + 2) L ∧ vp_in (v5 + 3) L ∧ vp_in (v5 + 4) L ∧ vp_in (v5 + 5) L ∧ vc_L_refused f1 (((xs (v5 + 1).toNatClampNeg).toUInt32 % 65536).toInt32) (((xs (v5 + 2).toNatClampNeg).toUInt32 % 65536).toInt32) (xs (v5 + 3).toNatClampNeg) (xs (v5 + 4).toNatClampNeg) (xs (v5 + 5).toNatClampNeg) f3 w (fun r263 w264 => vp_in (v5 + 1) L ∧ vp_in (v5 + 2) L ∧ vp_in (v5 + 3) L ∧ vp_in (v5 + 4) L ∧ vp_in (v5 + 5) L ∧ sj_T w264 f2 = 6 ∧ vc_X7_refused f2 (((xs (v5 + 1).toNatClampNeg).toUInt32 % 65536).toInt32) (((xs (v5 + 2).toNatClampNeg).toUInt32 % 65536).toInt32) (xs (v5 + 3).toNatClampNeg) (xs (v5 + 4).toNatClampNeg) (xs (v5 + 5).toNatClampNeg) w264 (fun r266 w267 => sj_T w267 f2 = 6 ∧ vc_X7_thrown f2 w267 (fun r269 w270 => ((r269 = r263 → ((¬ r263 = 0 → K (v5 + 6) w270) ∧ (r263 = 0 → sj_T w270 f3 = 8 ∧ vp_in 0 (sj_N w270 f3) ∧ (((lg_cmp (sj_l w270 f3 (0 : Int32).toNatClampNeg) (r266.toInt64)) = 0 → K (v5 + 6) w270) ∧ (¬ (lg_cmp (sj_l w270 f3 (0 : Int32).toNatClampNeg) (r266.toInt64)) = 0 → False))))) ∧ (¬ r269 = r263 → False)))))
def vd_L_law_15 (L : Nat) (xs : Nat → Int32) (K : Int32 → sj_W → Prop) (f1 : Nat) (f2 : Nat) (f3 : Nat) (f4 : Nat) (v5 : Int32) (w : sj_W) : Prop := vp_in (v5 + 1) L ∧ vp_in (v5 + 2) L ∧ vp_in (v5 + 3) L ∧ vc_L_common f1 (((xs (v5 + 1).toNatClampNeg).toUInt32 % 65536).toInt32) (xs (v5 + 2).toNatClampNeg) (xs (v5 + 3).toNatClampNeg) f3 w (fun r279 w280 => vp_in (v5 + 1) L ∧ vp_in (v5 + 2) L ∧ vp_in (v5 + 3) L ∧ sj_T w280 f2 = 6 ∧ vc_X7_common f2 (((xs (v5 + 1).toNatClampNeg).toUInt32 % 65536).toInt32) (xs (v5 + 2).toNatClampNeg) (xs (v5 + 3).toNatClampNeg) w280 (fun r282 w283 => sj_T w283 f2 = 6 ∧ vc_X7_thrown f2 w283 (fun r285 w286 => ((r285 = r279 → ((¬ r279 = 0 → K (v5 + 6) w286) ∧ (r279 = 0 → sj_T w286 f3 = 8 ∧ vp_in 0 (sj_N w286 f3) ∧ (((lg_cmp (sj_l w286 f3 (0 : Int32).toNatClampNeg) (r282.toInt64)) = 0 → K (v5 + 6) w286) ∧ (¬ (lg_cmp (sj_l w286 f3 (0 : Int32).toNatClampNeg) (r282.toInt64)) = 0 → False))))) ∧ (¬ r285 = r279 → False)))))
def vd_L_law_16 (L : Nat) (xs : Nat → Int32) (K : Int32 → sj_W → Prop) (f1 : Nat) (f2 : Nat) (f3 : Nat) (f4 : Nat) (v5 : Int32) (w : sj_W) : Prop := vp_in (v5 + 1) L ∧ vp_in (v5 + 2) L ∧ vp_in (v5 + 3) L ∧ vc_L_rank f1 (((xs (v5 + 1).toNatClampNeg).toUInt32 % 65536).toInt32) (((xs (v5 + 2).toNatClampNeg).toUInt32 % 65536).toInt32) (xs (v5 + 3).toNatClampNeg) f3 w (fun r295 w296 => vp_in (v5 + 1) L ∧ vp_in (v5 + 2) L ∧ vp_in (v5 + 3) L ∧ sj_T w296 f2 = 6 ∧ vc_X7_rank f2 (((xs (v5 + 1).toNatClampNeg).toUInt32 % 65536).toInt32) (((xs (v5 + 2).toNatClampNeg).toUInt32 % 65536).toInt32) (xs (v5 + 3).toNatClampNeg) w296 (fun r298 w299 => sj_T w299 f2 = 6 ∧ vc_X7_thrown f2 w299 (fun r301 w302 => ((r301 = r295 → ((¬ r295 = 0 → K (v5 + 6) w302) ∧ (r295 = 0 → sj_T w302 f3 = 8 ∧ vp_in 0 (sj_N w302 f3) ∧ (((lg_cmp (sj_l w302 f3 (0 : Int32).toNatClampNeg) (r298.toInt64)) = 0 → K (v5 + 6) w302) ∧ (¬ (lg_cmp (sj_l w302 f3 (0 : Int32).toNatClampNeg) (r298.toInt64)) = 0 → False))))) ∧ (¬ r301 = r295 → False)))))
def vd_L_law_17 (L : Nat) (xs : Nat → Int32) (K : Int32 → sj_W → Prop) (f1 : Nat) (f2 : Nat) (f3 : Nat) (f4 : Nat) (v5 : Int32) (w : sj_W) : Prop := vp_in (v5 + 1) L ∧ vp_in (v5 + 2) L ∧ vc_L_sort f1 (((xs (v5 + 1).toNatClampNeg).toUInt32 % 65536).toInt32) (((xs (v5 + 2).toNatClampNeg).toUInt32 % 65536).toInt32) f3 w (fun r311 w312 => vp_in (v5 + 1) L ∧ vp_in (v5 + 2) L ∧ sj_T w312 f2 = 6 ∧ vc_X7_sort f2 (((xs (v5 + 1).toNatClampNeg).toUInt32 % 65536).toInt32) (((xs (v5 + 2).toNatClampNeg).toUInt32 % 65536).toInt32) w312 (fun r314 w315 => sj_T w315 f2 = 6 ∧ vc_X7_thrown f2 w315 (fun r317 w318 => ((r317 = r311 → ((¬ r311 = 0 → K (v5 + 6) w318) ∧ (r311 = 0 → sj_T w318 f3 = 8 ∧ vp_in 0 (sj_N w318 f3) ∧ (((lg_cmp (sj_l w318 f3 (0 : Int32).toNatClampNeg) (r314.toInt64)) = 0 → K (v5 + 6) w318) ∧ (¬ (lg_cmp (sj_l w318 f3 (0 : Int32).toNatClampNeg) (r314.toInt64)) = 0 → False))))) ∧ (¬ r317 = r311 → False)))))
def vd_L_law_18 (L : Nat) (xs : Nat → Int32) (K : Int32 → sj_W → Prop) (f1 : Nat) (f2 : Nat) (f3 : Nat) (f4 : Nat) (v5 : Int32) (w : sj_W) : Prop := vp_in (v5 + 1) L ∧ vc_L_sorted f1 (xs (v5 + 1).toNatClampNeg) f3 w (fun r327 w328 => vp_in (v5 + 1) L ∧ sj_T w328 f2 = 6 ∧ vc_X7_sorted f2 (xs (v5 + 1).toNatClampNeg) w328 (fun r330 w331 => sj_T w331 f2 = 6 ∧ vc_X7_thrown f2 w331 (fun r333 w334 => ((r333 = r327 → ((¬ r327 = 0 → K (v5 + 6) w334) ∧ (r327 = 0 → sj_T w334 f3 = 8 ∧ vp_in 0 (sj_N w334 f3) ∧ (((lg_cmp (sj_l w334 f3 (0 : Int32).toNatClampNeg) (r330.toInt64)) = 0 → K (v5 + 6) w334) ∧ (¬ (lg_cmp (sj_l w334 f3 (0 : Int32).toNatClampNeg) (r330.toInt64)) = 0 → False))))) ∧ (¬ r333 = r327 → False)))))
def vd_L_law_19 (L : Nat) (xs : Nat → Int32) (K : Int32 → sj_W → Prop) (f1 : Nat) (f2 : Nat) (f3 : Nat) (f4 : Nat) (v5 : Int32) (w : sj_W) : Prop := vp_in (v5 + 1) L ∧ vp_in (v5 + 2) L ∧ vp_in (v5 + 3) L ∧ vp_in (v5 + 4) L ∧ vc_L_ending f1 (((xs (v5 + 1).toNatClampNeg).toUInt32 % 65536).toInt32) (((xs (v5 + 2).toNatClampNeg).toUInt32 % 65536).toInt32) (xs (v5 + 3).toNatClampNeg) (xs (v5 + 4).toNatClampNeg) f3 w (fun r343 w344 => vp_in (v5 + 1) L ∧ vp_in (v5 + 2) L ∧ vp_in (v5 + 3) L ∧ vp_in (v5 + 4) L ∧ sj_T w344 f2 = 6 ∧ vc_X7_ending f2 (((xs (v5 + 1).toNatClampNeg).toUInt32 % 65536).toInt32) (((xs (v5 + 2).toNatClampNeg).toUInt32 % 65536).toInt32) (xs (v5 + 3).toNatClampNeg) (xs (v5 + 4).toNatClampNeg) w344 (fun r346 w347 => sj_T w347 f2 = 6 ∧ vc_X7_thrown f2 w347 (fun r349 w350 => ((r349 = r343 → ((¬ r343 = 0 → K (v5 + 6) w350) ∧ (r343 = 0 → sj_T w350 f3 = 8 ∧ vp_in 0 (sj_N w350 f3) ∧ (((lg_cmp (sj_l w350 f3 (0 : Int32).toNatClampNeg) (r346.toInt64)) = 0 → K (v5 + 6) w350) ∧ (¬ (lg_cmp (sj_l w350 f3 (0 : Int32).toNatClampNeg) (r346.toInt64)) = 0 → False))))) ∧ (¬ r349 = r343 → False)))))
def vd_L_law_20 (L : Nat) (xs : Nat → Int32) (K : Int32 → sj_W → Prop) (f1 : Nat) (f2 : Nat) (f3 : Nat) (f4 : Nat) (v5 : Int32) (w : sj_W) : Prop := vp_in (v5 + 1) L ∧ vp_in (v5 + 2) L ∧ vc_L_distinct f1 (((xs (v5 + 1).toNatClampNeg).toUInt32 % 65536).toInt32) (xs (v5 + 2).toNatClampNeg) f3 w (fun r359 w360 => vp_in (v5 + 1) L ∧ vp_in (v5 + 2) L ∧ sj_T w360 f2 = 6 ∧ vc_X7_distinct f2 (((xs (v5 + 1).toNatClampNeg).toUInt32 % 65536).toInt32) (xs (v5 + 2).toNatClampNeg) w360 (fun r362 w363 => sj_T w363 f2 = 6 ∧ vc_X7_thrown f2 w363 (fun r365 w366 => ((r365 = r359 → ((¬ r359 = 0 → K (v5 + 6) w366) ∧ (r359 = 0 → sj_T w366 f3 = 8 ∧ vp_in 0 (sj_N w366 f3) ∧ (((lg_cmp (sj_l w366 f3 (0 : Int32).toNatClampNeg) (r362.toInt64)) = 0 → K (v5 + 6) w366) ∧ (¬ (lg_cmp (sj_l w366 f3 (0 : Int32).toNatClampNeg) (r362.toInt64)) = 0 → False))))) ∧ (¬ r365 = r359 → False)))))
def vd_L_law_21 (L : Nat) (xs : Nat → Int32) (K : Int32 → sj_W → Prop) (f1 : Nat) (f2 : Nat) (f3 : Nat) (f4 : Nat) (v5 : Int32) (w : sj_W) : Prop := vp_in (v5 + 1) L ∧ vp_in (v5 + 2) L ∧ vc_L_longest f1 (((xs (v5 + 1).toNatClampNeg).toUInt32 % 65536).toInt32) (xs (v5 + 2).toNatClampNeg) f3 w (fun r375 w376 => vp_in (v5 + 1) L ∧ vp_in (v5 + 2) L ∧ sj_T w376 f2 = 6 ∧ vc_X7_longest f2 (((xs (v5 + 1).toNatClampNeg).toUInt32 % 65536).toInt32) (xs (v5 + 2).toNatClampNeg) w376 (fun r378 w379 => sj_T w379 f2 = 6 ∧ vc_X7_thrown f2 w379 (fun r381 w382 => ((r381 = r375 → ((¬ r375 = 0 → K (v5 + 6) w382) ∧ (r375 = 0 → sj_T w382 f3 = 8 ∧ vp_in 0 (sj_N w382 f3) ∧ (((lg_cmp (sj_l w382 f3 (0 : Int32).toNatClampNeg) (r378.toInt64)) = 0 → K (v5 + 6) w382) ∧ (¬ (lg_cmp (sj_l w382 f3 (0 : Int32).toNatClampNeg) (r378.toInt64)) = 0 → False))))) ∧ (¬ r381 = r375 → False)))))
def vd_L_law_22 (L : Nat) (xs : Nat → Int32) (K : Int32 → sj_W → Prop) (f1 : Nat) (f2 : Nat) (f3 : Nat) (f4 : Nat) (v5 : Int32) (w : sj_W) : Prop := vp_in (v5 + 1) L ∧ vp_in (v5 + 2) L ∧ vp_in (v5 + 3) L ∧ vc_L_occurs f1 (((xs (v5 + 1).toNatClampNeg).toUInt32 % 65536).toInt32) (xs (v5 + 2).toNatClampNeg) (xs (v5 + 3).toNatClampNeg) f3 w (fun r391 w392 => vp_in (v5 + 1) L ∧ vp_in (v5 + 2) L ∧ vp_in (v5 + 3) L ∧ sj_T w392 f2 = 6 ∧ vc_X7_occurs f2 (((xs (v5 + 1).toNatClampNeg).toUInt32 % 65536).toInt32) (xs (v5 + 2).toNatClampNeg) (xs (v5 + 3).toNatClampNeg) w392 (fun r394 w395 => sj_T w395 f2 = 6 ∧ vc_X7_thrown f2 w395 (fun r397 w398 => ((r397 = r391 → ((¬ r391 = 0 → K (v5 + 6) w398) ∧ (r391 = 0 → sj_T w398 f3 = 8 ∧ vp_in 0 (sj_N w398 f3) ∧ (((lg_cmp (sj_l w398 f3 (0 : Int32).toNatClampNeg) (r394.toInt64)) = 0 → K (v5 + 6) w398) ∧ (¬ (lg_cmp (sj_l w398 f3 (0 : Int32).toNatClampNeg) (r394.toInt64)) = 0 → False))))) ∧ (¬ r397 = r391 → False)))))
def vd_L_law_23 (L : Nat) (xs : Nat → Int32) (K : Int32 → sj_W → Prop) (f1 : Nat) (f2 : Nat) (f3 : Nat) (f4 : Nat) (v5 : Int32) (w : sj_W) : Prop := vp_in (v5 + 1) L ∧ vp_in (v5 + 2) L ∧ vp_in (v5 + 3) L ∧ vc_L_isPeriod f1 (((xs (v5 + 1).toNatClampNeg).toUInt32 % 65536).toInt32) (xs (v5 + 2).toNatClampNeg) (xs (v5 + 3).toNatClampNeg) f3 w (fun r407 w408 => vp_in (v5 + 1) L ∧ vp_in (v5 + 2) L ∧ vp_in (v5 + 3) L ∧ sj_T w408 f2 = 6 ∧ vc_X7_isPeriod f2 (((xs (v5 + 1).toNatClampNeg).toUInt32 % 65536).toInt32) (xs (v5 + 2).toNatClampNeg) (xs (v5 + 3).toNatClampNeg) w408 (fun r410 w411 => sj_T w411 f2 = 6 ∧ vc_X7_thrown f2 w411 (fun r413 w414 => ((r413 = r407 → ((¬ r407 = 0 → K (v5 + 6) w414) ∧ (r407 = 0 → sj_T w414 f3 = 8 ∧ vp_in 0 (sj_N w414 f3) ∧ sj_jn2 (fun (E419 : Int64 → Int64 → sj_W → Prop) => ((r410 = 0 → E419 0 (sj_l w414 f3 (0 : Int32).toNatClampNeg) w414) ∧ (¬ r410 = 0 → E419 1 (sj_l w414 f3 (0 : Int32).toNatClampNeg) w414))) (fun (y0_2243 : Int64) (y1_2243 : Int64) (w_2243 : sj_W) => (((lg_cmp y1_2243 y0_2243) = 0 → K (v5 + 6) w_2243) ∧ (¬ (lg_cmp y1_2243 y0_2243) = 0 → False)))))) ∧ (¬ r413 = r407 → False)))))
def vd_L_law_24 (L : Nat) (xs : Nat → Int32) (K : Int32 → sj_W → Prop) (f1 : Nat) (f2 : Nat) (f3 : Nat) (f4 : Nat) (v5 : Int32) (w : sj_W) : Prop := vp_in (v5 + 1) L ∧ vp_in (v5 + 2) L ∧ vc_L_period f1 (((xs (v5 + 1).toNatClampNeg).toUInt32 % 65536).toInt32) (xs (v5 + 2).toNatClampNeg) f3 w (fun r431 w432 => vp_in (v5 + 1) L ∧ vp_in (v5 + 2) L ∧ sj_T w432 f2 = 6 ∧ vc_X7_period f2 (((xs (v5 + 1).toNatClampNeg).toUInt32 % 65536).toInt32) (xs (v5 + 2).toNatClampNeg) w432 (fun r434 w435 => sj_T w435 f2 = 6 ∧ vc_X7_thrown f2 w435 (fun r437 w438 => ((r437 = r431 → ((¬ r431 = 0 → K (v5 + 6) w438) ∧ (r431 = 0 → sj_T w438 f3 = 8 ∧ vp_in 0 (sj_N w438 f3) ∧ (((lg_cmp (sj_l w438 f3 (0 : Int32).toNatClampNeg) (r434.toInt64)) = 0 → K (v5 + 6) w438) ∧ (¬ (lg_cmp (sj_l w438 f3 (0 : Int32).toNatClampNeg) (r434.toInt64)) = 0 → False))))) ∧ (¬ r437 = r431 → False)))))
def vd_L_law_25 (L : Nat) (xs : Nat → Int32) (K : Int32 → sj_W → Prop) (f1 : Nat) (f2 : Nat) (f3 : Nat) (f4 : Nat) (v5 : Int32) (w : sj_W) : Prop := vp_in (v5 + 1) L ∧ vp_in (v5 + 2) L ∧ vc_L_root f1 (((xs (v5 + 1).toNatClampNeg).toUInt32 % 65536).toInt32) (xs (v5 + 2).toNatClampNeg) f3 w (fun r447 w448 => vp_in (v5 + 1) L ∧ vp_in (v5 + 2) L ∧ sj_T w448 f2 = 6 ∧ vc_X7_root f2 (((xs (v5 + 1).toNatClampNeg).toUInt32 % 65536).toInt32) (xs (v5 + 2).toNatClampNeg) w448 (fun r450 w451 => sj_T w451 f2 = 6 ∧ vc_X7_thrown f2 w451 (fun r453 w454 => ((r453 = r447 → ((¬ r447 = 0 → K (v5 + 6) w454) ∧ (r447 = 0 → sj_T w454 f3 = 8 ∧ vp_in 0 (sj_N w454 f3) ∧ (((lg_cmp (sj_l w454 f3 (0 : Int32).toNatClampNeg) (r450.toInt64)) = 0 → K (v5 + 6) w454) ∧ (¬ (lg_cmp (sj_l w454 f3 (0 : Int32).toNatClampNeg) (r450.toInt64)) = 0 → False))))) ∧ (¬ r453 = r447 → False)))))
def vd_L_law_26 (L : Nat) (xs : Nat → Int32) (K : Int32 → sj_W → Prop) (f1 : Nat) (f2 : Nat) (f3 : Nat) (f4 : Nat) (v5 : Int32) (w : sj_W) : Prop := vp_in (v5 + 1) L ∧ vp_in (v5 + 2) L ∧ vp_in (v5 + 3) L ∧ vc_L_rotation f1 (((xs (v5 + 1).toNatClampNeg).toUInt32 % 65536).toInt32) (((xs (v5 + 2).toNatClampNeg).toUInt32 % 65536).toInt32) (xs (v5 + 3).toNatClampNeg) f3 w (fun r463 w464 => vp_in (v5 + 1) L ∧ vp_in (v5 + 2) L ∧ vp_in (v5 + 3) L ∧ sj_T w464 f2 = 6 ∧ vc_X7_rotation f2 (((xs (v5 + 1).toNatClampNeg).toUInt32 % 65536).toInt32) (((xs (v5 + 2).toNatClampNeg).toUInt32 % 65536).toInt32) (xs (v5 + 3).toNatClampNeg) w464 (fun r466 w467 => sj_T w467 f2 = 6 ∧ vc_X7_thrown f2 w467 (fun r469 w470 => ((r469 = r463 → ((¬ r463 = 0 → K (v5 + 6) w470) ∧ (r463 = 0 → sj_T w470 f3 = 8 ∧ vp_in 0 (sj_N w470 f3) ∧ (((lg_cmp (sj_l w470 f3 (0 : Int32).toNatClampNeg) (r466.toInt64)) = 0 → K (v5 + 6) w470) ∧ (¬ (lg_cmp (sj_l w470 f3 (0 : Int32).toNatClampNeg) (r466.toInt64)) = 0 → False))))) ∧ (¬ r469 = r463 → False)))))
def vd_L_law_27 (L : Nat) (xs : Nat → Int32) (K : Int32 → sj_W → Prop) (f1 : Nat) (f2 : Nat) (f3 : Nat) (f4 : Nat) (v5 : Int32) (w : sj_W) : Prop := vp_in (v5 + 1) L ∧ vp_in (v5 + 2) L ∧ vp_in (v5 + 3) L ∧ vc_L_factors f1 (((xs (v5 + 1).toNatClampNeg).toUInt32 % 65536).toInt32) (((xs (v5 + 2).toNatClampNeg).toUInt32 % 65536).toInt32) (xs (v5 + 3).toNatClampNeg) f3 w (fun r479 w480 => vp_in (v5 + 1) L ∧ vp_in (v5 + 2) L ∧ vp_in (v5 + 3) L ∧ sj_T w480 f2 = 6 ∧ vc_X7_factors f2 (((xs (v5 + 1).toNatClampNeg).toUInt32 % 65536).toInt32) (((xs (v5 + 2).toNatClampNeg).toUInt32 % 65536).toInt32) (xs (v5 + 3).toNatClampNeg) w480 (fun r482 w483 => sj_T w483 f2 = 6 ∧ vc_X7_thrown f2 w483 (fun r485 w486 => ((r485 = r479 → ((¬ r479 = 0 → K (v5 + 6) w486) ∧ (r479 = 0 → sj_T w486 f3 = 8 ∧ vp_in 0 (sj_N w486 f3) ∧ (((lg_cmp (sj_l w486 f3 (0 : Int32).toNatClampNeg) (r482.toInt64)) = 0 → K (v5 + 6) w486) ∧ (¬ (lg_cmp (sj_l w486 f3 (0 : Int32).toNatClampNeg) (r482.toInt64)) = 0 → False))))) ∧ (¬ r485 = r479 → False)))))
def vd_L_law_28 (L : Nat) (xs : Nat → Int32) (K : Int32 → sj_W → Prop) (f1 : Nat) (f2 : Nat) (f3 : Nat) (f4 : Nat) (v5 : Int32) (w : sj_W) : Prop := vp_in (v5 + 1) L ∧ vp_in (v5 + 2) L ∧ vp_in (v5 + 3) L ∧ vp_in (v5 + 4) L ∧ vc_L_factor f1 (((xs (v5 + 1).toNatClampNeg).toUInt32 % 65536).toInt32) (((xs (v5 + 2).toNatClampNeg).toUInt32 % 65536).toInt32) (xs (v5 + 3).toNatClampNeg) (xs (v5 + 4).toNatClampNeg) f3 w (fun r495 w496 => vp_in (v5 + 1) L ∧ vp_in (v5 + 2) L ∧ vp_in (v5 + 3) L ∧ vp_in (v5 + 4) L ∧ sj_T w496 f2 = 6 ∧ vc_X7_factor f2 (((xs (v5 + 1).toNatClampNeg).toUInt32 % 65536).toInt32) (((xs (v5 + 2).toNatClampNeg).toUInt32 % 65536).toInt32) (xs (v5 + 3).toNatClampNeg) (xs (v5 + 4).toNatClampNeg) w496 (fun r498 w499 => sj_T w499 f2 = 6 ∧ vc_X7_thrown f2 w499 (fun r501 w502 => ((r501 = r495 → ((¬ r495 = 0 → K (v5 + 6) w502) ∧ (r495 = 0 → sj_T w502 f3 = 8 ∧ vp_in 0 (sj_N w502 f3) ∧ (((lg_cmp (sj_l w502 f3 (0 : Int32).toNatClampNeg) (r498.toInt64)) = 0 → K (v5 + 6) w502) ∧ (¬ (lg_cmp (sj_l w502 f3 (0 : Int32).toNatClampNeg) (r498.toInt64)) = 0 → False))))) ∧ (¬ r501 = r495 → False)))))
def vd_L_law_29 (L : Nat) (xs : Nat → Int32) (K : Int32 → sj_W → Prop) (f1 : Nat) (f2 : Nat) (f3 : Nat) (f4 : Nat) (v5 : Int32) (w : sj_W) : Prop := vp_in (v5 + 1) L ∧ vc_L_share f1 (((xs (v5 + 1).toNatClampNeg).toUInt32 % 65536).toInt32) f4 w (fun r511 w512 => vp_in (v5 + 1) L ∧ sj_T w512 f2 = 6 ∧ vc_X7_share f2 (((xs (v5 + 1).toNatClampNeg).toUInt32 % 65536).toInt32) w512 (fun r514 w515 => sj_T w515 f2 = 6 ∧ vc_X7_thrown f2 w515 (fun r517 w518 => ((r517 = r511 → ((¬ r511 = 0 → K (v5 + 6) w518) ∧ (r511 = 0 → sj_T w518 f4 = 9 ∧ vp_in 0 (sj_N w518 f4) ∧ vf_n64 (FP.f2d r514) ∧ (((Op.cmpValue (FP.dcmp (sj_d w518 f4 (0 : Int32).toNatClampNeg) (FP.f2d r514)) .l) = 0 → K (v5 + 6) w518) ∧ (¬ (Op.cmpValue (FP.dcmp (sj_d w518 f4 (0 : Int32).toNatClampNeg) (FP.f2d r514)) .l) = 0 → sj_T w518 f4 = 9 ∧ vp_in 0 (sj_N w518 f4) ∧ sj_T w518 f4 = 9 ∧ vp_in 0 (sj_N w518 f4) ∧ (((Op.cmpValue (FP.dcmp (sj_d w518 f4 (0 : Int32).toNatClampNeg) (sj_d w518 f4 (0 : Int32).toNatClampNeg)) .l) = 0 → False) ∧ (¬ (Op.cmpValue (FP.dcmp (sj_d w518 f4 (0 : Int32).toNatClampNeg) (sj_d w518 f4 (0 : Int32).toNatClampNeg)) .l) = 0 → ((¬ (Op.cmpValue (FP.fcmp r514 r514) .l) = 0 → K (v5 + 6) w518) ∧ ((Op.cmpValue (FP.fcmp r514 r514) .l) = 0 → False))))))))) ∧ (¬ r517 = r511 → False)))))
def vd_L_law_30 (L : Nat) (xs : Nat → Int32) (K : Int32 → sj_W → Prop) (f1 : Nat) (f2 : Nat) (f3 : Nat) (f4 : Nat) (v5 : Int32) (w : sj_W) : Prop := vp_in (v5 + 1) L ∧ vc_L_mean f1 (((xs (v5 + 1).toNatClampNeg).toUInt32 % 65536).toInt32) f4 w (fun r531 w532 => vp_in (v5 + 1) L ∧ sj_T w532 f2 = 6 ∧ vc_X7_mean f2 (((xs (v5 + 1).toNatClampNeg).toUInt32 % 65536).toInt32) w532 (fun r534 w535 => sj_T w535 f2 = 6 ∧ vc_X7_thrown f2 w535 (fun r537 w538 => ((r537 = r531 → ((¬ r531 = 0 → K (v5 + 6) w538) ∧ (r531 = 0 → sj_T w538 f4 = 9 ∧ vp_in 0 (sj_N w538 f4) ∧ (((Op.cmpValue (FP.dcmp (sj_d w538 f4 (0 : Int32).toNatClampNeg) r534) .l) = 0 → K (v5 + 6) w538) ∧ (¬ (Op.cmpValue (FP.dcmp (sj_d w538 f4 (0 : Int32).toNatClampNeg) r534) .l) = 0 → sj_T w538 f4 = 9 ∧ vp_in 0 (sj_N w538 f4) ∧ sj_T w538 f4 = 9 ∧ vp_in 0 (sj_N w538 f4) ∧ (((Op.cmpValue (FP.dcmp (sj_d w538 f4 (0 : Int32).toNatClampNeg) (sj_d w538 f4 (0 : Int32).toNatClampNeg)) .l) = 0 → False) ∧ (¬ (Op.cmpValue (FP.dcmp (sj_d w538 f4 (0 : Int32).toNatClampNeg) (sj_d w538 f4 (0 : Int32).toNatClampNeg)) .l) = 0 → ((¬ (Op.cmpValue (FP.dcmp r534 r534) .l) = 0 → K (v5 + 6) w538) ∧ ((Op.cmpValue (FP.dcmp r534 r534) .l) = 0 → False))))))))) ∧ (¬ r537 = r531 → False)))))
def vd_L_law_31 (L : Nat) (xs : Nat → Int32) (K : Int32 → sj_W → Prop) (f1 : Nat) (f2 : Nat) (f3 : Nat) (f4 : Nat) (v5 : Int32) (w : sj_W) : Prop := sj_T w f1 = 5 ∧ vc_X6_checksum f1 w (fun r551 w552 => sj_T w552 f2 = 6 ∧ vc_X7_checksum f2 w552 (fun r554 w555 => (((lg_cmp r551 r554) = 0 → K (v5 + 6) w555) ∧ (¬ (lg_cmp r551 r554) = 0 → False))))
def vd_L_law_32 (L : Nat) (xs : Nat → Int32) (K : Int32 → sj_W → Prop) (f1 : Nat) (f2 : Nat) (f3 : Nat) (f4 : Nat) (v5 : Int32) (w : sj_W) : Prop := vp_in (v5 + 1) L ∧ vp_in (v5 + 2) L ∧ vp_in (v5 + 3) L ∧ vp_in (v5 + 4) L ∧ vc_L_isTrue f1 (((xs (v5 + 1).toNatClampNeg).toUInt32 % 65536).toInt32) (xs (v5 + 2).toNatClampNeg) (xs (v5 + 3).toNatClampNeg) (xs (v5 + 4).toNatClampNeg) f3 w (fun r560 w561 => vp_in (v5 + 1) L ∧ vp_in (v5 + 2) L ∧ vp_in (v5 + 3) L ∧ vp_in (v5 + 4) L ∧ sj_T w561 f2 = 6 ∧ vc_X7_isTrue f2 (((xs (v5 + 1).toNatClampNeg).toUInt32 % 65536).toInt32) (xs (v5 + 2).toNatClampNeg) (xs (v5 + 3).toNatClampNeg) (xs (v5 + 4).toNatClampNeg) w561 (fun r563 w564 => sj_T w564 f2 = 6 ∧ vc_X7_thrown f2 w564 (fun r566 w567 => ((r566 = r560 → ((¬ r560 = 0 → K (v5 + 6) w567) ∧ (r560 = 0 → sj_T w567 f3 = 8 ∧ vp_in 0 (sj_N w567 f3) ∧ sj_jn2 (fun (E572 : Int64 → Int64 → sj_W → Prop) => ((r563 = 0 → E572 0 (sj_l w567 f3 (0 : Int32).toNatClampNeg) w567) ∧ (¬ r563 = 0 → E572 1 (sj_l w567 f3 (0 : Int32).toNatClampNeg) w567))) (fun (y0_2921 : Int64) (y1_2921 : Int64) (w_2921 : sj_W) => (((lg_cmp y1_2921 y0_2921) = 0 → K (v5 + 6) w_2921) ∧ (¬ (lg_cmp y1_2921 y0_2921) = 0 → False)))))) ∧ (¬ r566 = r560 → False)))))
def vd_L_law_33 (L : Nat) (xs : Nat → Int32) (K : Int32 → sj_W → Prop) (f1 : Nat) (f2 : Nat) (f3 : Nat) (f4 : Nat) (v5 : Int32) (w : sj_W) : Prop := vp_in (v5 + 1) L ∧ vp_in (v5 + 2) L ∧ vp_in (v5 + 3) L ∧ vc_L_rowIsTrue f1 (((xs (v5 + 1).toNatClampNeg).toUInt32 % 65536).toInt32) (((xs (v5 + 2).toNatClampNeg).toUInt32 % 65536).toInt32) (xs (v5 + 3).toNatClampNeg) f3 w (fun r584 w585 => vp_in (v5 + 1) L ∧ vp_in (v5 + 2) L ∧ vp_in (v5 + 3) L ∧ sj_T w585 f2 = 6 ∧ vc_X7_rowIsTrue f2 (((xs (v5 + 1).toNatClampNeg).toUInt32 % 65536).toInt32) (((xs (v5 + 2).toNatClampNeg).toUInt32 % 65536).toInt32) (xs (v5 + 3).toNatClampNeg) w585 (fun r587 w588 => sj_T w588 f2 = 6 ∧ vc_X7_thrown f2 w588 (fun r590 w591 => ((r590 = r584 → ((¬ r584 = 0 → K (v5 + 6) w591) ∧ (r584 = 0 → sj_T w591 f3 = 8 ∧ vp_in 0 (sj_N w591 f3) ∧ sj_jn2 (fun (E596 : Int64 → Int64 → sj_W → Prop) => ((r587 = 0 → E596 0 (sj_l w591 f3 (0 : Int32).toNatClampNeg) w591) ∧ (¬ r587 = 0 → E596 1 (sj_l w591 f3 (0 : Int32).toNatClampNeg) w591))) (fun (y0_3012 : Int64) (y1_3012 : Int64) (w_3012 : sj_W) => (((lg_cmp y1_3012 y0_3012) = 0 → K (v5 + 6) w_3012) ∧ (¬ (lg_cmp y1_3012 y0_3012) = 0 → False)))))) ∧ (¬ r590 = r584 → False)))))
def vb_L_law_28 (L : Nat) (xs : Nat → Int32) (f1 : Nat) (f2 : Nat) (f3 : Nat) (f4 : Nat) (E : sj_W → Prop) (K : Int32 → sj_W → Prop) (v5 : Int32) (w : sj_W) : Prop := ((((nI L) - 6) < v5 → E w) ∧ (¬ ((nI L) - 6) < v5 → vp_in v5 L ∧ ((((xs v5.toNatClampNeg) &&& 63).toInt < 0 ∨ 33 < ((xs v5.toNatClampNeg) &&& 63).toInt → K (v5 + 6) w) ∧ (((xs v5.toNatClampNeg) &&& 63) = 0 → vd_L_law_0 L xs K f1 f2 f3 f4 v5 w) ∧ (((xs v5.toNatClampNeg) &&& 63) = 1 → vd_L_law_1 L xs K f1 f2 f3 f4 v5 w) ∧ (((xs v5.toNatClampNeg) &&& 63) = 2 → vd_L_law_2 L xs K f1 f2 f3 f4 v5 w) ∧ (((xs v5.toNatClampNeg) &&& 63) = 3 → vd_L_law_3 L xs K f1 f2 f3 f4 v5 w) ∧ (((xs v5.toNatClampNeg) &&& 63) = 4 → vd_L_law_4 L xs K f1 f2 f3 f4 v5 w) ∧ (((xs v5.toNatClampNeg) &&& 63) = 5 → vd_L_law_5 L xs K f1 f2 f3 f4 v5 w) ∧ (((xs v5.toNatClampNeg) &&& 63) = 6 → vd_L_law_6 L xs K f1 f2 f3 f4 v5 w) ∧ (((xs v5.toNatClampNeg) &&& 63) = 7 → vd_L_law_7 L xs K f1 f2 f3 f4 v5 w) ∧ (((xs v5.toNatClampNeg) &&& 63) = 8 → vd_L_law_8 L xs K f1 f2 f3 f4 v5 w) ∧ (((xs v5.toNatClampNeg) &&& 63) = 9 → vd_L_law_9 L xs K f1 f2 f3 f4 v5 w) ∧ (((xs v5.toNatClampNeg) &&& 63) = 10 → vd_L_law_10 L xs K f1 f2 f3 f4 v5 w) ∧ (((xs v5.toNatClampNeg) &&& 63) = 11 → vd_L_law_11 L xs K f1 f2 f3 f4 v5 w) ∧ (((xs v5.toNatClampNeg) &&& 63) = 12 → vd_L_law_12 L xs K f1 f2 f3 f4 v5 w) ∧ (((xs v5.toNatClampNeg) &&& 63) = 13 → vd_L_law_13 L xs K f1 f2 f3 f4 v5 w) ∧ (((xs v5.toNatClampNeg) &&& 63) = 14 → vd_L_law_14 L xs K f1 f2 f3 f4 v5 w) ∧ (((xs v5.toNatClampNeg) &&& 63) = 15 → vd_L_law_15 L xs K f1 f2 f3 f4 v5 w) ∧ (((xs v5.toNatClampNeg) &&& 63) = 16 → vd_L_law_16 L xs K f1 f2 f3 f4 v5 w) ∧ (((xs v5.toNatClampNeg) &&& 63) = 17 → vd_L_law_17 L xs K f1 f2 f3 f4 v5 w) ∧ (((xs v5.toNatClampNeg) &&& 63) = 18 → vd_L_law_18 L xs K f1 f2 f3 f4 v5 w) ∧ (((xs v5.toNatClampNeg) &&& 63) = 19 → vd_L_law_19 L xs K f1 f2 f3 f4 v5 w) ∧ (((xs v5.toNatClampNeg) &&& 63) = 20 → vd_L_law_20 L xs K f1 f2 f3 f4 v5 w) ∧ (((xs v5.toNatClampNeg) &&& 63) = 21 → vd_L_law_21 L xs K f1 f2 f3 f4 v5 w) ∧ (((xs v5.toNatClampNeg) &&& 63) = 22 → vd_L_law_22 L xs K f1 f2 f3 f4 v5 w) ∧ (((xs v5.toNatClampNeg) &&& 63) = 23 → vd_L_law_23 L xs K f1 f2 f3 f4 v5 w) ∧ (((xs v5.toNatClampNeg) &&& 63) = 24 → vd_L_law_24 L xs K f1 f2 f3 f4 v5 w) ∧ (((xs v5.toNatClampNeg) &&& 63) = 25 → vd_L_law_25 L xs K f1 f2 f3 f4 v5 w) ∧ (((xs v5.toNatClampNeg) &&& 63) = 26 → vd_L_law_26 L xs K f1 f2 f3 f4 v5 w) ∧ (((xs v5.toNatClampNeg) &&& 63) = 27 → vd_L_law_27 L xs K f1 f2 f3 f4 v5 w) ∧ (((xs v5.toNatClampNeg) &&& 63) = 28 → vd_L_law_28 L xs K f1 f2 f3 f4 v5 w) ∧ (((xs v5.toNatClampNeg) &&& 63) = 29 → vd_L_law_29 L xs K f1 f2 f3 f4 v5 w) ∧ (((xs v5.toNatClampNeg) &&& 63) = 30 → vd_L_law_30 L xs K f1 f2 f3 f4 v5 w) ∧ (((xs v5.toNatClampNeg) &&& 63) = 31 → vd_L_law_31 L xs K f1 f2 f3 f4 v5 w) ∧ (((xs v5.toNatClampNeg) &&& 63) = 32 → vd_L_law_32 L xs K f1 f2 f3 f4 v5 w) ∧ (((xs v5.toNatClampNeg) &&& 63) = 33 → vd_L_law_33 L xs K f1 f2 f3 f4 v5 w))))
def vc_L_law (L : Nat) (xs : Nat → Int32) (w : sj_W) : Prop := ∀ q1 : Nat, q1 ≠ 0 → sj_T w q1 = 0 → ∀ w2 : sj_W, w2 = sj_nw w q1 5 0 → vc_X6_init q1 w2 (fun w7 => ∀ q9 : Nat, q9 ≠ 0 → sj_T w7 q9 = 0 → ∀ w10 : sj_W, w10 = sj_nw w7 q9 6 0 → vc_X7_init q9 w10 (fun w15 => ∀ q17 : Nat, q17 ≠ 0 → sj_T w15 q17 = 0 → ∀ w18 : sj_W, w18 = sj_nw w15 q17 8 1 → ∀ q22 : Nat, q22 ≠ 0 → sj_T w18 q22 = 0 → ∀ w23 : sj_W, w23 = sj_nw w18 q22 9 1 → sj_lp1 (vb_L_law_28 L xs q1 q9 q17 q22 (fun w_28 => True)) 600 0 w23))
set_option maxHeartbeats 4000000 in
set_option maxRecDepth 100000 in
theorem wq_L_law_0 {p : Program} {l : Launch} {e : Env} {s : State} {m : MethodId} {below : List Frame} {meth : Method} {c : Code} {G : sj_G} {L : Nat} {xs : Nat → Int32} {b : Nat} {f1 : Nat} {f2 : Nat} {f3 : Nat} {f4 : Nat} {n : Nat} {v5 : Int32} {w : sj_W} {H : Heap} {locs : List Loc} {ls : Array Slot} {cells slots : Nat} {K : Int32 → sj_W → Prop} (hC : sj_C G p l s m #[Value.ref b] c code RL 9) (hr : meth.sig.returnType = ret) (hk : meth.locks = false) (hX : va_X b L xs s s.heap) (hbl : b < s.heap.size) (hG : G.2.2 = s.heap.size) (hcc : cells + (n + 1) * 242 ≤ 145346) (hcs : slots + (n + 1) * 4193 ≤ 2519522) (hl : lv_has ls 9 [(0, .ref b), (1, .ref f1), (2, .ref f2), (3, .ref f3), (4, .ref f4), (5, .int v5)]) (hH : sj_H G s w H locs) (hc : ((xs v5.toNatClampNeg) &&& 63) = 0) (ih : ∀ (v5 : Int32) (w : sj_W) (H : Heap) (locs : List Loc) (ls : Array Slot) (cells slots : Nat), cells + n * 242 ≤ 145346 → slots + n * 4193 ≤ 2519522 → lv_has ls 9 [(0, .ref b), (1, .ref f1), (2, .ref f2), (3, .ref f3), (4, .ref f4), (5, .int v5)] → sj_H G s w H locs → K v5 w → W p l e room_1 s m #[Value.ref b] below meth c H locs cells slots (lw_Z below #[Value.ref b] s) (F0 m 28 ls [])) (hv30 : vd_L_law_0 L xs K f1 f2 f3 f4 v5 w) : W p l e room_1 s m #[Value.ref b] below meth c H locs cells slots (lw_Z below #[Value.ref b] s) (F0 m 45 ls [.int ((xs v5.toNatClampNeg) &&& 63)]) := by
  have hx := hC.1
  have hb := hC.2.1
  have hbA : ¬ sj_F G b := by unfold sj_F; omega
  have hc1 := sj_rmc
  have hc2 := sj_rms
  refine lv_tableIn (off := 151) (tgt := 196) hx hb dL_law_45 (by rw [hc]; decide) (by rw [hc]; decide) (by rw [hc]; rfl) (by decide) ?_
  refine lv_aload_n hx hb dL_law_196 rfl (lv_at hl 1 rfl) ?_
  refine lv_aload_n hx hb dL_law_197 rfl (lv_at hl 0 rfl) ?_
  refine lv_iload hx hb dL_law_198 (lv_at hl 5 rfl) ?_
  refine lv_iconst (v := 1) hx hb dL_law_200 (by decide) ?_
  refine lv_iadd hx hb dL_law_201 ?_
  refine va_sld hx hb hX hbl hbA hH.2 hv30.1 dL_law_202 ?_
  refine lv_i2c hx hb dL_law_203 rfl ?_
  refine lv_aload_n hx hb dL_law_204 rfl (lv_at hl 0 rfl) ?_
  refine lv_iload hx hb dL_law_205 (lv_at hl 5 rfl) ?_
  refine lv_iconst (v := 2) hx hb dL_law_207 (by decide) ?_
  refine lv_iadd hx hb dL_law_208 ?_
  refine va_sld hx hb hX hbl hbA hH.2 hv30.2.1 dL_law_209 ?_
  refine lv_aload_n hx hb dL_law_210 rfl (lv_at hl 0 rfl) ?_
  refine lv_iload hx hb dL_law_211 (lv_at hl 5 rfl) ?_
  refine lv_iconst (v := 3) hx hb dL_law_213 (by decide) ?_
  refine lv_iadd hx hb dL_law_214 ?_
  refine va_sld hx hb hX hbl hbA hH.2 hv30.2.2.1 dL_law_215 ?_
  refine lv_i2l hx hb dL_law_216 rfl ?_
  refine lv_bipush (v := 32) hx hb dL_law_217 (by decide) ?_
  refine lv_lshl hx hb dL_law_219 rfl ?_
  refine lv_aload_n hx hb dL_law_220 rfl (lv_at hl 0 rfl) ?_
  refine lv_iload hx hb dL_law_221 (lv_at hl 5 rfl) ?_
  refine lv_iconst (v := 4) hx hb dL_law_223 (by decide) ?_
  refine lv_iadd hx hb dL_law_224 ?_
  refine va_sld hx hb hX hbl hbA hH.2 hv30.2.2.2.1 dL_law_225 ?_
  refine lv_i2l hx hb dL_law_226 rfl ?_
  refine lv_ldc2 (v := 4294967295) hx hb hC.2.2.2.1 (hC.2.2.2.2.1 _ mb_995) dL_law_227 ?_
  refine lv_land hx hb dL_law_230 ?_
  refine lv_lor hx hb dL_law_231 ?_
  refine lv_aload_n hx hb dL_law_232 rfl (lv_at hl 3 rfl) ?_
  refine cg_L_140 hC hH hv30.2.2.2.2 ⟨Nat.le_of_ble_eq_true rfl, Nat.le_of_ble_eq_true rfl⟩ ⟨(by have hc1 := sj_rmc; omega), (by have hc1 := sj_rms; omega)⟩ hl.1 (Nat.le_of_ble_eq_true rfl) dL_law_233 (fun r31 w32 H locs hH hv33 => ?_)
  refine lv_istore (lv' := [(6, .int r31), (0, .ref b), (1, .ref f1), (2, .ref f2), (3, .ref f3), (4, .ref f4), (5, .int v5)]) hx hb dL_law_236 hl (by decide) rfl (fun ls hl => ?_)
  refine lv_aload_n hx hb dL_law_238 rfl (lv_at hl 3 rfl) ?_
  refine lv_aload_n hx hb dL_law_239 rfl (lv_at hl 1 rfl) ?_
  refine lv_iload hx hb dL_law_240 (lv_at hl 6 rfl) ?_
  refine lv_iconst (v := 1) hx hb dL_law_242 (by decide) ?_
  refine lv_iadd hx hb dL_law_243 ?_
  refine va_sld hx hb hX hbl hbA hH.2 hv33.1 dL_law_244 ?_
  refine lv_i2c hx hb dL_law_245 rfl ?_
  refine lv_aload_n hx hb dL_law_246 rfl (lv_at hl 1 rfl) ?_
  refine lv_iload hx hb dL_law_247 (lv_at hl 6 rfl) ?_
  refine lv_iconst (v := 2) hx hb dL_law_249 (by decide) ?_
  refine lv_iadd hx hb dL_law_250 ?_
  refine va_sld hx hb hX hbl hbA hH.2 hv33.2.1 dL_law_251 ?_
  refine lv_aload_n hx hb dL_law_252 rfl (lv_at hl 1 rfl) ?_
  refine lv_iload hx hb dL_law_253 (lv_at hl 6 rfl) ?_
  refine lv_iconst (v := 3) hx hb dL_law_255 (by decide) ?_
  refine lv_iadd hx hb dL_law_256 ?_
  refine va_sld hx hb hX hbl hbA hH.2 hv33.2.2.1 dL_law_257 ?_
  refine lv_i2l hx hb dL_law_258 rfl ?_
  refine lv_bipush (v := 32) hx hb dL_law_259 (by decide) ?_
  refine lv_lshl hx hb dL_law_261 rfl ?_
  refine lv_aload_n hx hb dL_law_262 rfl (lv_at hl 1 rfl) ?_
  refine lv_iload hx hb dL_law_263 (lv_at hl 6 rfl) ?_
  refine lv_iconst (v := 4) hx hb dL_law_265 (by decide) ?_
  refine lv_iadd hx hb dL_law_266 ?_
  refine va_sld hx hb hX hbl hbA hH.2 hv33.2.2.2.1 dL_law_267 ?_
  refine lv_i2l hx hb dL_law_268 rfl ?_
  refine lv_ldc2 (v := 4294967295) hx hb hC.2.2.2.1 (hC.2.2.2.2.1 _ mb_995) dL_law_269 ?_
  refine lv_land hx hb dL_law_272 ?_
  refine lv_lor hx hb dL_law_273 ?_
  refine cg_L_145 hC hH hv33.2.2.2.2.2 hv33.2.2.2.2.1 ⟨Nat.le_of_ble_eq_true rfl, Nat.le_of_ble_eq_true rfl⟩ ⟨(by have hc1 := sj_rmc; omega), (by have hc1 := sj_rms; omega)⟩ hl.1 (Nat.le_of_ble_eq_true rfl) dL_law_274 (fun r34 w35 H locs hH hv36 => ?_)
  refine lv_istore (lv' := [(7, .int r34), (6, .int r31), (0, .ref b), (1, .ref f1), (2, .ref f2), (3, .ref f3), (4, .ref f4), (5, .int v5)]) hx hb dL_law_277 hl (by decide) rfl (fun ls hl => ?_)
  refine lv_aload_n hx hb dL_law_279 rfl (lv_at hl 4 rfl) ?_
  refine cg_L_146 hC hH hv36.2 hv36.1 ⟨Nat.le_of_ble_eq_true rfl, Nat.le_of_ble_eq_true rfl⟩ ⟨(by have hc1 := sj_rmc; omega), (by have hc1 := sj_rms; omega)⟩ hl.1 (Nat.le_of_ble_eq_true rfl) dL_law_280 (fun r37 w38 H locs hH hv39 => ?_)
  refine lv_iload hx hb dL_law_283 (lv_at hl 1 rfl) ?_
  refine lv_icmp_eq (tgt := 290) hx hb dL_law_285 (by decide) (fun hc => ?_) (fun hc => ?_)
  · have hv40 := hv39.1 hc
    refine lv_iload hx hb dL_law_290 (lv_at hl 1 rfl) ?_
    refine lv_if_ne (tgt := 307) hx hb dL_law_292 (by decide) (fun hc => ?_) (fun hc => ?_)
    · have hv41 := hv40.1 hc
      refine lv_goto (tgt := 3021) hx hb dL_law_307 (by decide) ?_
      refine lv_iinc (v := (v5 + 6)) (lv' := [(5, .int (v5 + 6)), (7, .int r34), (6, .int r31), (0, .ref b), (1, .ref f1), (2, .ref f2), (3, .ref f3), (4, .ref f4)]) hx hb dL_law_3021 hl (k := 7) rfl rfl (by decide) rfl (fun ls hl => ?_)
      refine lv_goto (tgt := 28) hx hb dL_law_3024 (by decide) ?_
      refine W.widen (k := cells + 242) (n := slots + 4193) (by omega) (by omega) ?_
      exact ih (v5 + 6) w38 _ _ _ _ _ (by omega) (by omega) (lv_sub hl [3, 4, 5, 6, 7, 0] rfl) hH hv41
    · have hv42 := hv40.2 hc
      refine lv_aload_n hx hb dL_law_295 rfl (lv_at hl 5 rfl) ?_
      refine lv_iconst (v := 0) hx hb dL_law_296 (by decide) ?_
      refine sj_lald hC hH hv42.1 hv42.2.1 dL_law_297 ?_
      refine lv_iload hx hb dL_law_298 (lv_at hl 0 rfl) ?_
      refine lv_i2l hx hb dL_law_300 rfl ?_
      refine W.lcmp hx hb dL_law_301 ?_
      refine lv_if_eq (tgt := 307) hx hb dL_law_302 (by decide) (fun hc => ?_) (fun hc => ?_)
      · have hv43 := hv42.2.2.1 hc
        refine lv_goto (tgt := 3021) hx hb dL_law_307 (by decide) ?_
        refine lv_iinc (v := (v5 + 6)) (lv' := [(5, .int (v5 + 6)), (7, .int r34), (6, .int r31), (0, .ref b), (1, .ref f1), (2, .ref f2), (3, .ref f3), (4, .ref f4)]) hx hb dL_law_3021 hl (k := 7) rfl rfl (by decide) rfl (fun ls hl => ?_)
        refine lv_goto (tgt := 28) hx hb dL_law_3024 (by decide) ?_
        refine W.widen (k := cells + 242) (n := slots + 4193) (by omega) (by omega) ?_
        exact ih (v5 + 6) w38 _ _ _ _ _ (by omega) (by omega) (lv_sub hl [3, 4, 5, 6, 7, 0] rfl) hH hv43
      · have hv44 := hv42.2.2.2 hc
        refine lv_iconst (v := 0) hx hb dL_law_305 (by decide) ?_
        exact hv44.elim
  · have hv45 := hv39.2 hc
    refine lv_iconst (v := 0) hx hb dL_law_288 (by decide) ?_
    exact hv45.elim
set_option maxHeartbeats 4000000 in
set_option maxRecDepth 100000 in
theorem wq_L_law_1 {p : Program} {l : Launch} {e : Env} {s : State} {m : MethodId} {below : List Frame} {meth : Method} {c : Code} {G : sj_G} {L : Nat} {xs : Nat → Int32} {b : Nat} {f1 : Nat} {f2 : Nat} {f3 : Nat} {f4 : Nat} {n : Nat} {v5 : Int32} {w : sj_W} {H : Heap} {locs : List Loc} {ls : Array Slot} {cells slots : Nat} {K : Int32 → sj_W → Prop} (hC : sj_C G p l s m #[Value.ref b] c code RL 9) (hr : meth.sig.returnType = ret) (hk : meth.locks = false) (hX : va_X b L xs s s.heap) (hbl : b < s.heap.size) (hG : G.2.2 = s.heap.size) (hcc : cells + (n + 1) * 242 ≤ 145346) (hcs : slots + (n + 1) * 4193 ≤ 2519522) (hl : lv_has ls 9 [(0, .ref b), (1, .ref f1), (2, .ref f2), (3, .ref f3), (4, .ref f4), (5, .int v5)]) (hH : sj_H G s w H locs) (hc : ((xs v5.toNatClampNeg) &&& 63) = 1) (ih : ∀ (v5 : Int32) (w : sj_W) (H : Heap) (locs : List Loc) (ls : Array Slot) (cells slots : Nat), cells + n * 242 ≤ 145346 → slots + n * 4193 ≤ 2519522 → lv_has ls 9 [(0, .ref b), (1, .ref f1), (2, .ref f2), (3, .ref f3), (4, .ref f4), (5, .int v5)] → sj_H G s w H locs → K v5 w → W p l e room_1 s m #[Value.ref b] below meth c H locs cells slots (lw_Z below #[Value.ref b] s) (F0 m 28 ls [])) (hv46 : vd_L_law_1 L xs K f1 f2 f3 f4 v5 w) : W p l e room_1 s m #[Value.ref b] below meth c H locs cells slots (lw_Z below #[Value.ref b] s) (F0 m 45 ls [.int ((xs v5.toNatClampNeg) &&& 63)]) := by
  have hx := hC.1
  have hb := hC.2.1
  have hbA : ¬ sj_F G b := by unfold sj_F; omega
  have hc1 := sj_rmc
  have hc2 := sj_rms
  refine lv_tableIn (off := 265) (tgt := 310) hx hb dL_law_45 (by rw [hc]; decide) (by rw [hc]; decide) (by rw [hc]; rfl) (by decide) ?_
  refine lv_aload_n hx hb dL_law_310 rfl (lv_at hl 1 rfl) ?_
  refine lv_aload_n hx hb dL_law_311 rfl (lv_at hl 0 rfl) ?_
  refine lv_iload hx hb dL_law_312 (lv_at hl 5 rfl) ?_
  refine lv_iconst (v := 1) hx hb dL_law_314 (by decide) ?_
  refine lv_iadd hx hb dL_law_315 ?_
  refine va_sld hx hb hX hbl hbA hH.2 hv46.1 dL_law_316 ?_
  refine lv_i2c hx hb dL_law_317 rfl ?_
  refine lv_aload_n hx hb dL_law_318 rfl (lv_at hl 0 rfl) ?_
  refine lv_iload hx hb dL_law_319 (lv_at hl 5 rfl) ?_
  refine lv_iconst (v := 2) hx hb dL_law_321 (by decide) ?_
  refine lv_iadd hx hb dL_law_322 ?_
  refine va_sld hx hb hX hbl hbA hH.2 hv46.2.1 dL_law_323 ?_
  refine lv_aload_n hx hb dL_law_324 rfl (lv_at hl 0 rfl) ?_
  refine lv_iload hx hb dL_law_325 (lv_at hl 5 rfl) ?_
  refine lv_iconst (v := 3) hx hb dL_law_327 (by decide) ?_
  refine lv_iadd hx hb dL_law_328 ?_
  refine va_sld hx hb hX hbl hbA hH.2 hv46.2.2.1 dL_law_329 ?_
  refine lv_aload_n hx hb dL_law_330 rfl (lv_at hl 0 rfl) ?_
  refine lv_iload hx hb dL_law_331 (lv_at hl 5 rfl) ?_
  refine lv_iconst (v := 4) hx hb dL_law_333 (by decide) ?_
  refine lv_iadd hx hb dL_law_334 ?_
  refine va_sld hx hb hX hbl hbA hH.2 hv46.2.2.2.1 dL_law_335 ?_
  refine lv_i2l hx hb dL_law_336 rfl ?_
  refine lv_bipush (v := 32) hx hb dL_law_337 (by decide) ?_
  refine lv_lshl hx hb dL_law_339 rfl ?_
  refine lv_aload_n hx hb dL_law_340 rfl (lv_at hl 0 rfl) ?_
  refine lv_iload hx hb dL_law_341 (lv_at hl 5 rfl) ?_
  refine lv_iconst (v := 5) hx hb dL_law_343 (by decide) ?_
  refine lv_iadd hx hb dL_law_344 ?_
  refine va_sld hx hb hX hbl hbA hH.2 hv46.2.2.2.2.1 dL_law_345 ?_
  refine lv_i2l hx hb dL_law_346 rfl ?_
  refine lv_ldc2 (v := 4294967295) hx hb hC.2.2.2.1 (hC.2.2.2.2.1 _ mb_995) dL_law_347 ?_
  refine lv_land hx hb dL_law_350 ?_
  refine lv_lor hx hb dL_law_351 ?_
  refine lv_aload_n hx hb dL_law_352 rfl (lv_at hl 3 rfl) ?_
  refine cg_L_150 hC hH hv46.2.2.2.2.2 ⟨Nat.le_of_ble_eq_true rfl, Nat.le_of_ble_eq_true rfl⟩ ⟨(by have hc1 := sj_rmc; omega), (by have hc1 := sj_rms; omega)⟩ hl.1 (Nat.le_of_ble_eq_true rfl) dL_law_353 (fun r47 w48 H locs hH hv49 => ?_)
  refine lv_istore (lv' := [(6, .int r47), (0, .ref b), (1, .ref f1), (2, .ref f2), (3, .ref f3), (4, .ref f4), (5, .int v5)]) hx hb dL_law_356 hl (by decide) rfl (fun ls hl => ?_)
  refine lv_aload_n hx hb dL_law_358 rfl (lv_at hl 3 rfl) ?_
  refine lv_aload_n hx hb dL_law_359 rfl (lv_at hl 1 rfl) ?_
  refine lv_iload hx hb dL_law_360 (lv_at hl 6 rfl) ?_
  refine lv_iconst (v := 1) hx hb dL_law_362 (by decide) ?_
  refine lv_iadd hx hb dL_law_363 ?_
  refine va_sld hx hb hX hbl hbA hH.2 hv49.1 dL_law_364 ?_
  refine lv_i2c hx hb dL_law_365 rfl ?_
  refine lv_aload_n hx hb dL_law_366 rfl (lv_at hl 1 rfl) ?_
  refine lv_iload hx hb dL_law_367 (lv_at hl 6 rfl) ?_
  refine lv_iconst (v := 2) hx hb dL_law_369 (by decide) ?_
  refine lv_iadd hx hb dL_law_370 ?_
  refine va_sld hx hb hX hbl hbA hH.2 hv49.2.1 dL_law_371 ?_
  refine lv_aload_n hx hb dL_law_372 rfl (lv_at hl 1 rfl) ?_
  refine lv_iload hx hb dL_law_373 (lv_at hl 6 rfl) ?_
  refine lv_iconst (v := 3) hx hb dL_law_375 (by decide) ?_
  refine lv_iadd hx hb dL_law_376 ?_
  refine va_sld hx hb hX hbl hbA hH.2 hv49.2.2.1 dL_law_377 ?_
  refine lv_aload_n hx hb dL_law_378 rfl (lv_at hl 1 rfl) ?_
  refine lv_iload hx hb dL_law_379 (lv_at hl 6 rfl) ?_
  refine lv_iconst (v := 4) hx hb dL_law_381 (by decide) ?_
  refine lv_iadd hx hb dL_law_382 ?_
  refine va_sld hx hb hX hbl hbA hH.2 hv49.2.2.2.1 dL_law_383 ?_
  refine lv_i2l hx hb dL_law_384 rfl ?_
  refine lv_bipush (v := 32) hx hb dL_law_385 (by decide) ?_
  refine lv_lshl hx hb dL_law_387 rfl ?_
  refine lv_aload_n hx hb dL_law_388 rfl (lv_at hl 1 rfl) ?_
  refine lv_iload hx hb dL_law_389 (lv_at hl 6 rfl) ?_
  refine lv_iconst (v := 5) hx hb dL_law_391 (by decide) ?_
  refine lv_iadd hx hb dL_law_392 ?_
  refine va_sld hx hb hX hbl hbA hH.2 hv49.2.2.2.2.1 dL_law_393 ?_
  refine lv_i2l hx hb dL_law_394 rfl ?_
  refine lv_ldc2 (v := 4294967295) hx hb hC.2.2.2.1 (hC.2.2.2.2.1 _ mb_995) dL_law_395 ?_
  refine lv_land hx hb dL_law_398 ?_
  refine lv_lor hx hb dL_law_399 ?_
  refine cg_L_153 hC hH hv49.2.2.2.2.2.2 hv49.2.2.2.2.2.1 ⟨Nat.le_of_ble_eq_true rfl, Nat.le_of_ble_eq_true rfl⟩ ⟨(by have hc1 := sj_rmc; omega), (by have hc1 := sj_rms; omega)⟩ hl.1 (Nat.le_of_ble_eq_true rfl) dL_law_400 (fun r50 w51 H locs hH hv52 => ?_)
  refine lv_lstore (lv' := [(7, .long r50), (6, .int r47), (0, .ref b), (1, .ref f1), (2, .ref f2), (3, .ref f3), (4, .ref f4), (5, .int v5)]) hx hb dL_law_403 hl (by decide) rfl (fun ls hl => ?_)
  refine lv_aload_n hx hb dL_law_405 rfl (lv_at hl 4 rfl) ?_
  refine cg_L_146 hC hH hv52.2 hv52.1 ⟨Nat.le_of_ble_eq_true rfl, Nat.le_of_ble_eq_true rfl⟩ ⟨(by have hc1 := sj_rmc; omega), (by have hc1 := sj_rms; omega)⟩ hl.1 (Nat.le_of_ble_eq_true rfl) dL_law_406 (fun r53 w54 H locs hH hv55 => ?_)
  refine lv_iload hx hb dL_law_409 (lv_at hl 1 rfl) ?_
  refine lv_icmp_eq (tgt := 416) hx hb dL_law_411 (by decide) (fun hc => ?_) (fun hc => ?_)
  · have hv56 := hv55.1 hc
    refine lv_iload hx hb dL_law_416 (lv_at hl 1 rfl) ?_
    refine lv_if_ne (tgt := 432) hx hb dL_law_418 (by decide) (fun hc => ?_) (fun hc => ?_)
    · have hv57 := hv56.1 hc
      refine lv_goto (tgt := 3021) hx hb dL_law_432 (by decide) ?_
      refine lv_iinc (v := (v5 + 6)) (lv' := [(5, .int (v5 + 6)), (7, .long r50), (6, .int r47), (0, .ref b), (1, .ref f1), (2, .ref f2), (3, .ref f3), (4, .ref f4)]) hx hb dL_law_3021 hl (k := 7) rfl rfl (by decide) rfl (fun ls hl => ?_)
      refine lv_goto (tgt := 28) hx hb dL_law_3024 (by decide) ?_
      refine W.widen (k := cells + 242) (n := slots + 4193) (by omega) (by omega) ?_
      exact ih (v5 + 6) w54 _ _ _ _ _ (by omega) (by omega) (lv_sub hl [3, 4, 5, 6, 7, 0] rfl) hH hv57
    · have hv58 := hv56.2 hc
      refine lv_aload_n hx hb dL_law_421 rfl (lv_at hl 5 rfl) ?_
      refine lv_iconst (v := 0) hx hb dL_law_422 (by decide) ?_
      refine sj_lald hC hH hv58.1 hv58.2.1 dL_law_423 ?_
      refine lv_lload hx hb dL_law_424 (lv_at hl 0 rfl) ?_
      refine W.lcmp hx hb dL_law_426 ?_
      refine lv_if_eq (tgt := 432) hx hb dL_law_427 (by decide) (fun hc => ?_) (fun hc => ?_)
      · have hv59 := hv58.2.2.1 hc
        refine lv_goto (tgt := 3021) hx hb dL_law_432 (by decide) ?_
        refine lv_iinc (v := (v5 + 6)) (lv' := [(5, .int (v5 + 6)), (7, .long r50), (6, .int r47), (0, .ref b), (1, .ref f1), (2, .ref f2), (3, .ref f3), (4, .ref f4)]) hx hb dL_law_3021 hl (k := 7) rfl rfl (by decide) rfl (fun ls hl => ?_)
        refine lv_goto (tgt := 28) hx hb dL_law_3024 (by decide) ?_
        refine W.widen (k := cells + 242) (n := slots + 4193) (by omega) (by omega) ?_
        exact ih (v5 + 6) w54 _ _ _ _ _ (by omega) (by omega) (lv_sub hl [3, 4, 5, 6, 7, 0] rfl) hH hv59
      · have hv60 := hv58.2.2.2 hc
        refine lv_iconst (v := 0) hx hb dL_law_430 (by decide) ?_
        exact hv60.elim
  · have hv61 := hv55.2 hc
    refine lv_iconst (v := 0) hx hb dL_law_414 (by decide) ?_
    exact hv61.elim
set_option maxHeartbeats 4000000 in
set_option maxRecDepth 100000 in
theorem wq_L_law_2 {p : Program} {l : Launch} {e : Env} {s : State} {m : MethodId} {below : List Frame} {meth : Method} {c : Code} {G : sj_G} {L : Nat} {xs : Nat → Int32} {b : Nat} {f1 : Nat} {f2 : Nat} {f3 : Nat} {f4 : Nat} {n : Nat} {v5 : Int32} {w : sj_W} {H : Heap} {locs : List Loc} {ls : Array Slot} {cells slots : Nat} {K : Int32 → sj_W → Prop} (hC : sj_C G p l s m #[Value.ref b] c code RL 9) (hr : meth.sig.returnType = ret) (hk : meth.locks = false) (hX : va_X b L xs s s.heap) (hbl : b < s.heap.size) (hG : G.2.2 = s.heap.size) (hcc : cells + (n + 1) * 242 ≤ 145346) (hcs : slots + (n + 1) * 4193 ≤ 2519522) (hl : lv_has ls 9 [(0, .ref b), (1, .ref f1), (2, .ref f2), (3, .ref f3), (4, .ref f4), (5, .int v5)]) (hH : sj_H G s w H locs) (hc : ((xs v5.toNatClampNeg) &&& 63) = 2) (ih : ∀ (v5 : Int32) (w : sj_W) (H : Heap) (locs : List Loc) (ls : Array Slot) (cells slots : Nat), cells + n * 242 ≤ 145346 → slots + n * 4193 ≤ 2519522 → lv_has ls 9 [(0, .ref b), (1, .ref f1), (2, .ref f2), (3, .ref f3), (4, .ref f4), (5, .int v5)] → sj_H G s w H locs → K v5 w → W p l e room_1 s m #[Value.ref b] below meth c H locs cells slots (lw_Z below #[Value.ref b] s) (F0 m 28 ls [])) (hv62 : vd_L_law_2 L xs K f1 f2 f3 f4 v5 w) : W p l e room_1 s m #[Value.ref b] below meth c H locs cells slots (lw_Z below #[Value.ref b] s) (F0 m 45 ls [.int ((xs v5.toNatClampNeg) &&& 63)]) := by
  have hx := hC.1
  have hb := hC.2.1
  have hbA : ¬ sj_F G b := by unfold sj_F; omega
  have hc1 := sj_rmc
  have hc2 := sj_rms
  refine lv_tableIn (off := 390) (tgt := 435) hx hb dL_law_45 (by rw [hc]; decide) (by rw [hc]; decide) (by rw [hc]; rfl) (by decide) ?_
  refine lv_aload_n hx hb dL_law_435 rfl (lv_at hl 1 rfl) ?_
  refine lv_aload_n hx hb dL_law_436 rfl (lv_at hl 0 rfl) ?_
  refine lv_iload hx hb dL_law_437 (lv_at hl 5 rfl) ?_
  refine lv_iconst (v := 1) hx hb dL_law_439 (by decide) ?_
  refine lv_iadd hx hb dL_law_440 ?_
  refine va_sld hx hb hX hbl hbA hH.2 hv62.1 dL_law_441 ?_
  refine lv_i2c hx hb dL_law_442 rfl ?_
  refine lv_aload_n hx hb dL_law_443 rfl (lv_at hl 0 rfl) ?_
  refine lv_iload hx hb dL_law_444 (lv_at hl 5 rfl) ?_
  refine lv_iconst (v := 2) hx hb dL_law_446 (by decide) ?_
  refine lv_iadd hx hb dL_law_447 ?_
  refine va_sld hx hb hX hbl hbA hH.2 hv62.2.1 dL_law_448 ?_
  refine lv_aload_n hx hb dL_law_449 rfl (lv_at hl 0 rfl) ?_
  refine lv_iload hx hb dL_law_450 (lv_at hl 5 rfl) ?_
  refine lv_iconst (v := 3) hx hb dL_law_452 (by decide) ?_
  refine lv_iadd hx hb dL_law_453 ?_
  refine va_sld hx hb hX hbl hbA hH.2 hv62.2.2.1 dL_law_454 ?_
  refine lv_aload_n hx hb dL_law_455 rfl (lv_at hl 3 rfl) ?_
  refine cg_L_154 hC hH hv62.2.2.2 ⟨Nat.le_of_ble_eq_true rfl, Nat.le_of_ble_eq_true rfl⟩ ⟨(by have hc1 := sj_rmc; omega), (by have hc1 := sj_rms; omega)⟩ hl.1 (Nat.le_of_ble_eq_true rfl) dL_law_456 (fun r63 w64 H locs hH hv65 => ?_)
  refine lv_istore (lv' := [(6, .int r63), (0, .ref b), (1, .ref f1), (2, .ref f2), (3, .ref f3), (4, .ref f4), (5, .int v5)]) hx hb dL_law_459 hl (by decide) rfl (fun ls hl => ?_)
  refine lv_aload_n hx hb dL_law_461 rfl (lv_at hl 3 rfl) ?_
  refine lv_aload_n hx hb dL_law_462 rfl (lv_at hl 1 rfl) ?_
  refine lv_iload hx hb dL_law_463 (lv_at hl 6 rfl) ?_
  refine lv_iconst (v := 1) hx hb dL_law_465 (by decide) ?_
  refine lv_iadd hx hb dL_law_466 ?_
  refine va_sld hx hb hX hbl hbA hH.2 hv65.1 dL_law_467 ?_
  refine lv_i2c hx hb dL_law_468 rfl ?_
  refine lv_aload_n hx hb dL_law_469 rfl (lv_at hl 1 rfl) ?_
  refine lv_iload hx hb dL_law_470 (lv_at hl 6 rfl) ?_
  refine lv_iconst (v := 2) hx hb dL_law_472 (by decide) ?_
  refine lv_iadd hx hb dL_law_473 ?_
  refine va_sld hx hb hX hbl hbA hH.2 hv65.2.1 dL_law_474 ?_
  refine lv_aload_n hx hb dL_law_475 rfl (lv_at hl 1 rfl) ?_
  refine lv_iload hx hb dL_law_476 (lv_at hl 6 rfl) ?_
  refine lv_iconst (v := 3) hx hb dL_law_478 (by decide) ?_
  refine lv_iadd hx hb dL_law_479 ?_
  refine va_sld hx hb hX hbl hbA hH.2 hv65.2.2.1 dL_law_480 ?_
  refine cg_L_157 hC hH hv65.2.2.2.2 hv65.2.2.2.1 ⟨Nat.le_of_ble_eq_true rfl, Nat.le_of_ble_eq_true rfl⟩ ⟨(by have hc1 := sj_rmc; omega), (by have hc1 := sj_rms; omega)⟩ hl.1 (Nat.le_of_ble_eq_true rfl) dL_law_481 (fun r66 w67 H locs hH hv68 => ?_)
  refine lv_lstore (lv' := [(7, .long r66), (6, .int r63), (0, .ref b), (1, .ref f1), (2, .ref f2), (3, .ref f3), (4, .ref f4), (5, .int v5)]) hx hb dL_law_484 hl (by decide) rfl (fun ls hl => ?_)
  refine lv_aload_n hx hb dL_law_486 rfl (lv_at hl 4 rfl) ?_
  refine cg_L_146 hC hH hv68.2 hv68.1 ⟨Nat.le_of_ble_eq_true rfl, Nat.le_of_ble_eq_true rfl⟩ ⟨(by have hc1 := sj_rmc; omega), (by have hc1 := sj_rms; omega)⟩ hl.1 (Nat.le_of_ble_eq_true rfl) dL_law_487 (fun r69 w70 H locs hH hv71 => ?_)
  refine lv_iload hx hb dL_law_490 (lv_at hl 1 rfl) ?_
  refine lv_icmp_eq (tgt := 497) hx hb dL_law_492 (by decide) (fun hc => ?_) (fun hc => ?_)
  · have hv72 := hv71.1 hc
    refine lv_iload hx hb dL_law_497 (lv_at hl 1 rfl) ?_
    refine lv_if_ne (tgt := 513) hx hb dL_law_499 (by decide) (fun hc => ?_) (fun hc => ?_)
    · have hv73 := hv72.1 hc
      refine lv_goto (tgt := 3021) hx hb dL_law_513 (by decide) ?_
      refine lv_iinc (v := (v5 + 6)) (lv' := [(5, .int (v5 + 6)), (7, .long r66), (6, .int r63), (0, .ref b), (1, .ref f1), (2, .ref f2), (3, .ref f3), (4, .ref f4)]) hx hb dL_law_3021 hl (k := 7) rfl rfl (by decide) rfl (fun ls hl => ?_)
      refine lv_goto (tgt := 28) hx hb dL_law_3024 (by decide) ?_
      refine W.widen (k := cells + 242) (n := slots + 4193) (by omega) (by omega) ?_
      exact ih (v5 + 6) w70 _ _ _ _ _ (by omega) (by omega) (lv_sub hl [3, 4, 5, 6, 7, 0] rfl) hH hv73
    · have hv74 := hv72.2 hc
      refine lv_aload_n hx hb dL_law_502 rfl (lv_at hl 5 rfl) ?_
      refine lv_iconst (v := 0) hx hb dL_law_503 (by decide) ?_
      refine sj_lald hC hH hv74.1 hv74.2.1 dL_law_504 ?_
      refine lv_lload hx hb dL_law_505 (lv_at hl 0 rfl) ?_
      refine W.lcmp hx hb dL_law_507 ?_
      refine lv_if_eq (tgt := 513) hx hb dL_law_508 (by decide) (fun hc => ?_) (fun hc => ?_)
      · have hv75 := hv74.2.2.1 hc
        refine lv_goto (tgt := 3021) hx hb dL_law_513 (by decide) ?_
        refine lv_iinc (v := (v5 + 6)) (lv' := [(5, .int (v5 + 6)), (7, .long r66), (6, .int r63), (0, .ref b), (1, .ref f1), (2, .ref f2), (3, .ref f3), (4, .ref f4)]) hx hb dL_law_3021 hl (k := 7) rfl rfl (by decide) rfl (fun ls hl => ?_)
        refine lv_goto (tgt := 28) hx hb dL_law_3024 (by decide) ?_
        refine W.widen (k := cells + 242) (n := slots + 4193) (by omega) (by omega) ?_
        exact ih (v5 + 6) w70 _ _ _ _ _ (by omega) (by omega) (lv_sub hl [3, 4, 5, 6, 7, 0] rfl) hH hv75
      · have hv76 := hv74.2.2.2 hc
        refine lv_iconst (v := 0) hx hb dL_law_511 (by decide) ?_
        exact hv76.elim
  · have hv77 := hv71.2 hc
    refine lv_iconst (v := 0) hx hb dL_law_495 (by decide) ?_
    exact hv77.elim
set_option maxHeartbeats 4000000 in
set_option maxRecDepth 100000 in
theorem wq_L_law_3 {p : Program} {l : Launch} {e : Env} {s : State} {m : MethodId} {below : List Frame} {meth : Method} {c : Code} {G : sj_G} {L : Nat} {xs : Nat → Int32} {b : Nat} {f1 : Nat} {f2 : Nat} {f3 : Nat} {f4 : Nat} {n : Nat} {v5 : Int32} {w : sj_W} {H : Heap} {locs : List Loc} {ls : Array Slot} {cells slots : Nat} {K : Int32 → sj_W → Prop} (hC : sj_C G p l s m #[Value.ref b] c code RL 9) (hr : meth.sig.returnType = ret) (hk : meth.locks = false) (hX : va_X b L xs s s.heap) (hbl : b < s.heap.size) (hG : G.2.2 = s.heap.size) (hcc : cells + (n + 1) * 242 ≤ 145346) (hcs : slots + (n + 1) * 4193 ≤ 2519522) (hl : lv_has ls 9 [(0, .ref b), (1, .ref f1), (2, .ref f2), (3, .ref f3), (4, .ref f4), (5, .int v5)]) (hH : sj_H G s w H locs) (hc : ((xs v5.toNatClampNeg) &&& 63) = 3) (ih : ∀ (v5 : Int32) (w : sj_W) (H : Heap) (locs : List Loc) (ls : Array Slot) (cells slots : Nat), cells + n * 242 ≤ 145346 → slots + n * 4193 ≤ 2519522 → lv_has ls 9 [(0, .ref b), (1, .ref f1), (2, .ref f2), (3, .ref f3), (4, .ref f4), (5, .int v5)] → sj_H G s w H locs → K v5 w → W p l e room_1 s m #[Value.ref b] below meth c H locs cells slots (lw_Z below #[Value.ref b] s) (F0 m 28 ls [])) (hv78 : vd_L_law_3 L xs K f1 f2 f3 f4 v5 w) : W p l e room_1 s m #[Value.ref b] below meth c H locs cells slots (lw_Z below #[Value.ref b] s) (F0 m 45 ls [.int ((xs v5.toNatClampNeg) &&& 63)]) := by
  have hx := hC.1
  have hb := hC.2.1
  have hbA : ¬ sj_F G b := by unfold sj_F; omega
  have hc1 := sj_rmc
  have hc2 := sj_rms
  refine lv_tableIn (off := 471) (tgt := 516) hx hb dL_law_45 (by rw [hc]; decide) (by rw [hc]; decide) (by rw [hc]; rfl) (by decide) ?_
  refine lv_aload_n hx hb dL_law_516 rfl (lv_at hl 1 rfl) ?_
  refine lv_aload_n hx hb dL_law_517 rfl (lv_at hl 0 rfl) ?_
  refine lv_iload hx hb dL_law_518 (lv_at hl 5 rfl) ?_
  refine lv_iconst (v := 1) hx hb dL_law_520 (by decide) ?_
  refine lv_iadd hx hb dL_law_521 ?_
  refine va_sld hx hb hX hbl hbA hH.2 hv78.1 dL_law_522 ?_
  refine lv_i2c hx hb dL_law_523 rfl ?_
  refine lv_aload_n hx hb dL_law_524 rfl (lv_at hl 0 rfl) ?_
  refine lv_iload hx hb dL_law_525 (lv_at hl 5 rfl) ?_
  refine lv_iconst (v := 2) hx hb dL_law_527 (by decide) ?_
  refine lv_iadd hx hb dL_law_528 ?_
  refine va_sld hx hb hX hbl hbA hH.2 hv78.2.1 dL_law_529 ?_
  refine lv_aload_n hx hb dL_law_530 rfl (lv_at hl 3 rfl) ?_
  refine cg_L_158 hC hH hv78.2.2 ⟨Nat.le_of_ble_eq_true rfl, Nat.le_of_ble_eq_true rfl⟩ ⟨(by have hc1 := sj_rmc; omega), (by have hc1 := sj_rms; omega)⟩ hl.1 (Nat.le_of_ble_eq_true rfl) dL_law_531 (fun r79 w80 H locs hH hv81 => ?_)
  refine lv_istore (lv' := [(6, .int r79), (0, .ref b), (1, .ref f1), (2, .ref f2), (3, .ref f3), (4, .ref f4), (5, .int v5)]) hx hb dL_law_534 hl (by decide) rfl (fun ls hl => ?_)
  refine lv_aload_n hx hb dL_law_536 rfl (lv_at hl 3 rfl) ?_
  refine lv_aload_n hx hb dL_law_537 rfl (lv_at hl 1 rfl) ?_
  refine lv_iload hx hb dL_law_538 (lv_at hl 6 rfl) ?_
  refine lv_iconst (v := 1) hx hb dL_law_540 (by decide) ?_
  refine lv_iadd hx hb dL_law_541 ?_
  refine va_sld hx hb hX hbl hbA hH.2 hv81.1 dL_law_542 ?_
  refine lv_i2c hx hb dL_law_543 rfl ?_
  refine lv_aload_n hx hb dL_law_544 rfl (lv_at hl 1 rfl) ?_
  refine lv_iload hx hb dL_law_545 (lv_at hl 6 rfl) ?_
  refine lv_iconst (v := 2) hx hb dL_law_547 (by decide) ?_
  refine lv_iadd hx hb dL_law_548 ?_
  refine va_sld hx hb hX hbl hbA hH.2 hv81.2.1 dL_law_549 ?_
  refine cg_L_161 hC hH hv81.2.2.2 hv81.2.2.1 ⟨Nat.le_of_ble_eq_true rfl, Nat.le_of_ble_eq_true rfl⟩ ⟨(by have hc1 := sj_rmc; omega), (by have hc1 := sj_rms; omega)⟩ hl.1 (Nat.le_of_ble_eq_true rfl) dL_law_550 (fun r82 w83 H locs hH hv84 => ?_)
  refine lv_istore (lv' := [(7, .int r82), (6, .int r79), (0, .ref b), (1, .ref f1), (2, .ref f2), (3, .ref f3), (4, .ref f4), (5, .int v5)]) hx hb dL_law_553 hl (by decide) rfl (fun ls hl => ?_)
  refine lv_aload_n hx hb dL_law_555 rfl (lv_at hl 4 rfl) ?_
  refine cg_L_146 hC hH hv84.2 hv84.1 ⟨Nat.le_of_ble_eq_true rfl, Nat.le_of_ble_eq_true rfl⟩ ⟨(by have hc1 := sj_rmc; omega), (by have hc1 := sj_rms; omega)⟩ hl.1 (Nat.le_of_ble_eq_true rfl) dL_law_556 (fun r85 w86 H locs hH hv87 => ?_)
  refine lv_iload hx hb dL_law_559 (lv_at hl 1 rfl) ?_
  refine lv_icmp_eq (tgt := 566) hx hb dL_law_561 (by decide) (fun hc => ?_) (fun hc => ?_)
  · have hv88 := hv87.1 hc
    refine lv_iload hx hb dL_law_566 (lv_at hl 1 rfl) ?_
    refine lv_if_ne (tgt := 583) hx hb dL_law_568 (by decide) (fun hc => ?_) (fun hc => ?_)
    · have hv89 := hv88.1 hc
      refine lv_goto (tgt := 3021) hx hb dL_law_583 (by decide) ?_
      refine lv_iinc (v := (v5 + 6)) (lv' := [(5, .int (v5 + 6)), (7, .int r82), (6, .int r79), (0, .ref b), (1, .ref f1), (2, .ref f2), (3, .ref f3), (4, .ref f4)]) hx hb dL_law_3021 hl (k := 7) rfl rfl (by decide) rfl (fun ls hl => ?_)
      refine lv_goto (tgt := 28) hx hb dL_law_3024 (by decide) ?_
      refine W.widen (k := cells + 242) (n := slots + 4193) (by omega) (by omega) ?_
      exact ih (v5 + 6) w86 _ _ _ _ _ (by omega) (by omega) (lv_sub hl [3, 4, 5, 6, 7, 0] rfl) hH hv89
    · have hv90 := hv88.2 hc
      refine lv_aload_n hx hb dL_law_571 rfl (lv_at hl 5 rfl) ?_
      refine lv_iconst (v := 0) hx hb dL_law_572 (by decide) ?_
      refine sj_lald hC hH hv90.1 hv90.2.1 dL_law_573 ?_
      refine lv_iload hx hb dL_law_574 (lv_at hl 0 rfl) ?_
      refine lv_i2l hx hb dL_law_576 rfl ?_
      refine W.lcmp hx hb dL_law_577 ?_
      refine lv_if_eq (tgt := 583) hx hb dL_law_578 (by decide) (fun hc => ?_) (fun hc => ?_)
      · have hv91 := hv90.2.2.1 hc
        refine lv_goto (tgt := 3021) hx hb dL_law_583 (by decide) ?_
        refine lv_iinc (v := (v5 + 6)) (lv' := [(5, .int (v5 + 6)), (7, .int r82), (6, .int r79), (0, .ref b), (1, .ref f1), (2, .ref f2), (3, .ref f3), (4, .ref f4)]) hx hb dL_law_3021 hl (k := 7) rfl rfl (by decide) rfl (fun ls hl => ?_)
        refine lv_goto (tgt := 28) hx hb dL_law_3024 (by decide) ?_
        refine W.widen (k := cells + 242) (n := slots + 4193) (by omega) (by omega) ?_
        exact ih (v5 + 6) w86 _ _ _ _ _ (by omega) (by omega) (lv_sub hl [3, 4, 5, 6, 7, 0] rfl) hH hv91
      · have hv92 := hv90.2.2.2 hc
        refine lv_iconst (v := 0) hx hb dL_law_581 (by decide) ?_
        exact hv92.elim
  · have hv93 := hv87.2 hc
    refine lv_iconst (v := 0) hx hb dL_law_564 (by decide) ?_
    exact hv93.elim
set_option maxHeartbeats 4000000 in
set_option maxRecDepth 100000 in
theorem wq_L_law_4 {p : Program} {l : Launch} {e : Env} {s : State} {m : MethodId} {below : List Frame} {meth : Method} {c : Code} {G : sj_G} {L : Nat} {xs : Nat → Int32} {b : Nat} {f1 : Nat} {f2 : Nat} {f3 : Nat} {f4 : Nat} {n : Nat} {v5 : Int32} {w : sj_W} {H : Heap} {locs : List Loc} {ls : Array Slot} {cells slots : Nat} {K : Int32 → sj_W → Prop} (hC : sj_C G p l s m #[Value.ref b] c code RL 9) (hr : meth.sig.returnType = ret) (hk : meth.locks = false) (hX : va_X b L xs s s.heap) (hbl : b < s.heap.size) (hG : G.2.2 = s.heap.size) (hcc : cells + (n + 1) * 242 ≤ 145346) (hcs : slots + (n + 1) * 4193 ≤ 2519522) (hl : lv_has ls 9 [(0, .ref b), (1, .ref f1), (2, .ref f2), (3, .ref f3), (4, .ref f4), (5, .int v5)]) (hH : sj_H G s w H locs) (hc : ((xs v5.toNatClampNeg) &&& 63) = 4) (ih : ∀ (v5 : Int32) (w : sj_W) (H : Heap) (locs : List Loc) (ls : Array Slot) (cells slots : Nat), cells + n * 242 ≤ 145346 → slots + n * 4193 ≤ 2519522 → lv_has ls 9 [(0, .ref b), (1, .ref f1), (2, .ref f2), (3, .ref f3), (4, .ref f4), (5, .int v5)] → sj_H G s w H locs → K v5 w → W p l e room_1 s m #[Value.ref b] below meth c H locs cells slots (lw_Z below #[Value.ref b] s) (F0 m 28 ls [])) (hv94 : vd_L_law_4 L xs K f1 f2 f3 f4 v5 w) : W p l e room_1 s m #[Value.ref b] below meth c H locs cells slots (lw_Z below #[Value.ref b] s) (F0 m 45 ls [.int ((xs v5.toNatClampNeg) &&& 63)]) := by
  have hx := hC.1
  have hb := hC.2.1
  have hbA : ¬ sj_F G b := by unfold sj_F; omega
  have hc1 := sj_rmc
  have hc2 := sj_rms
  refine lv_tableIn (off := 541) (tgt := 586) hx hb dL_law_45 (by rw [hc]; decide) (by rw [hc]; decide) (by rw [hc]; rfl) (by decide) ?_
  refine lv_aload_n hx hb dL_law_586 rfl (lv_at hl 1 rfl) ?_
  refine lv_aload_n hx hb dL_law_587 rfl (lv_at hl 0 rfl) ?_
  refine lv_iload hx hb dL_law_588 (lv_at hl 5 rfl) ?_
  refine lv_iconst (v := 1) hx hb dL_law_590 (by decide) ?_
  refine lv_iadd hx hb dL_law_591 ?_
  refine va_sld hx hb hX hbl hbA hH.2 hv94.1 dL_law_592 ?_
  refine lv_i2c hx hb dL_law_593 rfl ?_
  refine lv_aload_n hx hb dL_law_594 rfl (lv_at hl 0 rfl) ?_
  refine lv_iload hx hb dL_law_595 (lv_at hl 5 rfl) ?_
  refine lv_iconst (v := 2) hx hb dL_law_597 (by decide) ?_
  refine lv_iadd hx hb dL_law_598 ?_
  refine va_sld hx hb hX hbl hbA hH.2 hv94.2.1 dL_law_599 ?_
  refine lv_aload_n hx hb dL_law_600 rfl (lv_at hl 3 rfl) ?_
  refine cg_L_162 hC hH hv94.2.2 ⟨Nat.le_of_ble_eq_true rfl, Nat.le_of_ble_eq_true rfl⟩ ⟨(by have hc1 := sj_rmc; omega), (by have hc1 := sj_rms; omega)⟩ hl.1 (Nat.le_of_ble_eq_true rfl) dL_law_601 (fun r95 w96 H locs hH hv97 => ?_)
  refine lv_istore (lv' := [(6, .int r95), (0, .ref b), (1, .ref f1), (2, .ref f2), (3, .ref f3), (4, .ref f4), (5, .int v5)]) hx hb dL_law_604 hl (by decide) rfl (fun ls hl => ?_)
  refine lv_aload_n hx hb dL_law_606 rfl (lv_at hl 3 rfl) ?_
  refine lv_aload_n hx hb dL_law_607 rfl (lv_at hl 1 rfl) ?_
  refine lv_iload hx hb dL_law_608 (lv_at hl 6 rfl) ?_
  refine lv_iconst (v := 1) hx hb dL_law_610 (by decide) ?_
  refine lv_iadd hx hb dL_law_611 ?_
  refine va_sld hx hb hX hbl hbA hH.2 hv97.1 dL_law_612 ?_
  refine lv_i2c hx hb dL_law_613 rfl ?_
  refine lv_aload_n hx hb dL_law_614 rfl (lv_at hl 1 rfl) ?_
  refine lv_iload hx hb dL_law_615 (lv_at hl 6 rfl) ?_
  refine lv_iconst (v := 2) hx hb dL_law_617 (by decide) ?_
  refine lv_iadd hx hb dL_law_618 ?_
  refine va_sld hx hb hX hbl hbA hH.2 hv97.2.1 dL_law_619 ?_
  refine cg_L_164 hC hH hv97.2.2.2 hv97.2.2.1 ⟨Nat.le_of_ble_eq_true rfl, Nat.le_of_ble_eq_true rfl⟩ ⟨(by have hc1 := sj_rmc; omega), (by have hc1 := sj_rms; omega)⟩ hl.1 (Nat.le_of_ble_eq_true rfl) dL_law_620 (fun r98 w99 H locs hH hv100 => ?_)
  refine lv_istore (lv' := [(7, .int r98), (6, .int r95), (0, .ref b), (1, .ref f1), (2, .ref f2), (3, .ref f3), (4, .ref f4), (5, .int v5)]) hx hb dL_law_623 hl (by decide) rfl (fun ls hl => ?_)
  refine lv_aload_n hx hb dL_law_625 rfl (lv_at hl 4 rfl) ?_
  refine cg_L_146 hC hH hv100.2 hv100.1 ⟨Nat.le_of_ble_eq_true rfl, Nat.le_of_ble_eq_true rfl⟩ ⟨(by have hc1 := sj_rmc; omega), (by have hc1 := sj_rms; omega)⟩ hl.1 (Nat.le_of_ble_eq_true rfl) dL_law_626 (fun r101 w102 H locs hH hv103 => ?_)
  refine lv_iload hx hb dL_law_629 (lv_at hl 1 rfl) ?_
  refine lv_icmp_eq (tgt := 636) hx hb dL_law_631 (by decide) (fun hc => ?_) (fun hc => ?_)
  · have hv104 := hv103.1 hc
    refine lv_iload hx hb dL_law_636 (lv_at hl 1 rfl) ?_
    refine lv_if_ne (tgt := 653) hx hb dL_law_638 (by decide) (fun hc => ?_) (fun hc => ?_)
    · have hv105 := hv104.1 hc
      refine lv_goto (tgt := 3021) hx hb dL_law_653 (by decide) ?_
      refine lv_iinc (v := (v5 + 6)) (lv' := [(5, .int (v5 + 6)), (7, .int r98), (6, .int r95), (0, .ref b), (1, .ref f1), (2, .ref f2), (3, .ref f3), (4, .ref f4)]) hx hb dL_law_3021 hl (k := 7) rfl rfl (by decide) rfl (fun ls hl => ?_)
      refine lv_goto (tgt := 28) hx hb dL_law_3024 (by decide) ?_
      refine W.widen (k := cells + 242) (n := slots + 4193) (by omega) (by omega) ?_
      exact ih (v5 + 6) w102 _ _ _ _ _ (by omega) (by omega) (lv_sub hl [3, 4, 5, 6, 7, 0] rfl) hH hv105
    · have hv106 := hv104.2 hc
      refine lv_aload_n hx hb dL_law_641 rfl (lv_at hl 5 rfl) ?_
      refine lv_iconst (v := 0) hx hb dL_law_642 (by decide) ?_
      refine sj_lald hC hH hv106.1 hv106.2.1 dL_law_643 ?_
      refine lv_iload hx hb dL_law_644 (lv_at hl 0 rfl) ?_
      refine lv_i2l hx hb dL_law_646 rfl ?_
      refine W.lcmp hx hb dL_law_647 ?_
      refine lv_if_eq (tgt := 653) hx hb dL_law_648 (by decide) (fun hc => ?_) (fun hc => ?_)
      · have hv107 := hv106.2.2.1 hc
        refine lv_goto (tgt := 3021) hx hb dL_law_653 (by decide) ?_
        refine lv_iinc (v := (v5 + 6)) (lv' := [(5, .int (v5 + 6)), (7, .int r98), (6, .int r95), (0, .ref b), (1, .ref f1), (2, .ref f2), (3, .ref f3), (4, .ref f4)]) hx hb dL_law_3021 hl (k := 7) rfl rfl (by decide) rfl (fun ls hl => ?_)
        refine lv_goto (tgt := 28) hx hb dL_law_3024 (by decide) ?_
        refine W.widen (k := cells + 242) (n := slots + 4193) (by omega) (by omega) ?_
        exact ih (v5 + 6) w102 _ _ _ _ _ (by omega) (by omega) (lv_sub hl [3, 4, 5, 6, 7, 0] rfl) hH hv107
      · have hv108 := hv106.2.2.2 hc
        refine lv_iconst (v := 0) hx hb dL_law_651 (by decide) ?_
        exact hv108.elim
  · have hv109 := hv103.2 hc
    refine lv_iconst (v := 0) hx hb dL_law_634 (by decide) ?_
    exact hv109.elim
set_option maxHeartbeats 4000000 in
set_option maxRecDepth 100000 in
theorem wq_L_law_5 {p : Program} {l : Launch} {e : Env} {s : State} {m : MethodId} {below : List Frame} {meth : Method} {c : Code} {G : sj_G} {L : Nat} {xs : Nat → Int32} {b : Nat} {f1 : Nat} {f2 : Nat} {f3 : Nat} {f4 : Nat} {n : Nat} {v5 : Int32} {w : sj_W} {H : Heap} {locs : List Loc} {ls : Array Slot} {cells slots : Nat} {K : Int32 → sj_W → Prop} (hC : sj_C G p l s m #[Value.ref b] c code RL 9) (hr : meth.sig.returnType = ret) (hk : meth.locks = false) (hX : va_X b L xs s s.heap) (hbl : b < s.heap.size) (hG : G.2.2 = s.heap.size) (hcc : cells + (n + 1) * 242 ≤ 145346) (hcs : slots + (n + 1) * 4193 ≤ 2519522) (hl : lv_has ls 9 [(0, .ref b), (1, .ref f1), (2, .ref f2), (3, .ref f3), (4, .ref f4), (5, .int v5)]) (hH : sj_H G s w H locs) (hc : ((xs v5.toNatClampNeg) &&& 63) = 5) (ih : ∀ (v5 : Int32) (w : sj_W) (H : Heap) (locs : List Loc) (ls : Array Slot) (cells slots : Nat), cells + n * 242 ≤ 145346 → slots + n * 4193 ≤ 2519522 → lv_has ls 9 [(0, .ref b), (1, .ref f1), (2, .ref f2), (3, .ref f3), (4, .ref f4), (5, .int v5)] → sj_H G s w H locs → K v5 w → W p l e room_1 s m #[Value.ref b] below meth c H locs cells slots (lw_Z below #[Value.ref b] s) (F0 m 28 ls [])) (hv110 : vd_L_law_5 L xs K f1 f2 f3 f4 v5 w) : W p l e room_1 s m #[Value.ref b] below meth c H locs cells slots (lw_Z below #[Value.ref b] s) (F0 m 45 ls [.int ((xs v5.toNatClampNeg) &&& 63)]) := by
  have hx := hC.1
  have hb := hC.2.1
  have hbA : ¬ sj_F G b := by unfold sj_F; omega
  have hc1 := sj_rmc
  have hc2 := sj_rms
  refine lv_tableIn (off := 611) (tgt := 656) hx hb dL_law_45 (by rw [hc]; decide) (by rw [hc]; decide) (by rw [hc]; rfl) (by decide) ?_
  refine lv_aload_n hx hb dL_law_656 rfl (lv_at hl 1 rfl) ?_
  refine lv_aload_n hx hb dL_law_657 rfl (lv_at hl 0 rfl) ?_
  refine lv_iload hx hb dL_law_658 (lv_at hl 5 rfl) ?_
  refine lv_iconst (v := 1) hx hb dL_law_660 (by decide) ?_
  refine lv_iadd hx hb dL_law_661 ?_
  refine va_sld hx hb hX hbl hbA hH.2 hv110.1 dL_law_662 ?_
  refine lv_i2c hx hb dL_law_663 rfl ?_
  refine lv_aload_n hx hb dL_law_664 rfl (lv_at hl 0 rfl) ?_
  refine lv_iload hx hb dL_law_665 (lv_at hl 5 rfl) ?_
  refine lv_iconst (v := 2) hx hb dL_law_667 (by decide) ?_
  refine lv_iadd hx hb dL_law_668 ?_
  refine va_sld hx hb hX hbl hbA hH.2 hv110.2.1 dL_law_669 ?_
  refine lv_aload_n hx hb dL_law_670 rfl (lv_at hl 0 rfl) ?_
  refine lv_iload hx hb dL_law_671 (lv_at hl 5 rfl) ?_
  refine lv_iconst (v := 3) hx hb dL_law_673 (by decide) ?_
  refine lv_iadd hx hb dL_law_674 ?_
  refine va_sld hx hb hX hbl hbA hH.2 hv110.2.2.1 dL_law_675 ?_
  refine lv_aload_n hx hb dL_law_676 rfl (lv_at hl 3 rfl) ?_
  refine cg_L_165 hC hH hv110.2.2.2 ⟨Nat.le_of_ble_eq_true rfl, Nat.le_of_ble_eq_true rfl⟩ ⟨(by have hc1 := sj_rmc; omega), (by have hc1 := sj_rms; omega)⟩ hl.1 (Nat.le_of_ble_eq_true rfl) dL_law_677 (fun r111 w112 H locs hH hv113 => ?_)
  refine lv_istore (lv' := [(6, .int r111), (0, .ref b), (1, .ref f1), (2, .ref f2), (3, .ref f3), (4, .ref f4), (5, .int v5)]) hx hb dL_law_680 hl (by decide) rfl (fun ls hl => ?_)
  refine lv_aload_n hx hb dL_law_682 rfl (lv_at hl 3 rfl) ?_
  refine lv_aload_n hx hb dL_law_683 rfl (lv_at hl 1 rfl) ?_
  refine lv_iload hx hb dL_law_684 (lv_at hl 6 rfl) ?_
  refine lv_iconst (v := 1) hx hb dL_law_686 (by decide) ?_
  refine lv_iadd hx hb dL_law_687 ?_
  refine va_sld hx hb hX hbl hbA hH.2 hv113.1 dL_law_688 ?_
  refine lv_i2c hx hb dL_law_689 rfl ?_
  refine lv_aload_n hx hb dL_law_690 rfl (lv_at hl 1 rfl) ?_
  refine lv_iload hx hb dL_law_691 (lv_at hl 6 rfl) ?_
  refine lv_iconst (v := 2) hx hb dL_law_693 (by decide) ?_
  refine lv_iadd hx hb dL_law_694 ?_
  refine va_sld hx hb hX hbl hbA hH.2 hv113.2.1 dL_law_695 ?_
  refine lv_aload_n hx hb dL_law_696 rfl (lv_at hl 1 rfl) ?_
  refine lv_iload hx hb dL_law_697 (lv_at hl 6 rfl) ?_
  refine lv_iconst (v := 3) hx hb dL_law_699 (by decide) ?_
  refine lv_iadd hx hb dL_law_700 ?_
  refine va_sld hx hb hX hbl hbA hH.2 hv113.2.2.1 dL_law_701 ?_
  refine cg_L_167 hC hH hv113.2.2.2.2 hv113.2.2.2.1 ⟨Nat.le_of_ble_eq_true rfl, Nat.le_of_ble_eq_true rfl⟩ ⟨(by have hc1 := sj_rmc; omega), (by have hc1 := sj_rms; omega)⟩ hl.1 (Nat.le_of_ble_eq_true rfl) dL_law_702 (fun r114 w115 H locs hH hv116 => ?_)
  refine lv_istore (lv' := [(7, .int r114), (6, .int r111), (0, .ref b), (1, .ref f1), (2, .ref f2), (3, .ref f3), (4, .ref f4), (5, .int v5)]) hx hb dL_law_705 hl (by decide) rfl (fun ls hl => ?_)
  refine lv_aload_n hx hb dL_law_707 rfl (lv_at hl 4 rfl) ?_
  refine cg_L_146 hC hH hv116.2 hv116.1 ⟨Nat.le_of_ble_eq_true rfl, Nat.le_of_ble_eq_true rfl⟩ ⟨(by have hc1 := sj_rmc; omega), (by have hc1 := sj_rms; omega)⟩ hl.1 (Nat.le_of_ble_eq_true rfl) dL_law_708 (fun r117 w118 H locs hH hv119 => ?_)
  refine lv_iload hx hb dL_law_711 (lv_at hl 1 rfl) ?_
  refine lv_icmp_eq (tgt := 718) hx hb dL_law_713 (by decide) (fun hc => ?_) (fun hc => ?_)
  · have hv120 := hv119.1 hc
    refine lv_iload hx hb dL_law_718 (lv_at hl 1 rfl) ?_
    refine lv_if_ne (tgt := 735) hx hb dL_law_720 (by decide) (fun hc => ?_) (fun hc => ?_)
    · have hv121 := hv120.1 hc
      refine lv_goto (tgt := 3021) hx hb dL_law_735 (by decide) ?_
      refine lv_iinc (v := (v5 + 6)) (lv' := [(5, .int (v5 + 6)), (7, .int r114), (6, .int r111), (0, .ref b), (1, .ref f1), (2, .ref f2), (3, .ref f3), (4, .ref f4)]) hx hb dL_law_3021 hl (k := 7) rfl rfl (by decide) rfl (fun ls hl => ?_)
      refine lv_goto (tgt := 28) hx hb dL_law_3024 (by decide) ?_
      refine W.widen (k := cells + 242) (n := slots + 4193) (by omega) (by omega) ?_
      exact ih (v5 + 6) w118 _ _ _ _ _ (by omega) (by omega) (lv_sub hl [3, 4, 5, 6, 7, 0] rfl) hH hv121
    · have hv122 := hv120.2 hc
      refine lv_aload_n hx hb dL_law_723 rfl (lv_at hl 5 rfl) ?_
      refine lv_iconst (v := 0) hx hb dL_law_724 (by decide) ?_
      refine sj_lald hC hH hv122.1 hv122.2.1 dL_law_725 ?_
      refine lv_iload hx hb dL_law_726 (lv_at hl 0 rfl) ?_
      refine lv_i2l hx hb dL_law_728 rfl ?_
      refine W.lcmp hx hb dL_law_729 ?_
      refine lv_if_eq (tgt := 735) hx hb dL_law_730 (by decide) (fun hc => ?_) (fun hc => ?_)
      · have hv123 := hv122.2.2.1 hc
        refine lv_goto (tgt := 3021) hx hb dL_law_735 (by decide) ?_
        refine lv_iinc (v := (v5 + 6)) (lv' := [(5, .int (v5 + 6)), (7, .int r114), (6, .int r111), (0, .ref b), (1, .ref f1), (2, .ref f2), (3, .ref f3), (4, .ref f4)]) hx hb dL_law_3021 hl (k := 7) rfl rfl (by decide) rfl (fun ls hl => ?_)
        refine lv_goto (tgt := 28) hx hb dL_law_3024 (by decide) ?_
        refine W.widen (k := cells + 242) (n := slots + 4193) (by omega) (by omega) ?_
        exact ih (v5 + 6) w118 _ _ _ _ _ (by omega) (by omega) (lv_sub hl [3, 4, 5, 6, 7, 0] rfl) hH hv123
      · have hv124 := hv122.2.2.2 hc
        refine lv_iconst (v := 0) hx hb dL_law_733 (by decide) ?_
        exact hv124.elim
  · have hv125 := hv119.2 hc
    refine lv_iconst (v := 0) hx hb dL_law_716 (by decide) ?_
    exact hv125.elim
set_option maxHeartbeats 4000000 in
set_option maxRecDepth 100000 in
theorem wq_L_law_6 {p : Program} {l : Launch} {e : Env} {s : State} {m : MethodId} {below : List Frame} {meth : Method} {c : Code} {G : sj_G} {L : Nat} {xs : Nat → Int32} {b : Nat} {f1 : Nat} {f2 : Nat} {f3 : Nat} {f4 : Nat} {n : Nat} {v5 : Int32} {w : sj_W} {H : Heap} {locs : List Loc} {ls : Array Slot} {cells slots : Nat} {K : Int32 → sj_W → Prop} (hC : sj_C G p l s m #[Value.ref b] c code RL 9) (hr : meth.sig.returnType = ret) (hk : meth.locks = false) (hX : va_X b L xs s s.heap) (hbl : b < s.heap.size) (hG : G.2.2 = s.heap.size) (hcc : cells + (n + 1) * 242 ≤ 145346) (hcs : slots + (n + 1) * 4193 ≤ 2519522) (hl : lv_has ls 9 [(0, .ref b), (1, .ref f1), (2, .ref f2), (3, .ref f3), (4, .ref f4), (5, .int v5)]) (hH : sj_H G s w H locs) (hc : ((xs v5.toNatClampNeg) &&& 63) = 6) (ih : ∀ (v5 : Int32) (w : sj_W) (H : Heap) (locs : List Loc) (ls : Array Slot) (cells slots : Nat), cells + n * 242 ≤ 145346 → slots + n * 4193 ≤ 2519522 → lv_has ls 9 [(0, .ref b), (1, .ref f1), (2, .ref f2), (3, .ref f3), (4, .ref f4), (5, .int v5)] → sj_H G s w H locs → K v5 w → W p l e room_1 s m #[Value.ref b] below meth c H locs cells slots (lw_Z below #[Value.ref b] s) (F0 m 28 ls [])) (hv126 : vd_L_law_6 L xs K f1 f2 f3 f4 v5 w) : W p l e room_1 s m #[Value.ref b] below meth c H locs cells slots (lw_Z below #[Value.ref b] s) (F0 m 45 ls [.int ((xs v5.toNatClampNeg) &&& 63)]) := by
  have hx := hC.1
  have hb := hC.2.1
  have hbA : ¬ sj_F G b := by unfold sj_F; omega
  have hc1 := sj_rmc
  have hc2 := sj_rms
  refine lv_tableIn (off := 693) (tgt := 738) hx hb dL_law_45 (by rw [hc]; decide) (by rw [hc]; decide) (by rw [hc]; rfl) (by decide) ?_
  refine lv_aload_n hx hb dL_law_738 rfl (lv_at hl 1 rfl) ?_
  refine lv_aload_n hx hb dL_law_739 rfl (lv_at hl 0 rfl) ?_
  refine lv_iload hx hb dL_law_740 (lv_at hl 5 rfl) ?_
  refine lv_iconst (v := 1) hx hb dL_law_742 (by decide) ?_
  refine lv_iadd hx hb dL_law_743 ?_
  refine va_sld hx hb hX hbl hbA hH.2 hv126.1 dL_law_744 ?_
  refine lv_i2c hx hb dL_law_745 rfl ?_
  refine lv_aload_n hx hb dL_law_746 rfl (lv_at hl 0 rfl) ?_
  refine lv_iload hx hb dL_law_747 (lv_at hl 5 rfl) ?_
  refine lv_iconst (v := 2) hx hb dL_law_749 (by decide) ?_
  refine lv_iadd hx hb dL_law_750 ?_
  refine va_sld hx hb hX hbl hbA hH.2 hv126.2.1 dL_law_751 ?_
  refine lv_aload_n hx hb dL_law_752 rfl (lv_at hl 3 rfl) ?_
  refine cg_L_168 hC hH hv126.2.2 ⟨Nat.le_of_ble_eq_true rfl, Nat.le_of_ble_eq_true rfl⟩ ⟨(by have hc1 := sj_rmc; omega), (by have hc1 := sj_rms; omega)⟩ hl.1 (Nat.le_of_ble_eq_true rfl) dL_law_753 (fun r127 w128 H locs hH hv129 => ?_)
  refine lv_istore (lv' := [(6, .int r127), (0, .ref b), (1, .ref f1), (2, .ref f2), (3, .ref f3), (4, .ref f4), (5, .int v5)]) hx hb dL_law_756 hl (by decide) rfl (fun ls hl => ?_)
  refine lv_aload_n hx hb dL_law_758 rfl (lv_at hl 3 rfl) ?_
  refine lv_aload_n hx hb dL_law_759 rfl (lv_at hl 1 rfl) ?_
  refine lv_iload hx hb dL_law_760 (lv_at hl 6 rfl) ?_
  refine lv_iconst (v := 1) hx hb dL_law_762 (by decide) ?_
  refine lv_iadd hx hb dL_law_763 ?_
  refine va_sld hx hb hX hbl hbA hH.2 hv129.1 dL_law_764 ?_
  refine lv_i2c hx hb dL_law_765 rfl ?_
  refine lv_aload_n hx hb dL_law_766 rfl (lv_at hl 1 rfl) ?_
  refine lv_iload hx hb dL_law_767 (lv_at hl 6 rfl) ?_
  refine lv_iconst (v := 2) hx hb dL_law_769 (by decide) ?_
  refine lv_iadd hx hb dL_law_770 ?_
  refine va_sld hx hb hX hbl hbA hH.2 hv129.2.1 dL_law_771 ?_
  refine cg_L_170 hC hH hv129.2.2.2 hv129.2.2.1 ⟨Nat.le_of_ble_eq_true rfl, Nat.le_of_ble_eq_true rfl⟩ ⟨(by have hc1 := sj_rmc; omega), (by have hc1 := sj_rms; omega)⟩ hl.1 (Nat.le_of_ble_eq_true rfl) dL_law_772 (fun r130 w131 H locs hH hv132 => ?_)
  refine lv_istore (lv' := [(7, .int r130), (6, .int r127), (0, .ref b), (1, .ref f1), (2, .ref f2), (3, .ref f3), (4, .ref f4), (5, .int v5)]) hx hb dL_law_775 hl (by decide) rfl (fun ls hl => ?_)
  refine lv_aload_n hx hb dL_law_777 rfl (lv_at hl 4 rfl) ?_
  refine cg_L_146 hC hH hv132.2 hv132.1 ⟨Nat.le_of_ble_eq_true rfl, Nat.le_of_ble_eq_true rfl⟩ ⟨(by have hc1 := sj_rmc; omega), (by have hc1 := sj_rms; omega)⟩ hl.1 (Nat.le_of_ble_eq_true rfl) dL_law_778 (fun r133 w134 H locs hH hv135 => ?_)
  refine lv_iload hx hb dL_law_781 (lv_at hl 1 rfl) ?_
  refine lv_icmp_eq (tgt := 788) hx hb dL_law_783 (by decide) (fun hc => ?_) (fun hc => ?_)
  · have hv136 := hv135.1 hc
    refine lv_iload hx hb dL_law_788 (lv_at hl 1 rfl) ?_
    refine lv_if_ne (tgt := 805) hx hb dL_law_790 (by decide) (fun hc => ?_) (fun hc => ?_)
    · have hv137 := hv136.1 hc
      refine lv_goto (tgt := 3021) hx hb dL_law_805 (by decide) ?_
      refine lv_iinc (v := (v5 + 6)) (lv' := [(5, .int (v5 + 6)), (7, .int r130), (6, .int r127), (0, .ref b), (1, .ref f1), (2, .ref f2), (3, .ref f3), (4, .ref f4)]) hx hb dL_law_3021 hl (k := 7) rfl rfl (by decide) rfl (fun ls hl => ?_)
      refine lv_goto (tgt := 28) hx hb dL_law_3024 (by decide) ?_
      refine W.widen (k := cells + 242) (n := slots + 4193) (by omega) (by omega) ?_
      exact ih (v5 + 6) w134 _ _ _ _ _ (by omega) (by omega) (lv_sub hl [3, 4, 5, 6, 7, 0] rfl) hH hv137
    · have hv138 := hv136.2 hc
      refine lv_aload_n hx hb dL_law_793 rfl (lv_at hl 5 rfl) ?_
      refine lv_iconst (v := 0) hx hb dL_law_794 (by decide) ?_
      refine sj_lald hC hH hv138.1 hv138.2.1 dL_law_795 ?_
      refine lv_iload hx hb dL_law_796 (lv_at hl 0 rfl) ?_
      refine lv_i2l hx hb dL_law_798 rfl ?_
      refine W.lcmp hx hb dL_law_799 ?_
      refine lv_if_eq (tgt := 805) hx hb dL_law_800 (by decide) (fun hc => ?_) (fun hc => ?_)
      · have hv139 := hv138.2.2.1 hc
        refine lv_goto (tgt := 3021) hx hb dL_law_805 (by decide) ?_
        refine lv_iinc (v := (v5 + 6)) (lv' := [(5, .int (v5 + 6)), (7, .int r130), (6, .int r127), (0, .ref b), (1, .ref f1), (2, .ref f2), (3, .ref f3), (4, .ref f4)]) hx hb dL_law_3021 hl (k := 7) rfl rfl (by decide) rfl (fun ls hl => ?_)
        refine lv_goto (tgt := 28) hx hb dL_law_3024 (by decide) ?_
        refine W.widen (k := cells + 242) (n := slots + 4193) (by omega) (by omega) ?_
        exact ih (v5 + 6) w134 _ _ _ _ _ (by omega) (by omega) (lv_sub hl [3, 4, 5, 6, 7, 0] rfl) hH hv139
      · have hv140 := hv138.2.2.2 hc
        refine lv_iconst (v := 0) hx hb dL_law_803 (by decide) ?_
        exact hv140.elim
  · have hv141 := hv135.2 hc
    refine lv_iconst (v := 0) hx hb dL_law_786 (by decide) ?_
    exact hv141.elim
set_option maxHeartbeats 4000000 in
set_option maxRecDepth 100000 in
theorem wq_L_law_7 {p : Program} {l : Launch} {e : Env} {s : State} {m : MethodId} {below : List Frame} {meth : Method} {c : Code} {G : sj_G} {L : Nat} {xs : Nat → Int32} {b : Nat} {f1 : Nat} {f2 : Nat} {f3 : Nat} {f4 : Nat} {n : Nat} {v5 : Int32} {w : sj_W} {H : Heap} {locs : List Loc} {ls : Array Slot} {cells slots : Nat} {K : Int32 → sj_W → Prop} (hC : sj_C G p l s m #[Value.ref b] c code RL 9) (hr : meth.sig.returnType = ret) (hk : meth.locks = false) (hX : va_X b L xs s s.heap) (hbl : b < s.heap.size) (hG : G.2.2 = s.heap.size) (hcc : cells + (n + 1) * 242 ≤ 145346) (hcs : slots + (n + 1) * 4193 ≤ 2519522) (hl : lv_has ls 9 [(0, .ref b), (1, .ref f1), (2, .ref f2), (3, .ref f3), (4, .ref f4), (5, .int v5)]) (hH : sj_H G s w H locs) (hc : ((xs v5.toNatClampNeg) &&& 63) = 7) (ih : ∀ (v5 : Int32) (w : sj_W) (H : Heap) (locs : List Loc) (ls : Array Slot) (cells slots : Nat), cells + n * 242 ≤ 145346 → slots + n * 4193 ≤ 2519522 → lv_has ls 9 [(0, .ref b), (1, .ref f1), (2, .ref f2), (3, .ref f3), (4, .ref f4), (5, .int v5)] → sj_H G s w H locs → K v5 w → W p l e room_1 s m #[Value.ref b] below meth c H locs cells slots (lw_Z below #[Value.ref b] s) (F0 m 28 ls [])) (hv142 : vd_L_law_7 L xs K f1 f2 f3 f4 v5 w) : W p l e room_1 s m #[Value.ref b] below meth c H locs cells slots (lw_Z below #[Value.ref b] s) (F0 m 45 ls [.int ((xs v5.toNatClampNeg) &&& 63)]) := by
  have hx := hC.1
  have hb := hC.2.1
  have hbA : ¬ sj_F G b := by unfold sj_F; omega
  have hc1 := sj_rmc
  have hc2 := sj_rms
  refine lv_tableIn (off := 763) (tgt := 808) hx hb dL_law_45 (by rw [hc]; decide) (by rw [hc]; decide) (by rw [hc]; rfl) (by decide) ?_
  refine lv_aload_n hx hb dL_law_808 rfl (lv_at hl 1 rfl) ?_
  refine lv_aload_n hx hb dL_law_809 rfl (lv_at hl 0 rfl) ?_
  refine lv_iload hx hb dL_law_810 (lv_at hl 5 rfl) ?_
  refine lv_iconst (v := 1) hx hb dL_law_812 (by decide) ?_
  refine lv_iadd hx hb dL_law_813 ?_
  refine va_sld hx hb hX hbl hbA hH.2 hv142.1 dL_law_814 ?_
  refine lv_i2c hx hb dL_law_815 rfl ?_
  refine lv_aload_n hx hb dL_law_816 rfl (lv_at hl 0 rfl) ?_
  refine lv_iload hx hb dL_law_817 (lv_at hl 5 rfl) ?_
  refine lv_iconst (v := 2) hx hb dL_law_819 (by decide) ?_
  refine lv_iadd hx hb dL_law_820 ?_
  refine va_sld hx hb hX hbl hbA hH.2 hv142.2.1 dL_law_821 ?_
  refine lv_aload_n hx hb dL_law_822 rfl (lv_at hl 0 rfl) ?_
  refine lv_iload hx hb dL_law_823 (lv_at hl 5 rfl) ?_
  refine lv_iconst (v := 3) hx hb dL_law_825 (by decide) ?_
  refine lv_iadd hx hb dL_law_826 ?_
  refine va_sld hx hb hX hbl hbA hH.2 hv142.2.2.1 dL_law_827 ?_
  refine lv_aload_n hx hb dL_law_828 rfl (lv_at hl 0 rfl) ?_
  refine lv_iload hx hb dL_law_829 (lv_at hl 5 rfl) ?_
  refine lv_iconst (v := 4) hx hb dL_law_831 (by decide) ?_
  refine lv_iadd hx hb dL_law_832 ?_
  refine va_sld hx hb hX hbl hbA hH.2 hv142.2.2.2.1 dL_law_833 ?_
  refine lv_aload_n hx hb dL_law_834 rfl (lv_at hl 3 rfl) ?_
  refine cg_L_171 hC hH hv142.2.2.2.2 ⟨Nat.le_of_ble_eq_true rfl, Nat.le_of_ble_eq_true rfl⟩ ⟨(by have hc1 := sj_rmc; omega), (by have hc1 := sj_rms; omega)⟩ hl.1 (Nat.le_of_ble_eq_true rfl) dL_law_835 (fun r143 w144 H locs hH hv145 => ?_)
  refine lv_istore (lv' := [(6, .int r143), (0, .ref b), (1, .ref f1), (2, .ref f2), (3, .ref f3), (4, .ref f4), (5, .int v5)]) hx hb dL_law_838 hl (by decide) rfl (fun ls hl => ?_)
  refine lv_aload_n hx hb dL_law_840 rfl (lv_at hl 3 rfl) ?_
  refine lv_aload_n hx hb dL_law_841 rfl (lv_at hl 1 rfl) ?_
  refine lv_iload hx hb dL_law_842 (lv_at hl 6 rfl) ?_
  refine lv_iconst (v := 1) hx hb dL_law_844 (by decide) ?_
  refine lv_iadd hx hb dL_law_845 ?_
  refine va_sld hx hb hX hbl hbA hH.2 hv145.1 dL_law_846 ?_
  refine lv_i2c hx hb dL_law_847 rfl ?_
  refine lv_aload_n hx hb dL_law_848 rfl (lv_at hl 1 rfl) ?_
  refine lv_iload hx hb dL_law_849 (lv_at hl 6 rfl) ?_
  refine lv_iconst (v := 2) hx hb dL_law_851 (by decide) ?_
  refine lv_iadd hx hb dL_law_852 ?_
  refine va_sld hx hb hX hbl hbA hH.2 hv145.2.1 dL_law_853 ?_
  refine lv_aload_n hx hb dL_law_854 rfl (lv_at hl 1 rfl) ?_
  refine lv_iload hx hb dL_law_855 (lv_at hl 6 rfl) ?_
  refine lv_iconst (v := 3) hx hb dL_law_857 (by decide) ?_
  refine lv_iadd hx hb dL_law_858 ?_
  refine va_sld hx hb hX hbl hbA hH.2 hv145.2.2.1 dL_law_859 ?_
  refine lv_aload_n hx hb dL_law_860 rfl (lv_at hl 1 rfl) ?_
  refine lv_iload hx hb dL_law_861 (lv_at hl 6 rfl) ?_
  refine lv_iconst (v := 4) hx hb dL_law_863 (by decide) ?_
  refine lv_iadd hx hb dL_law_864 ?_
  refine va_sld hx hb hX hbl hbA hH.2 hv145.2.2.2.1 dL_law_865 ?_
  refine cg_L_174 hC hH hv145.2.2.2.2.2 hv145.2.2.2.2.1 ⟨Nat.le_of_ble_eq_true rfl, Nat.le_of_ble_eq_true rfl⟩ ⟨(by have hc1 := sj_rmc; omega), (by have hc1 := sj_rms; omega)⟩ hl.1 (Nat.le_of_ble_eq_true rfl) dL_law_866 (fun r146 w147 H locs hH hv148 => ?_)
  refine lv_istore (lv' := [(7, .int r146), (6, .int r143), (0, .ref b), (1, .ref f1), (2, .ref f2), (3, .ref f3), (4, .ref f4), (5, .int v5)]) hx hb dL_law_869 hl (by decide) rfl (fun ls hl => ?_)
  refine lv_aload_n hx hb dL_law_871 rfl (lv_at hl 4 rfl) ?_
  refine cg_L_146 hC hH hv148.2 hv148.1 ⟨Nat.le_of_ble_eq_true rfl, Nat.le_of_ble_eq_true rfl⟩ ⟨(by have hc1 := sj_rmc; omega), (by have hc1 := sj_rms; omega)⟩ hl.1 (Nat.le_of_ble_eq_true rfl) dL_law_872 (fun r149 w150 H locs hH hv151 => ?_)
  refine lv_iload hx hb dL_law_875 (lv_at hl 1 rfl) ?_
  refine lv_icmp_eq (tgt := 882) hx hb dL_law_877 (by decide) (fun hc => ?_) (fun hc => ?_)
  · have hv152 := hv151.1 hc
    refine lv_iload hx hb dL_law_882 (lv_at hl 1 rfl) ?_
    refine lv_if_ne (tgt := 899) hx hb dL_law_884 (by decide) (fun hc => ?_) (fun hc => ?_)
    · have hv153 := hv152.1 hc
      refine lv_goto (tgt := 3021) hx hb dL_law_899 (by decide) ?_
      refine lv_iinc (v := (v5 + 6)) (lv' := [(5, .int (v5 + 6)), (7, .int r146), (6, .int r143), (0, .ref b), (1, .ref f1), (2, .ref f2), (3, .ref f3), (4, .ref f4)]) hx hb dL_law_3021 hl (k := 7) rfl rfl (by decide) rfl (fun ls hl => ?_)
      refine lv_goto (tgt := 28) hx hb dL_law_3024 (by decide) ?_
      refine W.widen (k := cells + 242) (n := slots + 4193) (by omega) (by omega) ?_
      exact ih (v5 + 6) w150 _ _ _ _ _ (by omega) (by omega) (lv_sub hl [3, 4, 5, 6, 7, 0] rfl) hH hv153
    · have hv154 := hv152.2 hc
      refine lv_aload_n hx hb dL_law_887 rfl (lv_at hl 5 rfl) ?_
      refine lv_iconst (v := 0) hx hb dL_law_888 (by decide) ?_
      refine sj_lald hC hH hv154.1 hv154.2.1 dL_law_889 ?_
      refine lv_iload hx hb dL_law_890 (lv_at hl 0 rfl) ?_
      refine lv_i2l hx hb dL_law_892 rfl ?_
      refine W.lcmp hx hb dL_law_893 ?_
      refine lv_if_eq (tgt := 899) hx hb dL_law_894 (by decide) (fun hc => ?_) (fun hc => ?_)
      · have hv155 := hv154.2.2.1 hc
        refine lv_goto (tgt := 3021) hx hb dL_law_899 (by decide) ?_
        refine lv_iinc (v := (v5 + 6)) (lv' := [(5, .int (v5 + 6)), (7, .int r146), (6, .int r143), (0, .ref b), (1, .ref f1), (2, .ref f2), (3, .ref f3), (4, .ref f4)]) hx hb dL_law_3021 hl (k := 7) rfl rfl (by decide) rfl (fun ls hl => ?_)
        refine lv_goto (tgt := 28) hx hb dL_law_3024 (by decide) ?_
        refine W.widen (k := cells + 242) (n := slots + 4193) (by omega) (by omega) ?_
        exact ih (v5 + 6) w150 _ _ _ _ _ (by omega) (by omega) (lv_sub hl [3, 4, 5, 6, 7, 0] rfl) hH hv155
      · have hv156 := hv154.2.2.2 hc
        refine lv_iconst (v := 0) hx hb dL_law_897 (by decide) ?_
        exact hv156.elim
  · have hv157 := hv151.2 hc
    refine lv_iconst (v := 0) hx hb dL_law_880 (by decide) ?_
    exact hv157.elim
set_option maxHeartbeats 4000000 in
set_option maxRecDepth 100000 in
theorem wq_L_law_8 {p : Program} {l : Launch} {e : Env} {s : State} {m : MethodId} {below : List Frame} {meth : Method} {c : Code} {G : sj_G} {L : Nat} {xs : Nat → Int32} {b : Nat} {f1 : Nat} {f2 : Nat} {f3 : Nat} {f4 : Nat} {n : Nat} {v5 : Int32} {w : sj_W} {H : Heap} {locs : List Loc} {ls : Array Slot} {cells slots : Nat} {K : Int32 → sj_W → Prop} (hC : sj_C G p l s m #[Value.ref b] c code RL 9) (hr : meth.sig.returnType = ret) (hk : meth.locks = false) (hX : va_X b L xs s s.heap) (hbl : b < s.heap.size) (hG : G.2.2 = s.heap.size) (hcc : cells + (n + 1) * 242 ≤ 145346) (hcs : slots + (n + 1) * 4193 ≤ 2519522) (hl : lv_has ls 9 [(0, .ref b), (1, .ref f1), (2, .ref f2), (3, .ref f3), (4, .ref f4), (5, .int v5)]) (hH : sj_H G s w H locs) (hc : ((xs v5.toNatClampNeg) &&& 63) = 8) (ih : ∀ (v5 : Int32) (w : sj_W) (H : Heap) (locs : List Loc) (ls : Array Slot) (cells slots : Nat), cells + n * 242 ≤ 145346 → slots + n * 4193 ≤ 2519522 → lv_has ls 9 [(0, .ref b), (1, .ref f1), (2, .ref f2), (3, .ref f3), (4, .ref f4), (5, .int v5)] → sj_H G s w H locs → K v5 w → W p l e room_1 s m #[Value.ref b] below meth c H locs cells slots (lw_Z below #[Value.ref b] s) (F0 m 28 ls [])) (hv158 : vd_L_law_8 L xs K f1 f2 f3 f4 v5 w) : W p l e room_1 s m #[Value.ref b] below meth c H locs cells slots (lw_Z below #[Value.ref b] s) (F0 m 45 ls [.int ((xs v5.toNatClampNeg) &&& 63)]) := by
  have hx := hC.1
  have hb := hC.2.1
  have hbA : ¬ sj_F G b := by unfold sj_F; omega
  have hc1 := sj_rmc
  have hc2 := sj_rms
  refine lv_tableIn (off := 857) (tgt := 902) hx hb dL_law_45 (by rw [hc]; decide) (by rw [hc]; decide) (by rw [hc]; rfl) (by decide) ?_
  refine lv_aload_n hx hb dL_law_902 rfl (lv_at hl 1 rfl) ?_
  refine lv_aload_n hx hb dL_law_903 rfl (lv_at hl 0 rfl) ?_
  refine lv_iload hx hb dL_law_904 (lv_at hl 5 rfl) ?_
  refine lv_iconst (v := 1) hx hb dL_law_906 (by decide) ?_
  refine lv_iadd hx hb dL_law_907 ?_
  refine va_sld hx hb hX hbl hbA hH.2 hv158.1 dL_law_908 ?_
  refine lv_i2c hx hb dL_law_909 rfl ?_
  refine lv_aload_n hx hb dL_law_910 rfl (lv_at hl 0 rfl) ?_
  refine lv_iload hx hb dL_law_911 (lv_at hl 5 rfl) ?_
  refine lv_iconst (v := 2) hx hb dL_law_913 (by decide) ?_
  refine lv_iadd hx hb dL_law_914 ?_
  refine va_sld hx hb hX hbl hbA hH.2 hv158.2.1 dL_law_915 ?_
  refine lv_aload_n hx hb dL_law_916 rfl (lv_at hl 0 rfl) ?_
  refine lv_iload hx hb dL_law_917 (lv_at hl 5 rfl) ?_
  refine lv_iconst (v := 3) hx hb dL_law_919 (by decide) ?_
  refine lv_iadd hx hb dL_law_920 ?_
  refine va_sld hx hb hX hbl hbA hH.2 hv158.2.2.1 dL_law_921 ?_
  refine lv_i2c hx hb dL_law_922 rfl ?_
  refine lv_aload_n hx hb dL_law_923 rfl (lv_at hl 0 rfl) ?_
  refine lv_iload hx hb dL_law_924 (lv_at hl 5 rfl) ?_
  refine lv_iconst (v := 4) hx hb dL_law_926 (by decide) ?_
  refine lv_iadd hx hb dL_law_927 ?_
  refine va_sld hx hb hX hbl hbA hH.2 hv158.2.2.2.1 dL_law_928 ?_
  refine lv_aload_n hx hb dL_law_929 rfl (lv_at hl 0 rfl) ?_
  refine lv_iload hx hb dL_law_930 (lv_at hl 5 rfl) ?_
  refine lv_iconst (v := 5) hx hb dL_law_932 (by decide) ?_
  refine lv_iadd hx hb dL_law_933 ?_
  refine va_sld hx hb hX hbl hbA hH.2 hv158.2.2.2.2.1 dL_law_934 ?_
  refine lv_i2c hx hb dL_law_935 rfl ?_
  refine lv_aload_n hx hb dL_law_936 rfl (lv_at hl 3 rfl) ?_
  refine cg_L_175 hC hH hv158.2.2.2.2.2 ⟨Nat.le_of_ble_eq_true rfl, Nat.le_of_ble_eq_true rfl⟩ ⟨(by have hc1 := sj_rmc; omega), (by have hc1 := sj_rms; omega)⟩ hl.1 (Nat.le_of_ble_eq_true rfl) dL_law_937 (fun r159 w160 H locs hH hv161 => ?_)
  refine lv_istore (lv' := [(6, .int r159), (0, .ref b), (1, .ref f1), (2, .ref f2), (3, .ref f3), (4, .ref f4), (5, .int v5)]) hx hb dL_law_940 hl (by decide) rfl (fun ls hl => ?_)
  refine lv_aload_n hx hb dL_law_942 rfl (lv_at hl 3 rfl) ?_
  refine lv_aload_n hx hb dL_law_943 rfl (lv_at hl 1 rfl) ?_
  refine lv_iload hx hb dL_law_944 (lv_at hl 6 rfl) ?_
  refine lv_iconst (v := 1) hx hb dL_law_946 (by decide) ?_
  refine lv_iadd hx hb dL_law_947 ?_
  refine va_sld hx hb hX hbl hbA hH.2 hv161.1 dL_law_948 ?_
  refine lv_i2c hx hb dL_law_949 rfl ?_
  refine lv_aload_n hx hb dL_law_950 rfl (lv_at hl 1 rfl) ?_
  refine lv_iload hx hb dL_law_951 (lv_at hl 6 rfl) ?_
  refine lv_iconst (v := 2) hx hb dL_law_953 (by decide) ?_
  refine lv_iadd hx hb dL_law_954 ?_
  refine va_sld hx hb hX hbl hbA hH.2 hv161.2.1 dL_law_955 ?_
  refine lv_aload_n hx hb dL_law_956 rfl (lv_at hl 1 rfl) ?_
  refine lv_iload hx hb dL_law_957 (lv_at hl 6 rfl) ?_
  refine lv_iconst (v := 3) hx hb dL_law_959 (by decide) ?_
  refine lv_iadd hx hb dL_law_960 ?_
  refine va_sld hx hb hX hbl hbA hH.2 hv161.2.2.1 dL_law_961 ?_
  refine lv_i2c hx hb dL_law_962 rfl ?_
  refine lv_aload_n hx hb dL_law_963 rfl (lv_at hl 1 rfl) ?_
  refine lv_iload hx hb dL_law_964 (lv_at hl 6 rfl) ?_
  refine lv_iconst (v := 4) hx hb dL_law_966 (by decide) ?_
  refine lv_iadd hx hb dL_law_967 ?_
  refine va_sld hx hb hX hbl hbA hH.2 hv161.2.2.2.1 dL_law_968 ?_
  refine lv_aload_n hx hb dL_law_969 rfl (lv_at hl 1 rfl) ?_
  refine lv_iload hx hb dL_law_970 (lv_at hl 6 rfl) ?_
  refine lv_iconst (v := 5) hx hb dL_law_972 (by decide) ?_
  refine lv_iadd hx hb dL_law_973 ?_
  refine va_sld hx hb hX hbl hbA hH.2 hv161.2.2.2.2.1 dL_law_974 ?_
  refine lv_i2c hx hb dL_law_975 rfl ?_
  refine cg_L_178 hC hH hv161.2.2.2.2.2.2 hv161.2.2.2.2.2.1 ⟨Nat.le_of_ble_eq_true rfl, Nat.le_of_ble_eq_true rfl⟩ ⟨(by have hc1 := sj_rmc; omega), (by have hc1 := sj_rms; omega)⟩ hl.1 (Nat.le_of_ble_eq_true rfl) dL_law_976 (fun r162 w163 H locs hH hv164 => ?_)
  refine lv_istore (lv' := [(7, .int r162), (6, .int r159), (0, .ref b), (1, .ref f1), (2, .ref f2), (3, .ref f3), (4, .ref f4), (5, .int v5)]) hx hb dL_law_979 hl (by decide) rfl (fun ls hl => ?_)
  refine lv_aload_n hx hb dL_law_981 rfl (lv_at hl 4 rfl) ?_
  refine cg_L_146 hC hH hv164.2 hv164.1 ⟨Nat.le_of_ble_eq_true rfl, Nat.le_of_ble_eq_true rfl⟩ ⟨(by have hc1 := sj_rmc; omega), (by have hc1 := sj_rms; omega)⟩ hl.1 (Nat.le_of_ble_eq_true rfl) dL_law_982 (fun r165 w166 H locs hH hv167 => ?_)
  refine lv_iload hx hb dL_law_985 (lv_at hl 1 rfl) ?_
  refine lv_icmp_eq (tgt := 992) hx hb dL_law_987 (by decide) (fun hc => ?_) (fun hc => ?_)
  · have hv168 := hv167.1 hc
    refine lv_iload hx hb dL_law_992 (lv_at hl 1 rfl) ?_
    refine lv_if_ne (tgt := 1009) hx hb dL_law_994 (by decide) (fun hc => ?_) (fun hc => ?_)
    · have hv169 := hv168.1 hc
      refine lv_goto (tgt := 3021) hx hb dL_law_1009 (by decide) ?_
      refine lv_iinc (v := (v5 + 6)) (lv' := [(5, .int (v5 + 6)), (7, .int r162), (6, .int r159), (0, .ref b), (1, .ref f1), (2, .ref f2), (3, .ref f3), (4, .ref f4)]) hx hb dL_law_3021 hl (k := 7) rfl rfl (by decide) rfl (fun ls hl => ?_)
      refine lv_goto (tgt := 28) hx hb dL_law_3024 (by decide) ?_
      refine W.widen (k := cells + 242) (n := slots + 4193) (by omega) (by omega) ?_
      exact ih (v5 + 6) w166 _ _ _ _ _ (by omega) (by omega) (lv_sub hl [3, 4, 5, 6, 7, 0] rfl) hH hv169
    · have hv170 := hv168.2 hc
      refine lv_aload_n hx hb dL_law_997 rfl (lv_at hl 5 rfl) ?_
      refine lv_iconst (v := 0) hx hb dL_law_998 (by decide) ?_
      refine sj_lald hC hH hv170.1 hv170.2.1 dL_law_999 ?_
      refine lv_iload hx hb dL_law_1000 (lv_at hl 0 rfl) ?_
      refine lv_i2l hx hb dL_law_1002 rfl ?_
      refine W.lcmp hx hb dL_law_1003 ?_
      refine lv_if_eq (tgt := 1009) hx hb dL_law_1004 (by decide) (fun hc => ?_) (fun hc => ?_)
      · have hv171 := hv170.2.2.1 hc
        refine lv_goto (tgt := 3021) hx hb dL_law_1009 (by decide) ?_
        refine lv_iinc (v := (v5 + 6)) (lv' := [(5, .int (v5 + 6)), (7, .int r162), (6, .int r159), (0, .ref b), (1, .ref f1), (2, .ref f2), (3, .ref f3), (4, .ref f4)]) hx hb dL_law_3021 hl (k := 7) rfl rfl (by decide) rfl (fun ls hl => ?_)
        refine lv_goto (tgt := 28) hx hb dL_law_3024 (by decide) ?_
        refine W.widen (k := cells + 242) (n := slots + 4193) (by omega) (by omega) ?_
        exact ih (v5 + 6) w166 _ _ _ _ _ (by omega) (by omega) (lv_sub hl [3, 4, 5, 6, 7, 0] rfl) hH hv171
      · have hv172 := hv170.2.2.2 hc
        refine lv_iconst (v := 0) hx hb dL_law_1007 (by decide) ?_
        exact hv172.elim
  · have hv173 := hv167.2 hc
    refine lv_iconst (v := 0) hx hb dL_law_990 (by decide) ?_
    exact hv173.elim
set_option maxHeartbeats 4000000 in
set_option maxRecDepth 100000 in
theorem wq_L_law_9 {p : Program} {l : Launch} {e : Env} {s : State} {m : MethodId} {below : List Frame} {meth : Method} {c : Code} {G : sj_G} {L : Nat} {xs : Nat → Int32} {b : Nat} {f1 : Nat} {f2 : Nat} {f3 : Nat} {f4 : Nat} {n : Nat} {v5 : Int32} {w : sj_W} {H : Heap} {locs : List Loc} {ls : Array Slot} {cells slots : Nat} {K : Int32 → sj_W → Prop} (hC : sj_C G p l s m #[Value.ref b] c code RL 9) (hr : meth.sig.returnType = ret) (hk : meth.locks = false) (hX : va_X b L xs s s.heap) (hbl : b < s.heap.size) (hG : G.2.2 = s.heap.size) (hcc : cells + (n + 1) * 242 ≤ 145346) (hcs : slots + (n + 1) * 4193 ≤ 2519522) (hl : lv_has ls 9 [(0, .ref b), (1, .ref f1), (2, .ref f2), (3, .ref f3), (4, .ref f4), (5, .int v5)]) (hH : sj_H G s w H locs) (hc : ((xs v5.toNatClampNeg) &&& 63) = 9) (ih : ∀ (v5 : Int32) (w : sj_W) (H : Heap) (locs : List Loc) (ls : Array Slot) (cells slots : Nat), cells + n * 242 ≤ 145346 → slots + n * 4193 ≤ 2519522 → lv_has ls 9 [(0, .ref b), (1, .ref f1), (2, .ref f2), (3, .ref f3), (4, .ref f4), (5, .int v5)] → sj_H G s w H locs → K v5 w → W p l e room_1 s m #[Value.ref b] below meth c H locs cells slots (lw_Z below #[Value.ref b] s) (F0 m 28 ls [])) (hv174 : vd_L_law_9 L xs K f1 f2 f3 f4 v5 w) : W p l e room_1 s m #[Value.ref b] below meth c H locs cells slots (lw_Z below #[Value.ref b] s) (F0 m 45 ls [.int ((xs v5.toNatClampNeg) &&& 63)]) := by
  have hx := hC.1
  have hb := hC.2.1
  have hbA : ¬ sj_F G b := by unfold sj_F; omega
  have hc1 := sj_rmc
  have hc2 := sj_rms
  refine lv_tableIn (off := 967) (tgt := 1012) hx hb dL_law_45 (by rw [hc]; decide) (by rw [hc]; decide) (by rw [hc]; rfl) (by decide) ?_
  refine lv_aload_n hx hb dL_law_1012 rfl (lv_at hl 1 rfl) ?_
  refine lv_aload_n hx hb dL_law_1013 rfl (lv_at hl 0 rfl) ?_
  refine lv_iload hx hb dL_law_1014 (lv_at hl 5 rfl) ?_
  refine lv_iconst (v := 1) hx hb dL_law_1016 (by decide) ?_
  refine lv_iadd hx hb dL_law_1017 ?_
  refine va_sld hx hb hX hbl hbA hH.2 hv174.1 dL_law_1018 ?_
  refine lv_aload_n hx hb dL_law_1019 rfl (lv_at hl 0 rfl) ?_
  refine lv_iload hx hb dL_law_1020 (lv_at hl 5 rfl) ?_
  refine lv_iconst (v := 2) hx hb dL_law_1022 (by decide) ?_
  refine lv_iadd hx hb dL_law_1023 ?_
  refine va_sld hx hb hX hbl hbA hH.2 hv174.2.1 dL_law_1024 ?_
  refine lv_aload_n hx hb dL_law_1025 rfl (lv_at hl 0 rfl) ?_
  refine lv_iload hx hb dL_law_1026 (lv_at hl 5 rfl) ?_
  refine lv_iconst (v := 3) hx hb dL_law_1028 (by decide) ?_
  refine lv_iadd hx hb dL_law_1029 ?_
  refine va_sld hx hb hX hbl hbA hH.2 hv174.2.2.1 dL_law_1030 ?_
  refine lv_aload_n hx hb dL_law_1031 rfl (lv_at hl 0 rfl) ?_
  refine lv_iload hx hb dL_law_1032 (lv_at hl 5 rfl) ?_
  refine lv_iconst (v := 4) hx hb dL_law_1034 (by decide) ?_
  refine lv_iadd hx hb dL_law_1035 ?_
  refine va_sld hx hb hX hbl hbA hH.2 hv174.2.2.2.1 dL_law_1036 ?_
  refine lv_aload_n hx hb dL_law_1037 rfl (lv_at hl 3 rfl) ?_
  refine cg_L_179 hC hH hv174.2.2.2.2 ⟨Nat.le_of_ble_eq_true rfl, Nat.le_of_ble_eq_true rfl⟩ ⟨(by have hc1 := sj_rmc; omega), (by have hc1 := sj_rms; omega)⟩ hl.1 (Nat.le_of_ble_eq_true rfl) dL_law_1038 (fun r175 w176 H locs hH hv177 => ?_)
  refine lv_istore (lv' := [(6, .int r175), (0, .ref b), (1, .ref f1), (2, .ref f2), (3, .ref f3), (4, .ref f4), (5, .int v5)]) hx hb dL_law_1041 hl (by decide) rfl (fun ls hl => ?_)
  refine lv_aload_n hx hb dL_law_1043 rfl (lv_at hl 3 rfl) ?_
  refine lv_aload_n hx hb dL_law_1044 rfl (lv_at hl 1 rfl) ?_
  refine lv_iload hx hb dL_law_1045 (lv_at hl 6 rfl) ?_
  refine lv_iconst (v := 1) hx hb dL_law_1047 (by decide) ?_
  refine lv_iadd hx hb dL_law_1048 ?_
  refine va_sld hx hb hX hbl hbA hH.2 hv177.1 dL_law_1049 ?_
  refine lv_aload_n hx hb dL_law_1050 rfl (lv_at hl 1 rfl) ?_
  refine lv_iload hx hb dL_law_1051 (lv_at hl 6 rfl) ?_
  refine lv_iconst (v := 2) hx hb dL_law_1053 (by decide) ?_
  refine lv_iadd hx hb dL_law_1054 ?_
  refine va_sld hx hb hX hbl hbA hH.2 hv177.2.1 dL_law_1055 ?_
  refine lv_aload_n hx hb dL_law_1056 rfl (lv_at hl 1 rfl) ?_
  refine lv_iload hx hb dL_law_1057 (lv_at hl 6 rfl) ?_
  refine lv_iconst (v := 3) hx hb dL_law_1059 (by decide) ?_
  refine lv_iadd hx hb dL_law_1060 ?_
  refine va_sld hx hb hX hbl hbA hH.2 hv177.2.2.1 dL_law_1061 ?_
  refine lv_aload_n hx hb dL_law_1062 rfl (lv_at hl 1 rfl) ?_
  refine lv_iload hx hb dL_law_1063 (lv_at hl 6 rfl) ?_
  refine lv_iconst (v := 4) hx hb dL_law_1065 (by decide) ?_
  refine lv_iadd hx hb dL_law_1066 ?_
  refine va_sld hx hb hX hbl hbA hH.2 hv177.2.2.2.1 dL_law_1067 ?_
  refine cg_L_182 hC hH hv177.2.2.2.2.2 hv177.2.2.2.2.1 ⟨Nat.le_of_ble_eq_true rfl, Nat.le_of_ble_eq_true rfl⟩ ⟨(by have hc1 := sj_rmc; omega), (by have hc1 := sj_rms; omega)⟩ hl.1 (Nat.le_of_ble_eq_true rfl) dL_law_1068 (fun r178 w179 H locs hH hv180 => ?_)
  refine lv_istore (lv' := [(7, .int r178), (6, .int r175), (0, .ref b), (1, .ref f1), (2, .ref f2), (3, .ref f3), (4, .ref f4), (5, .int v5)]) hx hb dL_law_1071 hl (by decide) rfl (fun ls hl => ?_)
  refine lv_aload_n hx hb dL_law_1073 rfl (lv_at hl 4 rfl) ?_
  refine cg_L_146 hC hH hv180.2 hv180.1 ⟨Nat.le_of_ble_eq_true rfl, Nat.le_of_ble_eq_true rfl⟩ ⟨(by have hc1 := sj_rmc; omega), (by have hc1 := sj_rms; omega)⟩ hl.1 (Nat.le_of_ble_eq_true rfl) dL_law_1074 (fun r181 w182 H locs hH hv183 => ?_)
  refine lv_iload hx hb dL_law_1077 (lv_at hl 1 rfl) ?_
  refine lv_icmp_eq (tgt := 1084) hx hb dL_law_1079 (by decide) (fun hc => ?_) (fun hc => ?_)
  · have hv184 := hv183.1 hc
    refine lv_iload hx hb dL_law_1084 (lv_at hl 1 rfl) ?_
    refine lv_if_ne (tgt := 1101) hx hb dL_law_1086 (by decide) (fun hc => ?_) (fun hc => ?_)
    · have hv185 := hv184.1 hc
      refine lv_goto (tgt := 3021) hx hb dL_law_1101 (by decide) ?_
      refine lv_iinc (v := (v5 + 6)) (lv' := [(5, .int (v5 + 6)), (7, .int r178), (6, .int r175), (0, .ref b), (1, .ref f1), (2, .ref f2), (3, .ref f3), (4, .ref f4)]) hx hb dL_law_3021 hl (k := 7) rfl rfl (by decide) rfl (fun ls hl => ?_)
      refine lv_goto (tgt := 28) hx hb dL_law_3024 (by decide) ?_
      refine W.widen (k := cells + 242) (n := slots + 4193) (by omega) (by omega) ?_
      exact ih (v5 + 6) w182 _ _ _ _ _ (by omega) (by omega) (lv_sub hl [3, 4, 5, 6, 7, 0] rfl) hH hv185
    · have hv186 := hv184.2 hc
      refine lv_aload_n hx hb dL_law_1089 rfl (lv_at hl 5 rfl) ?_
      refine lv_iconst (v := 0) hx hb dL_law_1090 (by decide) ?_
      refine sj_lald hC hH hv186.1 hv186.2.1 dL_law_1091 ?_
      refine lv_iload hx hb dL_law_1092 (lv_at hl 0 rfl) ?_
      refine lv_i2l hx hb dL_law_1094 rfl ?_
      refine W.lcmp hx hb dL_law_1095 ?_
      refine lv_if_eq (tgt := 1101) hx hb dL_law_1096 (by decide) (fun hc => ?_) (fun hc => ?_)
      · have hv187 := hv186.2.2.1 hc
        refine lv_goto (tgt := 3021) hx hb dL_law_1101 (by decide) ?_
        refine lv_iinc (v := (v5 + 6)) (lv' := [(5, .int (v5 + 6)), (7, .int r178), (6, .int r175), (0, .ref b), (1, .ref f1), (2, .ref f2), (3, .ref f3), (4, .ref f4)]) hx hb dL_law_3021 hl (k := 7) rfl rfl (by decide) rfl (fun ls hl => ?_)
        refine lv_goto (tgt := 28) hx hb dL_law_3024 (by decide) ?_
        refine W.widen (k := cells + 242) (n := slots + 4193) (by omega) (by omega) ?_
        exact ih (v5 + 6) w182 _ _ _ _ _ (by omega) (by omega) (lv_sub hl [3, 4, 5, 6, 7, 0] rfl) hH hv187
      · have hv188 := hv186.2.2.2 hc
        refine lv_iconst (v := 0) hx hb dL_law_1099 (by decide) ?_
        exact hv188.elim
  · have hv189 := hv183.2 hc
    refine lv_iconst (v := 0) hx hb dL_law_1082 (by decide) ?_
    exact hv189.elim
set_option maxHeartbeats 4000000 in
set_option maxRecDepth 100000 in
theorem wq_L_law_10 {p : Program} {l : Launch} {e : Env} {s : State} {m : MethodId} {below : List Frame} {meth : Method} {c : Code} {G : sj_G} {L : Nat} {xs : Nat → Int32} {b : Nat} {f1 : Nat} {f2 : Nat} {f3 : Nat} {f4 : Nat} {n : Nat} {v5 : Int32} {w : sj_W} {H : Heap} {locs : List Loc} {ls : Array Slot} {cells slots : Nat} {K : Int32 → sj_W → Prop} (hC : sj_C G p l s m #[Value.ref b] c code RL 9) (hr : meth.sig.returnType = ret) (hk : meth.locks = false) (hX : va_X b L xs s s.heap) (hbl : b < s.heap.size) (hG : G.2.2 = s.heap.size) (hcc : cells + (n + 1) * 242 ≤ 145346) (hcs : slots + (n + 1) * 4193 ≤ 2519522) (hl : lv_has ls 9 [(0, .ref b), (1, .ref f1), (2, .ref f2), (3, .ref f3), (4, .ref f4), (5, .int v5)]) (hH : sj_H G s w H locs) (hc : ((xs v5.toNatClampNeg) &&& 63) = 10) (ih : ∀ (v5 : Int32) (w : sj_W) (H : Heap) (locs : List Loc) (ls : Array Slot) (cells slots : Nat), cells + n * 242 ≤ 145346 → slots + n * 4193 ≤ 2519522 → lv_has ls 9 [(0, .ref b), (1, .ref f1), (2, .ref f2), (3, .ref f3), (4, .ref f4), (5, .int v5)] → sj_H G s w H locs → K v5 w → W p l e room_1 s m #[Value.ref b] below meth c H locs cells slots (lw_Z below #[Value.ref b] s) (F0 m 28 ls [])) (hv190 : vd_L_law_10 L xs K f1 f2 f3 f4 v5 w) : W p l e room_1 s m #[Value.ref b] below meth c H locs cells slots (lw_Z below #[Value.ref b] s) (F0 m 45 ls [.int ((xs v5.toNatClampNeg) &&& 63)]) := by
  have hx := hC.1
  have hb := hC.2.1
  have hbA : ¬ sj_F G b := by unfold sj_F; omega
  have hc1 := sj_rmc
  have hc2 := sj_rms
  refine lv_tableIn (off := 1059) (tgt := 1104) hx hb dL_law_45 (by rw [hc]; decide) (by rw [hc]; decide) (by rw [hc]; rfl) (by decide) ?_
  refine lv_aload_n hx hb dL_law_1104 rfl (lv_at hl 1 rfl) ?_
  refine lv_aload_n hx hb dL_law_1105 rfl (lv_at hl 0 rfl) ?_
  refine lv_iload hx hb dL_law_1106 (lv_at hl 5 rfl) ?_
  refine lv_iconst (v := 1) hx hb dL_law_1108 (by decide) ?_
  refine lv_iadd hx hb dL_law_1109 ?_
  refine va_sld hx hb hX hbl hbA hH.2 hv190.1 dL_law_1110 ?_
  refine lv_aload_n hx hb dL_law_1111 rfl (lv_at hl 0 rfl) ?_
  refine lv_iload hx hb dL_law_1112 (lv_at hl 5 rfl) ?_
  refine lv_iconst (v := 2) hx hb dL_law_1114 (by decide) ?_
  refine lv_iadd hx hb dL_law_1115 ?_
  refine va_sld hx hb hX hbl hbA hH.2 hv190.2.1 dL_law_1116 ?_
  refine lv_i2c hx hb dL_law_1117 rfl ?_
  refine lv_aload_n hx hb dL_law_1118 rfl (lv_at hl 3 rfl) ?_
  refine cg_L_183 hC hH hv190.2.2 ⟨Nat.le_of_ble_eq_true rfl, Nat.le_of_ble_eq_true rfl⟩ ⟨(by have hc1 := sj_rmc; omega), (by have hc1 := sj_rms; omega)⟩ hl.1 (Nat.le_of_ble_eq_true rfl) dL_law_1119 (fun r191 w192 H locs hH hv193 => ?_)
  refine lv_istore (lv' := [(6, .int r191), (0, .ref b), (1, .ref f1), (2, .ref f2), (3, .ref f3), (4, .ref f4), (5, .int v5)]) hx hb dL_law_1122 hl (by decide) rfl (fun ls hl => ?_)
  refine lv_aload_n hx hb dL_law_1124 rfl (lv_at hl 3 rfl) ?_
  refine lv_aload_n hx hb dL_law_1125 rfl (lv_at hl 1 rfl) ?_
  refine lv_iload hx hb dL_law_1126 (lv_at hl 6 rfl) ?_
  refine lv_iconst (v := 1) hx hb dL_law_1128 (by decide) ?_
  refine lv_iadd hx hb dL_law_1129 ?_
  refine va_sld hx hb hX hbl hbA hH.2 hv193.1 dL_law_1130 ?_
  refine lv_aload_n hx hb dL_law_1131 rfl (lv_at hl 1 rfl) ?_
  refine lv_iload hx hb dL_law_1132 (lv_at hl 6 rfl) ?_
  refine lv_iconst (v := 2) hx hb dL_law_1134 (by decide) ?_
  refine lv_iadd hx hb dL_law_1135 ?_
  refine va_sld hx hb hX hbl hbA hH.2 hv193.2.1 dL_law_1136 ?_
  refine lv_i2c hx hb dL_law_1137 rfl ?_
  refine cg_L_186 hC hH hv193.2.2.2 hv193.2.2.1 ⟨Nat.le_of_ble_eq_true rfl, Nat.le_of_ble_eq_true rfl⟩ ⟨(by have hc1 := sj_rmc; omega), (by have hc1 := sj_rms; omega)⟩ hl.1 (Nat.le_of_ble_eq_true rfl) dL_law_1138 (fun r194 w195 H locs hH hv196 => ?_)
  refine lv_istore (lv' := [(7, .int r194), (6, .int r191), (0, .ref b), (1, .ref f1), (2, .ref f2), (3, .ref f3), (4, .ref f4), (5, .int v5)]) hx hb dL_law_1141 hl (by decide) rfl (fun ls hl => ?_)
  refine lv_aload_n hx hb dL_law_1143 rfl (lv_at hl 4 rfl) ?_
  refine cg_L_146 hC hH hv196.2 hv196.1 ⟨Nat.le_of_ble_eq_true rfl, Nat.le_of_ble_eq_true rfl⟩ ⟨(by have hc1 := sj_rmc; omega), (by have hc1 := sj_rms; omega)⟩ hl.1 (Nat.le_of_ble_eq_true rfl) dL_law_1144 (fun r197 w198 H locs hH hv199 => ?_)
  refine lv_iload hx hb dL_law_1147 (lv_at hl 1 rfl) ?_
  refine lv_icmp_eq (tgt := 1154) hx hb dL_law_1149 (by decide) (fun hc => ?_) (fun hc => ?_)
  · have hv200 := hv199.1 hc
    refine lv_iload hx hb dL_law_1154 (lv_at hl 1 rfl) ?_
    refine lv_if_ne (tgt := 1171) hx hb dL_law_1156 (by decide) (fun hc => ?_) (fun hc => ?_)
    · have hv201 := hv200.1 hc
      refine lv_goto (tgt := 3021) hx hb dL_law_1171 (by decide) ?_
      refine lv_iinc (v := (v5 + 6)) (lv' := [(5, .int (v5 + 6)), (7, .int r194), (6, .int r191), (0, .ref b), (1, .ref f1), (2, .ref f2), (3, .ref f3), (4, .ref f4)]) hx hb dL_law_3021 hl (k := 7) rfl rfl (by decide) rfl (fun ls hl => ?_)
      refine lv_goto (tgt := 28) hx hb dL_law_3024 (by decide) ?_
      refine W.widen (k := cells + 242) (n := slots + 4193) (by omega) (by omega) ?_
      exact ih (v5 + 6) w198 _ _ _ _ _ (by omega) (by omega) (lv_sub hl [3, 4, 5, 6, 7, 0] rfl) hH hv201
    · have hv202 := hv200.2 hc
      refine lv_aload_n hx hb dL_law_1159 rfl (lv_at hl 5 rfl) ?_
      refine lv_iconst (v := 0) hx hb dL_law_1160 (by decide) ?_
      refine sj_lald hC hH hv202.1 hv202.2.1 dL_law_1161 ?_
      refine lv_iload hx hb dL_law_1162 (lv_at hl 0 rfl) ?_
      refine lv_i2l hx hb dL_law_1164 rfl ?_
      refine W.lcmp hx hb dL_law_1165 ?_
      refine lv_if_eq (tgt := 1171) hx hb dL_law_1166 (by decide) (fun hc => ?_) (fun hc => ?_)
      · have hv203 := hv202.2.2.1 hc
        refine lv_goto (tgt := 3021) hx hb dL_law_1171 (by decide) ?_
        refine lv_iinc (v := (v5 + 6)) (lv' := [(5, .int (v5 + 6)), (7, .int r194), (6, .int r191), (0, .ref b), (1, .ref f1), (2, .ref f2), (3, .ref f3), (4, .ref f4)]) hx hb dL_law_3021 hl (k := 7) rfl rfl (by decide) rfl (fun ls hl => ?_)
        refine lv_goto (tgt := 28) hx hb dL_law_3024 (by decide) ?_
        refine W.widen (k := cells + 242) (n := slots + 4193) (by omega) (by omega) ?_
        exact ih (v5 + 6) w198 _ _ _ _ _ (by omega) (by omega) (lv_sub hl [3, 4, 5, 6, 7, 0] rfl) hH hv203
      · have hv204 := hv202.2.2.2 hc
        refine lv_iconst (v := 0) hx hb dL_law_1169 (by decide) ?_
        exact hv204.elim
  · have hv205 := hv199.2 hc
    refine lv_iconst (v := 0) hx hb dL_law_1152 (by decide) ?_
    exact hv205.elim
set_option maxHeartbeats 4000000 in
set_option maxRecDepth 100000 in
theorem wq_L_law_11 {p : Program} {l : Launch} {e : Env} {s : State} {m : MethodId} {below : List Frame} {meth : Method} {c : Code} {G : sj_G} {L : Nat} {xs : Nat → Int32} {b : Nat} {f1 : Nat} {f2 : Nat} {f3 : Nat} {f4 : Nat} {n : Nat} {v5 : Int32} {w : sj_W} {H : Heap} {locs : List Loc} {ls : Array Slot} {cells slots : Nat} {K : Int32 → sj_W → Prop} (hC : sj_C G p l s m #[Value.ref b] c code RL 9) (hr : meth.sig.returnType = ret) (hk : meth.locks = false) (hX : va_X b L xs s s.heap) (hbl : b < s.heap.size) (hG : G.2.2 = s.heap.size) (hcc : cells + (n + 1) * 242 ≤ 145346) (hcs : slots + (n + 1) * 4193 ≤ 2519522) (hl : lv_has ls 9 [(0, .ref b), (1, .ref f1), (2, .ref f2), (3, .ref f3), (4, .ref f4), (5, .int v5)]) (hH : sj_H G s w H locs) (hc : ((xs v5.toNatClampNeg) &&& 63) = 11) (ih : ∀ (v5 : Int32) (w : sj_W) (H : Heap) (locs : List Loc) (ls : Array Slot) (cells slots : Nat), cells + n * 242 ≤ 145346 → slots + n * 4193 ≤ 2519522 → lv_has ls 9 [(0, .ref b), (1, .ref f1), (2, .ref f2), (3, .ref f3), (4, .ref f4), (5, .int v5)] → sj_H G s w H locs → K v5 w → W p l e room_1 s m #[Value.ref b] below meth c H locs cells slots (lw_Z below #[Value.ref b] s) (F0 m 28 ls [])) (hv206 : vd_L_law_11 L xs K f1 f2 f3 f4 v5 w) : W p l e room_1 s m #[Value.ref b] below meth c H locs cells slots (lw_Z below #[Value.ref b] s) (F0 m 45 ls [.int ((xs v5.toNatClampNeg) &&& 63)]) := by
  have hx := hC.1
  have hb := hC.2.1
  have hbA : ¬ sj_F G b := by unfold sj_F; omega
  have hc1 := sj_rmc
  have hc2 := sj_rms
  refine lv_tableIn (off := 1129) (tgt := 1174) hx hb dL_law_45 (by rw [hc]; decide) (by rw [hc]; decide) (by rw [hc]; rfl) (by decide) ?_
  refine lv_aload_n hx hb dL_law_1174 rfl (lv_at hl 1 rfl) ?_
  refine lv_aload_n hx hb dL_law_1175 rfl (lv_at hl 0 rfl) ?_
  refine lv_iload hx hb dL_law_1176 (lv_at hl 5 rfl) ?_
  refine lv_iconst (v := 1) hx hb dL_law_1178 (by decide) ?_
  refine lv_iadd hx hb dL_law_1179 ?_
  refine va_sld hx hb hX hbl hbA hH.2 hv206.1 dL_law_1180 ?_
  refine lv_i2c hx hb dL_law_1181 rfl ?_
  refine lv_aload_n hx hb dL_law_1182 rfl (lv_at hl 0 rfl) ?_
  refine lv_iload hx hb dL_law_1183 (lv_at hl 5 rfl) ?_
  refine lv_iconst (v := 2) hx hb dL_law_1185 (by decide) ?_
  refine lv_iadd hx hb dL_law_1186 ?_
  refine va_sld hx hb hX hbl hbA hH.2 hv206.2.1 dL_law_1187 ?_
  refine lv_aload_n hx hb dL_law_1188 rfl (lv_at hl 3 rfl) ?_
  refine cg_L_187 hC hH hv206.2.2 ⟨Nat.le_of_ble_eq_true rfl, Nat.le_of_ble_eq_true rfl⟩ ⟨(by have hc1 := sj_rmc; omega), (by have hc1 := sj_rms; omega)⟩ hl.1 (Nat.le_of_ble_eq_true rfl) dL_law_1189 (fun r207 w208 H locs hH hv209 => ?_)
  refine lv_istore (lv' := [(6, .int r207), (0, .ref b), (1, .ref f1), (2, .ref f2), (3, .ref f3), (4, .ref f4), (5, .int v5)]) hx hb dL_law_1192 hl (by decide) rfl (fun ls hl => ?_)
  refine lv_aload_n hx hb dL_law_1194 rfl (lv_at hl 3 rfl) ?_
  refine lv_aload_n hx hb dL_law_1195 rfl (lv_at hl 1 rfl) ?_
  refine lv_iload hx hb dL_law_1196 (lv_at hl 6 rfl) ?_
  refine lv_iconst (v := 1) hx hb dL_law_1198 (by decide) ?_
  refine lv_iadd hx hb dL_law_1199 ?_
  refine va_sld hx hb hX hbl hbA hH.2 hv209.1 dL_law_1200 ?_
  refine lv_i2c hx hb dL_law_1201 rfl ?_
  refine lv_aload_n hx hb dL_law_1202 rfl (lv_at hl 1 rfl) ?_
  refine lv_iload hx hb dL_law_1203 (lv_at hl 6 rfl) ?_
  refine lv_iconst (v := 2) hx hb dL_law_1205 (by decide) ?_
  refine lv_iadd hx hb dL_law_1206 ?_
  refine va_sld hx hb hX hbl hbA hH.2 hv209.2.1 dL_law_1207 ?_
  refine cg_L_189 hC hH hv209.2.2.2 hv209.2.2.1 ⟨Nat.le_of_ble_eq_true rfl, Nat.le_of_ble_eq_true rfl⟩ ⟨(by have hc1 := sj_rmc; omega), (by have hc1 := sj_rms; omega)⟩ hl.1 (Nat.le_of_ble_eq_true rfl) dL_law_1208 (fun r210 w211 H locs hH hv212 => ?_)
  refine lv_istore (lv' := [(7, .int r210), (6, .int r207), (0, .ref b), (1, .ref f1), (2, .ref f2), (3, .ref f3), (4, .ref f4), (5, .int v5)]) hx hb dL_law_1211 hl (by decide) rfl (fun ls hl => ?_)
  refine lv_aload_n hx hb dL_law_1213 rfl (lv_at hl 4 rfl) ?_
  refine cg_L_146 hC hH hv212.2 hv212.1 ⟨Nat.le_of_ble_eq_true rfl, Nat.le_of_ble_eq_true rfl⟩ ⟨(by have hc1 := sj_rmc; omega), (by have hc1 := sj_rms; omega)⟩ hl.1 (Nat.le_of_ble_eq_true rfl) dL_law_1214 (fun r213 w214 H locs hH hv215 => ?_)
  refine lv_iload hx hb dL_law_1217 (lv_at hl 1 rfl) ?_
  refine lv_icmp_eq (tgt := 1224) hx hb dL_law_1219 (by decide) (fun hc => ?_) (fun hc => ?_)
  · have hv216 := hv215.1 hc
    refine lv_iload hx hb dL_law_1224 (lv_at hl 1 rfl) ?_
    refine lv_if_ne (tgt := 1248) hx hb dL_law_1226 (by decide) (fun hc => ?_) (fun hc => ?_)
    · have hv217 := hv216.1 hc
      refine lv_goto (tgt := 3021) hx hb dL_law_1248 (by decide) ?_
      refine lv_iinc (v := (v5 + 6)) (lv' := [(5, .int (v5 + 6)), (7, .int r210), (6, .int r207), (0, .ref b), (1, .ref f1), (2, .ref f2), (3, .ref f3), (4, .ref f4)]) hx hb dL_law_3021 hl (k := 7) rfl rfl (by decide) rfl (fun ls hl => ?_)
      refine lv_goto (tgt := 28) hx hb dL_law_3024 (by decide) ?_
      refine W.widen (k := cells + 242) (n := slots + 4193) (by omega) (by omega) ?_
      exact ih (v5 + 6) w214 _ _ _ _ _ (by omega) (by omega) (lv_sub hl [3, 4, 5, 6, 7, 0] rfl) hH hv217
    · have hv218 := hv216.2 hc
      refine lv_aload_n hx hb dL_law_1229 rfl (lv_at hl 5 rfl) ?_
      refine lv_iconst (v := 0) hx hb dL_law_1230 (by decide) ?_
      refine sj_lald hC hH hv218.1 hv218.2.1 dL_law_1231 ?_
      refine lv_iload hx hb dL_law_1232 (lv_at hl 0 rfl) ?_
      obtain ⟨E219, hE220, hv223⟩ := sj_jn2_e hv218.2.2
      have hJ221 : ∀ (y0_1242 : Int64) (y1_1242 : Int64) (w_1242 : sj_W) (H : Heap) (locs : List Loc) (ls : Array Slot), lv_has ls 9 [(0, .ref b), (1, .ref f1), (2, .ref f2), (3, .ref f3), (4, .ref f4), (5, .int v5)] → sj_H G s w_1242 H locs → E219 y0_1242 y1_1242 w_1242 → W p l e room_1 s m #[Value.ref b] below meth c H locs (cells + 148) (slots + 3734) (lw_Z below #[Value.ref b] s) (F0 m 1242 ls [.long y0_1242, .long y1_1242]) := by
        intro y0_1242 y1_1242 w_1242 H locs ls hl hH hv224
        rw [hE220] at hv224
        refine W.lcmp hx hb dL_law_1242 ?_
        refine lv_if_eq (tgt := 1248) hx hb dL_law_1243 (by decide) (fun hc => ?_) (fun hc => ?_)
        · have hv227 := hv224.1 hc
          refine lv_goto (tgt := 3021) hx hb dL_law_1248 (by decide) ?_
          refine lv_iinc (v := (v5 + 6)) (lv' := [(5, .int (v5 + 6)), (0, .ref b), (1, .ref f1), (2, .ref f2), (3, .ref f3), (4, .ref f4)]) hx hb dL_law_3021 hl (k := 5) rfl rfl (by decide) rfl (fun ls hl => ?_)
          refine lv_goto (tgt := 28) hx hb dL_law_3024 (by decide) ?_
          refine W.widen (k := cells + 242) (n := slots + 4193) (by omega) (by omega) ?_
          exact ih (v5 + 6) w_1242 _ _ _ _ _ (by omega) (by omega) (lv_sub hl [1, 2, 3, 4, 5, 0] rfl) hH hv227
        · have hv228 := hv224.2 hc
          refine lv_iconst (v := 0) hx hb dL_law_1246 (by decide) ?_
          exact hv228.elim
      clear hE220
      refine lv_if_eq (tgt := 1241) hx hb dL_law_1234 (by decide) (fun hc => ?_) (fun hc => ?_)
      · have hv225 := hv223.1 hc
        refine lv_lconst (v := 0) hx hb dL_law_1241 (by decide) ?_
        refine W.widen (k := cells + 148) (n := slots + 3734) (by omega) (by omega) ?_
        exact hJ221 0 (sj_l w214 f3 (0 : Int32).toNatClampNeg) w214 _ _ _ (lv_sub hl [2, 3, 4, 5, 6, 7] rfl) hH hv225
      · have hv226 := hv223.2 hc
        refine lv_lconst (v := 1) hx hb dL_law_1237 (by decide) ?_
        refine lv_goto (tgt := 1242) hx hb dL_law_1238 (by decide) ?_
        refine W.widen (k := cells + 148) (n := slots + 3734) (by omega) (by omega) ?_
        exact hJ221 1 (sj_l w214 f3 (0 : Int32).toNatClampNeg) w214 _ _ _ (lv_sub hl [2, 3, 4, 5, 6, 7] rfl) hH hv226
  · have hv229 := hv215.2 hc
    refine lv_iconst (v := 0) hx hb dL_law_1222 (by decide) ?_
    exact hv229.elim
set_option maxHeartbeats 4000000 in
set_option maxRecDepth 100000 in
theorem wq_L_law_12 {p : Program} {l : Launch} {e : Env} {s : State} {m : MethodId} {below : List Frame} {meth : Method} {c : Code} {G : sj_G} {L : Nat} {xs : Nat → Int32} {b : Nat} {f1 : Nat} {f2 : Nat} {f3 : Nat} {f4 : Nat} {n : Nat} {v5 : Int32} {w : sj_W} {H : Heap} {locs : List Loc} {ls : Array Slot} {cells slots : Nat} {K : Int32 → sj_W → Prop} (hC : sj_C G p l s m #[Value.ref b] c code RL 9) (hr : meth.sig.returnType = ret) (hk : meth.locks = false) (hX : va_X b L xs s s.heap) (hbl : b < s.heap.size) (hG : G.2.2 = s.heap.size) (hcc : cells + (n + 1) * 242 ≤ 145346) (hcs : slots + (n + 1) * 4193 ≤ 2519522) (hl : lv_has ls 9 [(0, .ref b), (1, .ref f1), (2, .ref f2), (3, .ref f3), (4, .ref f4), (5, .int v5)]) (hH : sj_H G s w H locs) (hc : ((xs v5.toNatClampNeg) &&& 63) = 12) (ih : ∀ (v5 : Int32) (w : sj_W) (H : Heap) (locs : List Loc) (ls : Array Slot) (cells slots : Nat), cells + n * 242 ≤ 145346 → slots + n * 4193 ≤ 2519522 → lv_has ls 9 [(0, .ref b), (1, .ref f1), (2, .ref f2), (3, .ref f3), (4, .ref f4), (5, .int v5)] → sj_H G s w H locs → K v5 w → W p l e room_1 s m #[Value.ref b] below meth c H locs cells slots (lw_Z below #[Value.ref b] s) (F0 m 28 ls [])) (hv230 : vd_L_law_12 L xs K f1 f2 f3 f4 v5 w) : W p l e room_1 s m #[Value.ref b] below meth c H locs cells slots (lw_Z below #[Value.ref b] s) (F0 m 45 ls [.int ((xs v5.toNatClampNeg) &&& 63)]) := by
  have hx := hC.1
  have hb := hC.2.1
  have hbA : ¬ sj_F G b := by unfold sj_F; omega
  have hc1 := sj_rmc
  have hc2 := sj_rms
  refine lv_tableIn (off := 1206) (tgt := 1251) hx hb dL_law_45 (by rw [hc]; decide) (by rw [hc]; decide) (by rw [hc]; rfl) (by decide) ?_
  refine lv_aload_n hx hb dL_law_1251 rfl (lv_at hl 1 rfl) ?_
  refine lv_aload_n hx hb dL_law_1252 rfl (lv_at hl 0 rfl) ?_
  refine lv_iload hx hb dL_law_1253 (lv_at hl 5 rfl) ?_
  refine lv_iconst (v := 1) hx hb dL_law_1255 (by decide) ?_
  refine lv_iadd hx hb dL_law_1256 ?_
  refine va_sld hx hb hX hbl hbA hH.2 hv230.1 dL_law_1257 ?_
  refine lv_i2c hx hb dL_law_1258 rfl ?_
  refine lv_aload_n hx hb dL_law_1259 rfl (lv_at hl 0 rfl) ?_
  refine lv_iload hx hb dL_law_1260 (lv_at hl 5 rfl) ?_
  refine lv_iconst (v := 2) hx hb dL_law_1262 (by decide) ?_
  refine lv_iadd hx hb dL_law_1263 ?_
  refine va_sld hx hb hX hbl hbA hH.2 hv230.2.1 dL_law_1264 ?_
  refine lv_i2c hx hb dL_law_1265 rfl ?_
  refine lv_aload_n hx hb dL_law_1266 rfl (lv_at hl 0 rfl) ?_
  refine lv_iload hx hb dL_law_1267 (lv_at hl 5 rfl) ?_
  refine lv_iconst (v := 3) hx hb dL_law_1269 (by decide) ?_
  refine lv_iadd hx hb dL_law_1270 ?_
  refine va_sld hx hb hX hbl hbA hH.2 hv230.2.2.1 dL_law_1271 ?_
  refine lv_aload_n hx hb dL_law_1272 rfl (lv_at hl 0 rfl) ?_
  refine lv_iload hx hb dL_law_1273 (lv_at hl 5 rfl) ?_
  refine lv_iconst (v := 4) hx hb dL_law_1275 (by decide) ?_
  refine lv_iadd hx hb dL_law_1276 ?_
  refine va_sld hx hb hX hbl hbA hH.2 hv230.2.2.2.1 dL_law_1277 ?_
  refine lv_aload_n hx hb dL_law_1278 rfl (lv_at hl 3 rfl) ?_
  refine cg_L_190 hC hH hv230.2.2.2.2 ⟨Nat.le_of_ble_eq_true rfl, Nat.le_of_ble_eq_true rfl⟩ ⟨(by have hc1 := sj_rmc; omega), (by have hc1 := sj_rms; omega)⟩ hl.1 (Nat.le_of_ble_eq_true rfl) dL_law_1279 (fun r231 w232 H locs hH hv233 => ?_)
  refine lv_istore (lv' := [(6, .int r231), (0, .ref b), (1, .ref f1), (2, .ref f2), (3, .ref f3), (4, .ref f4), (5, .int v5)]) hx hb dL_law_1282 hl (by decide) rfl (fun ls hl => ?_)
  refine lv_aload_n hx hb dL_law_1284 rfl (lv_at hl 3 rfl) ?_
  refine lv_aload_n hx hb dL_law_1285 rfl (lv_at hl 1 rfl) ?_
  refine lv_iload hx hb dL_law_1286 (lv_at hl 6 rfl) ?_
  refine lv_iconst (v := 1) hx hb dL_law_1288 (by decide) ?_
  refine lv_iadd hx hb dL_law_1289 ?_
  refine va_sld hx hb hX hbl hbA hH.2 hv233.1 dL_law_1290 ?_
  refine lv_i2c hx hb dL_law_1291 rfl ?_
  refine lv_aload_n hx hb dL_law_1292 rfl (lv_at hl 1 rfl) ?_
  refine lv_iload hx hb dL_law_1293 (lv_at hl 6 rfl) ?_
  refine lv_iconst (v := 2) hx hb dL_law_1295 (by decide) ?_
  refine lv_iadd hx hb dL_law_1296 ?_
  refine va_sld hx hb hX hbl hbA hH.2 hv233.2.1 dL_law_1297 ?_
  refine lv_i2c hx hb dL_law_1298 rfl ?_
  refine lv_aload_n hx hb dL_law_1299 rfl (lv_at hl 1 rfl) ?_
  refine lv_iload hx hb dL_law_1300 (lv_at hl 6 rfl) ?_
  refine lv_iconst (v := 3) hx hb dL_law_1302 (by decide) ?_
  refine lv_iadd hx hb dL_law_1303 ?_
  refine va_sld hx hb hX hbl hbA hH.2 hv233.2.2.1 dL_law_1304 ?_
  refine lv_aload_n hx hb dL_law_1305 rfl (lv_at hl 1 rfl) ?_
  refine lv_iload hx hb dL_law_1306 (lv_at hl 6 rfl) ?_
  refine lv_iconst (v := 4) hx hb dL_law_1308 (by decide) ?_
  refine lv_iadd hx hb dL_law_1309 ?_
  refine va_sld hx hb hX hbl hbA hH.2 hv233.2.2.2.1 dL_law_1310 ?_
  refine cg_L_193 hC hH hv233.2.2.2.2.2 hv233.2.2.2.2.1 ⟨Nat.le_of_ble_eq_true rfl, Nat.le_of_ble_eq_true rfl⟩ ⟨(by have hc1 := sj_rmc; omega), (by have hc1 := sj_rms; omega)⟩ hl.1 (Nat.le_of_ble_eq_true rfl) dL_law_1311 (fun r234 w235 H locs hH hv236 => ?_)
  refine lv_istore (lv' := [(7, .int r234), (6, .int r231), (0, .ref b), (1, .ref f1), (2, .ref f2), (3, .ref f3), (4, .ref f4), (5, .int v5)]) hx hb dL_law_1314 hl (by decide) rfl (fun ls hl => ?_)
  refine lv_aload_n hx hb dL_law_1316 rfl (lv_at hl 4 rfl) ?_
  refine cg_L_146 hC hH hv236.2 hv236.1 ⟨Nat.le_of_ble_eq_true rfl, Nat.le_of_ble_eq_true rfl⟩ ⟨(by have hc1 := sj_rmc; omega), (by have hc1 := sj_rms; omega)⟩ hl.1 (Nat.le_of_ble_eq_true rfl) dL_law_1317 (fun r237 w238 H locs hH hv239 => ?_)
  refine lv_iload hx hb dL_law_1320 (lv_at hl 1 rfl) ?_
  refine lv_icmp_eq (tgt := 1327) hx hb dL_law_1322 (by decide) (fun hc => ?_) (fun hc => ?_)
  · have hv240 := hv239.1 hc
    refine lv_iload hx hb dL_law_1327 (lv_at hl 1 rfl) ?_
    refine lv_if_ne (tgt := 1344) hx hb dL_law_1329 (by decide) (fun hc => ?_) (fun hc => ?_)
    · have hv241 := hv240.1 hc
      refine lv_goto (tgt := 3021) hx hb dL_law_1344 (by decide) ?_
      refine lv_iinc (v := (v5 + 6)) (lv' := [(5, .int (v5 + 6)), (7, .int r234), (6, .int r231), (0, .ref b), (1, .ref f1), (2, .ref f2), (3, .ref f3), (4, .ref f4)]) hx hb dL_law_3021 hl (k := 7) rfl rfl (by decide) rfl (fun ls hl => ?_)
      refine lv_goto (tgt := 28) hx hb dL_law_3024 (by decide) ?_
      refine W.widen (k := cells + 242) (n := slots + 4193) (by omega) (by omega) ?_
      exact ih (v5 + 6) w238 _ _ _ _ _ (by omega) (by omega) (lv_sub hl [3, 4, 5, 6, 7, 0] rfl) hH hv241
    · have hv242 := hv240.2 hc
      refine lv_aload_n hx hb dL_law_1332 rfl (lv_at hl 5 rfl) ?_
      refine lv_iconst (v := 0) hx hb dL_law_1333 (by decide) ?_
      refine sj_lald hC hH hv242.1 hv242.2.1 dL_law_1334 ?_
      refine lv_iload hx hb dL_law_1335 (lv_at hl 0 rfl) ?_
      refine lv_i2l hx hb dL_law_1337 rfl ?_
      refine W.lcmp hx hb dL_law_1338 ?_
      refine lv_if_eq (tgt := 1344) hx hb dL_law_1339 (by decide) (fun hc => ?_) (fun hc => ?_)
      · have hv243 := hv242.2.2.1 hc
        refine lv_goto (tgt := 3021) hx hb dL_law_1344 (by decide) ?_
        refine lv_iinc (v := (v5 + 6)) (lv' := [(5, .int (v5 + 6)), (7, .int r234), (6, .int r231), (0, .ref b), (1, .ref f1), (2, .ref f2), (3, .ref f3), (4, .ref f4)]) hx hb dL_law_3021 hl (k := 7) rfl rfl (by decide) rfl (fun ls hl => ?_)
        refine lv_goto (tgt := 28) hx hb dL_law_3024 (by decide) ?_
        refine W.widen (k := cells + 242) (n := slots + 4193) (by omega) (by omega) ?_
        exact ih (v5 + 6) w238 _ _ _ _ _ (by omega) (by omega) (lv_sub hl [3, 4, 5, 6, 7, 0] rfl) hH hv243
      · have hv244 := hv242.2.2.2 hc
        refine lv_iconst (v := 0) hx hb dL_law_1342 (by decide) ?_
        exact hv244.elim
  · have hv245 := hv239.2 hc
    refine lv_iconst (v := 0) hx hb dL_law_1325 (by decide) ?_
    exact hv245.elim
set_option maxHeartbeats 4000000 in
set_option maxRecDepth 100000 in
theorem wq_L_law_13 {p : Program} {l : Launch} {e : Env} {s : State} {m : MethodId} {below : List Frame} {meth : Method} {c : Code} {G : sj_G} {L : Nat} {xs : Nat → Int32} {b : Nat} {f1 : Nat} {f2 : Nat} {f3 : Nat} {f4 : Nat} {n : Nat} {v5 : Int32} {w : sj_W} {H : Heap} {locs : List Loc} {ls : Array Slot} {cells slots : Nat} {K : Int32 → sj_W → Prop} (hC : sj_C G p l s m #[Value.ref b] c code RL 9) (hr : meth.sig.returnType = ret) (hk : meth.locks = false) (hX : va_X b L xs s s.heap) (hbl : b < s.heap.size) (hG : G.2.2 = s.heap.size) (hcc : cells + (n + 1) * 242 ≤ 145346) (hcs : slots + (n + 1) * 4193 ≤ 2519522) (hl : lv_has ls 9 [(0, .ref b), (1, .ref f1), (2, .ref f2), (3, .ref f3), (4, .ref f4), (5, .int v5)]) (hH : sj_H G s w H locs) (hc : ((xs v5.toNatClampNeg) &&& 63) = 13) (ih : ∀ (v5 : Int32) (w : sj_W) (H : Heap) (locs : List Loc) (ls : Array Slot) (cells slots : Nat), cells + n * 242 ≤ 145346 → slots + n * 4193 ≤ 2519522 → lv_has ls 9 [(0, .ref b), (1, .ref f1), (2, .ref f2), (3, .ref f3), (4, .ref f4), (5, .int v5)] → sj_H G s w H locs → K v5 w → W p l e room_1 s m #[Value.ref b] below meth c H locs cells slots (lw_Z below #[Value.ref b] s) (F0 m 28 ls [])) (hv246 : vd_L_law_13 L xs K f1 f2 f3 f4 v5 w) : W p l e room_1 s m #[Value.ref b] below meth c H locs cells slots (lw_Z below #[Value.ref b] s) (F0 m 45 ls [.int ((xs v5.toNatClampNeg) &&& 63)]) := by
  have hx := hC.1
  have hb := hC.2.1
  have hbA : ¬ sj_F G b := by unfold sj_F; omega
  have hc1 := sj_rmc
  have hc2 := sj_rms
  refine lv_tableIn (off := 1302) (tgt := 1347) hx hb dL_law_45 (by rw [hc]; decide) (by rw [hc]; decide) (by rw [hc]; rfl) (by decide) ?_
  refine lv_aload_n hx hb dL_law_1347 rfl (lv_at hl 1 rfl) ?_
  refine lv_aload_n hx hb dL_law_1348 rfl (lv_at hl 0 rfl) ?_
  refine lv_iload hx hb dL_law_1349 (lv_at hl 5 rfl) ?_
  refine lv_iconst (v := 1) hx hb dL_law_1351 (by decide) ?_
  refine lv_iadd hx hb dL_law_1352 ?_
  refine va_sld hx hb hX hbl hbA hH.2 hv246.1 dL_law_1353 ?_
  refine lv_i2c hx hb dL_law_1354 rfl ?_
  refine lv_aload_n hx hb dL_law_1355 rfl (lv_at hl 0 rfl) ?_
  refine lv_iload hx hb dL_law_1356 (lv_at hl 5 rfl) ?_
  refine lv_iconst (v := 2) hx hb dL_law_1358 (by decide) ?_
  refine lv_iadd hx hb dL_law_1359 ?_
  refine va_sld hx hb hX hbl hbA hH.2 hv246.2.1 dL_law_1360 ?_
  refine lv_i2c hx hb dL_law_1361 rfl ?_
  refine lv_aload_n hx hb dL_law_1362 rfl (lv_at hl 0 rfl) ?_
  refine lv_iload hx hb dL_law_1363 (lv_at hl 5 rfl) ?_
  refine lv_iconst (v := 3) hx hb dL_law_1365 (by decide) ?_
  refine lv_iadd hx hb dL_law_1366 ?_
  refine va_sld hx hb hX hbl hbA hH.2 hv246.2.2.1 dL_law_1367 ?_
  refine lv_aload_n hx hb dL_law_1368 rfl (lv_at hl 0 rfl) ?_
  refine lv_iload hx hb dL_law_1369 (lv_at hl 5 rfl) ?_
  refine lv_iconst (v := 4) hx hb dL_law_1371 (by decide) ?_
  refine lv_iadd hx hb dL_law_1372 ?_
  refine va_sld hx hb hX hbl hbA hH.2 hv246.2.2.2.1 dL_law_1373 ?_
  refine lv_aload_n hx hb dL_law_1374 rfl (lv_at hl 3 rfl) ?_
  refine cg_L_194 hC hH hv246.2.2.2.2 ⟨Nat.le_of_ble_eq_true rfl, Nat.le_of_ble_eq_true rfl⟩ ⟨(by have hc1 := sj_rmc; omega), (by have hc1 := sj_rms; omega)⟩ hl.1 (Nat.le_of_ble_eq_true rfl) dL_law_1375 (fun r247 w248 H locs hH hv249 => ?_)
  refine lv_istore (lv' := [(6, .int r247), (0, .ref b), (1, .ref f1), (2, .ref f2), (3, .ref f3), (4, .ref f4), (5, .int v5)]) hx hb dL_law_1378 hl (by decide) rfl (fun ls hl => ?_)
  refine lv_aload_n hx hb dL_law_1380 rfl (lv_at hl 3 rfl) ?_
  refine lv_aload_n hx hb dL_law_1381 rfl (lv_at hl 1 rfl) ?_
  refine lv_iload hx hb dL_law_1382 (lv_at hl 6 rfl) ?_
  refine lv_iconst (v := 1) hx hb dL_law_1384 (by decide) ?_
  refine lv_iadd hx hb dL_law_1385 ?_
  refine va_sld hx hb hX hbl hbA hH.2 hv249.1 dL_law_1386 ?_
  refine lv_i2c hx hb dL_law_1387 rfl ?_
  refine lv_aload_n hx hb dL_law_1388 rfl (lv_at hl 1 rfl) ?_
  refine lv_iload hx hb dL_law_1389 (lv_at hl 6 rfl) ?_
  refine lv_iconst (v := 2) hx hb dL_law_1391 (by decide) ?_
  refine lv_iadd hx hb dL_law_1392 ?_
  refine va_sld hx hb hX hbl hbA hH.2 hv249.2.1 dL_law_1393 ?_
  refine lv_i2c hx hb dL_law_1394 rfl ?_
  refine lv_aload_n hx hb dL_law_1395 rfl (lv_at hl 1 rfl) ?_
  refine lv_iload hx hb dL_law_1396 (lv_at hl 6 rfl) ?_
  refine lv_iconst (v := 3) hx hb dL_law_1398 (by decide) ?_
  refine lv_iadd hx hb dL_law_1399 ?_
  refine va_sld hx hb hX hbl hbA hH.2 hv249.2.2.1 dL_law_1400 ?_
  refine lv_aload_n hx hb dL_law_1401 rfl (lv_at hl 1 rfl) ?_
  refine lv_iload hx hb dL_law_1402 (lv_at hl 6 rfl) ?_
  refine lv_iconst (v := 4) hx hb dL_law_1404 (by decide) ?_
  refine lv_iadd hx hb dL_law_1405 ?_
  refine va_sld hx hb hX hbl hbA hH.2 hv249.2.2.2.1 dL_law_1406 ?_
  refine cg_L_196 hC hH hv249.2.2.2.2.2 hv249.2.2.2.2.1 ⟨Nat.le_of_ble_eq_true rfl, Nat.le_of_ble_eq_true rfl⟩ ⟨(by have hc1 := sj_rmc; omega), (by have hc1 := sj_rms; omega)⟩ hl.1 (Nat.le_of_ble_eq_true rfl) dL_law_1407 (fun r250 w251 H locs hH hv252 => ?_)
  refine lv_istore (lv' := [(7, .int r250), (6, .int r247), (0, .ref b), (1, .ref f1), (2, .ref f2), (3, .ref f3), (4, .ref f4), (5, .int v5)]) hx hb dL_law_1410 hl (by decide) rfl (fun ls hl => ?_)
  refine lv_aload_n hx hb dL_law_1412 rfl (lv_at hl 4 rfl) ?_
  refine cg_L_146 hC hH hv252.2 hv252.1 ⟨Nat.le_of_ble_eq_true rfl, Nat.le_of_ble_eq_true rfl⟩ ⟨(by have hc1 := sj_rmc; omega), (by have hc1 := sj_rms; omega)⟩ hl.1 (Nat.le_of_ble_eq_true rfl) dL_law_1413 (fun r253 w254 H locs hH hv255 => ?_)
  refine lv_iload hx hb dL_law_1416 (lv_at hl 1 rfl) ?_
  refine lv_icmp_eq (tgt := 1423) hx hb dL_law_1418 (by decide) (fun hc => ?_) (fun hc => ?_)
  · have hv256 := hv255.1 hc
    refine lv_iload hx hb dL_law_1423 (lv_at hl 1 rfl) ?_
    refine lv_if_ne (tgt := 1440) hx hb dL_law_1425 (by decide) (fun hc => ?_) (fun hc => ?_)
    · have hv257 := hv256.1 hc
      refine lv_goto (tgt := 3021) hx hb dL_law_1440 (by decide) ?_
      refine lv_iinc (v := (v5 + 6)) (lv' := [(5, .int (v5 + 6)), (7, .int r250), (6, .int r247), (0, .ref b), (1, .ref f1), (2, .ref f2), (3, .ref f3), (4, .ref f4)]) hx hb dL_law_3021 hl (k := 7) rfl rfl (by decide) rfl (fun ls hl => ?_)
      refine lv_goto (tgt := 28) hx hb dL_law_3024 (by decide) ?_
      refine W.widen (k := cells + 242) (n := slots + 4193) (by omega) (by omega) ?_
      exact ih (v5 + 6) w254 _ _ _ _ _ (by omega) (by omega) (lv_sub hl [3, 4, 5, 6, 7, 0] rfl) hH hv257
    · have hv258 := hv256.2 hc
      refine lv_aload_n hx hb dL_law_1428 rfl (lv_at hl 5 rfl) ?_
      refine lv_iconst (v := 0) hx hb dL_law_1429 (by decide) ?_
      refine sj_lald hC hH hv258.1 hv258.2.1 dL_law_1430 ?_
      refine lv_iload hx hb dL_law_1431 (lv_at hl 0 rfl) ?_
      refine lv_i2l hx hb dL_law_1433 rfl ?_
      refine W.lcmp hx hb dL_law_1434 ?_
      refine lv_if_eq (tgt := 1440) hx hb dL_law_1435 (by decide) (fun hc => ?_) (fun hc => ?_)
      · have hv259 := hv258.2.2.1 hc
        refine lv_goto (tgt := 3021) hx hb dL_law_1440 (by decide) ?_
        refine lv_iinc (v := (v5 + 6)) (lv' := [(5, .int (v5 + 6)), (7, .int r250), (6, .int r247), (0, .ref b), (1, .ref f1), (2, .ref f2), (3, .ref f3), (4, .ref f4)]) hx hb dL_law_3021 hl (k := 7) rfl rfl (by decide) rfl (fun ls hl => ?_)
        refine lv_goto (tgt := 28) hx hb dL_law_3024 (by decide) ?_
        refine W.widen (k := cells + 242) (n := slots + 4193) (by omega) (by omega) ?_
        exact ih (v5 + 6) w254 _ _ _ _ _ (by omega) (by omega) (lv_sub hl [3, 4, 5, 6, 7, 0] rfl) hH hv259
      · have hv260 := hv258.2.2.2 hc
        refine lv_iconst (v := 0) hx hb dL_law_1438 (by decide) ?_
        exact hv260.elim
  · have hv261 := hv255.2 hc
    refine lv_iconst (v := 0) hx hb dL_law_1421 (by decide) ?_
    exact hv261.elim
set_option maxHeartbeats 4000000 in
set_option maxRecDepth 100000 in
theorem wq_L_law_14 {p : Program} {l : Launch} {e : Env} {s : State} {m : MethodId} {below : List Frame} {meth : Method} {c : Code} {G : sj_G} {L : Nat} {xs : Nat → Int32} {b : Nat} {f1 : Nat} {f2 : Nat} {f3 : Nat} {f4 : Nat} {n : Nat} {v5 : Int32} {w : sj_W} {H : Heap} {locs : List Loc} {ls : Array Slot} {cells slots : Nat} {K : Int32 → sj_W → Prop} (hC : sj_C G p l s m #[Value.ref b] c code RL 9) (hr : meth.sig.returnType = ret) (hk : meth.locks = false) (hX : va_X b L xs s s.heap) (hbl : b < s.heap.size) (hG : G.2.2 = s.heap.size) (hcc : cells + (n + 1) * 242 ≤ 145346) (hcs : slots + (n + 1) * 4193 ≤ 2519522) (hl : lv_has ls 9 [(0, .ref b), (1, .ref f1), (2, .ref f2), (3, .ref f3), (4, .ref f4), (5, .int v5)]) (hH : sj_H G s w H locs) (hc : ((xs v5.toNatClampNeg) &&& 63) = 14) (ih : ∀ (v5 : Int32) (w : sj_W) (H : Heap) (locs : List Loc) (ls : Array Slot) (cells slots : Nat), cells + n * 242 ≤ 145346 → slots + n * 4193 ≤ 2519522 → lv_has ls 9 [(0, .ref b), (1, .ref f1), (2, .ref f2), (3, .ref f3), (4, .ref f4), (5, .int v5)] → sj_H G s w H locs → K v5 w → W p l e room_1 s m #[Value.ref b] below meth c H locs cells slots (lw_Z below #[Value.ref b] s) (F0 m 28 ls [])) (hv262 : vd_L_law_14 L xs K f1 f2 f3 f4 v5 w) : W p l e room_1 s m #[Value.ref b] below meth c H locs cells slots (lw_Z below #[Value.ref b] s) (F0 m 45 ls [.int ((xs v5.toNatClampNeg) &&& 63)]) := by
  have hx := hC.1
  have hb := hC.2.1
  have hbA : ¬ sj_F G b := by unfold sj_F; omega
  have hc1 := sj_rmc
  have hc2 := sj_rms
  refine lv_tableIn (off := 1398) (tgt := 1443) hx hb dL_law_45 (by rw [hc]; decide) (by rw [hc]; decide) (by rw [hc]; rfl) (by decide) ?_
  refine lv_aload_n hx hb dL_law_1443 rfl (lv_at hl 1 rfl) ?_
  refine lv_aload_n hx hb dL_law_1444 rfl (lv_at hl 0 rfl) ?_
  refine lv_iload hx hb dL_law_1445 (lv_at hl 5 rfl) ?_
  refine lv_iconst (v := 1) hx hb dL_law_1447 (by decide) ?_
  refine lv_iadd hx hb dL_law_1448 ?_
  refine va_sld hx hb hX hbl hbA hH.2 hv262.1 dL_law_1449 ?_
  refine lv_i2c hx hb dL_law_1450 rfl ?_
  refine lv_aload_n hx hb dL_law_1451 rfl (lv_at hl 0 rfl) ?_
  refine lv_iload hx hb dL_law_1452 (lv_at hl 5 rfl) ?_
  refine lv_iconst (v := 2) hx hb dL_law_1454 (by decide) ?_
  refine lv_iadd hx hb dL_law_1455 ?_
  refine va_sld hx hb hX hbl hbA hH.2 hv262.2.1 dL_law_1456 ?_
  refine lv_i2c hx hb dL_law_1457 rfl ?_
  refine lv_aload_n hx hb dL_law_1458 rfl (lv_at hl 0 rfl) ?_
  refine lv_iload hx hb dL_law_1459 (lv_at hl 5 rfl) ?_
  refine lv_iconst (v := 3) hx hb dL_law_1461 (by decide) ?_
  refine lv_iadd hx hb dL_law_1462 ?_
  refine va_sld hx hb hX hbl hbA hH.2 hv262.2.2.1 dL_law_1463 ?_
  refine lv_aload_n hx hb dL_law_1464 rfl (lv_at hl 0 rfl) ?_
  refine lv_iload hx hb dL_law_1465 (lv_at hl 5 rfl) ?_
  refine lv_iconst (v := 4) hx hb dL_law_1467 (by decide) ?_
  refine lv_iadd hx hb dL_law_1468 ?_
  refine va_sld hx hb hX hbl hbA hH.2 hv262.2.2.2.1 dL_law_1469 ?_
  refine lv_aload_n hx hb dL_law_1470 rfl (lv_at hl 0 rfl) ?_
  refine lv_iload hx hb dL_law_1471 (lv_at hl 5 rfl) ?_
  refine lv_iconst (v := 5) hx hb dL_law_1473 (by decide) ?_
  refine lv_iadd hx hb dL_law_1474 ?_
  refine va_sld hx hb hX hbl hbA hH.2 hv262.2.2.2.2.1 dL_law_1475 ?_
  refine lv_aload_n hx hb dL_law_1476 rfl (lv_at hl 3 rfl) ?_
  refine cg_L_197 hC hH hv262.2.2.2.2.2 ⟨Nat.le_of_ble_eq_true rfl, Nat.le_of_ble_eq_true rfl⟩ ⟨(by have hc1 := sj_rmc; omega), (by have hc1 := sj_rms; omega)⟩ hl.1 (Nat.le_of_ble_eq_true rfl) dL_law_1477 (fun r263 w264 H locs hH hv265 => ?_)
  refine lv_istore (lv' := [(6, .int r263), (0, .ref b), (1, .ref f1), (2, .ref f2), (3, .ref f3), (4, .ref f4), (5, .int v5)]) hx hb dL_law_1480 hl (by decide) rfl (fun ls hl => ?_)
  refine lv_aload_n hx hb dL_law_1482 rfl (lv_at hl 3 rfl) ?_
  refine lv_aload_n hx hb dL_law_1483 rfl (lv_at hl 1 rfl) ?_
  refine lv_iload hx hb dL_law_1484 (lv_at hl 6 rfl) ?_
  refine lv_iconst (v := 1) hx hb dL_law_1486 (by decide) ?_
  refine lv_iadd hx hb dL_law_1487 ?_
  refine va_sld hx hb hX hbl hbA hH.2 hv265.1 dL_law_1488 ?_
  refine lv_i2c hx hb dL_law_1489 rfl ?_
  refine lv_aload_n hx hb dL_law_1490 rfl (lv_at hl 1 rfl) ?_
  refine lv_iload hx hb dL_law_1491 (lv_at hl 6 rfl) ?_
  refine lv_iconst (v := 2) hx hb dL_law_1493 (by decide) ?_
  refine lv_iadd hx hb dL_law_1494 ?_
  refine va_sld hx hb hX hbl hbA hH.2 hv265.2.1 dL_law_1495 ?_
  refine lv_i2c hx hb dL_law_1496 rfl ?_
  refine lv_aload_n hx hb dL_law_1497 rfl (lv_at hl 1 rfl) ?_
  refine lv_iload hx hb dL_law_1498 (lv_at hl 6 rfl) ?_
  refine lv_iconst (v := 3) hx hb dL_law_1500 (by decide) ?_
  refine lv_iadd hx hb dL_law_1501 ?_
  refine va_sld hx hb hX hbl hbA hH.2 hv265.2.2.1 dL_law_1502 ?_
  refine lv_aload_n hx hb dL_law_1503 rfl (lv_at hl 1 rfl) ?_
  refine lv_iload hx hb dL_law_1504 (lv_at hl 6 rfl) ?_
  refine lv_iconst (v := 4) hx hb dL_law_1506 (by decide) ?_
  refine lv_iadd hx hb dL_law_1507 ?_
  refine va_sld hx hb hX hbl hbA hH.2 hv265.2.2.2.1 dL_law_1508 ?_
  refine lv_aload_n hx hb dL_law_1509 rfl (lv_at hl 1 rfl) ?_
  refine lv_iload hx hb dL_law_1510 (lv_at hl 6 rfl) ?_
  refine lv_iconst (v := 5) hx hb dL_law_1512 (by decide) ?_
  refine lv_iadd hx hb dL_law_1513 ?_
  refine va_sld hx hb hX hbl hbA hH.2 hv265.2.2.2.2.1 dL_law_1514 ?_
  refine cg_L_200 hC hH hv265.2.2.2.2.2.2 hv265.2.2.2.2.2.1 ⟨Nat.le_of_ble_eq_true rfl, Nat.le_of_ble_eq_true rfl⟩ ⟨(by have hc1 := sj_rmc; omega), (by have hc1 := sj_rms; omega)⟩ hl.1 (Nat.le_of_ble_eq_true rfl) dL_law_1515 (fun r266 w267 H locs hH hv268 => ?_)
  refine lv_istore (lv' := [(7, .int r266), (6, .int r263), (0, .ref b), (1, .ref f1), (2, .ref f2), (3, .ref f3), (4, .ref f4), (5, .int v5)]) hx hb dL_law_1518 hl (by decide) rfl (fun ls hl => ?_)
  refine lv_aload_n hx hb dL_law_1520 rfl (lv_at hl 4 rfl) ?_
  refine cg_L_146 hC hH hv268.2 hv268.1 ⟨Nat.le_of_ble_eq_true rfl, Nat.le_of_ble_eq_true rfl⟩ ⟨(by have hc1 := sj_rmc; omega), (by have hc1 := sj_rms; omega)⟩ hl.1 (Nat.le_of_ble_eq_true rfl) dL_law_1521 (fun r269 w270 H locs hH hv271 => ?_)
  refine lv_iload hx hb dL_law_1524 (lv_at hl 1 rfl) ?_
  refine lv_icmp_eq (tgt := 1531) hx hb dL_law_1526 (by decide) (fun hc => ?_) (fun hc => ?_)
  · have hv272 := hv271.1 hc
    refine lv_iload hx hb dL_law_1531 (lv_at hl 1 rfl) ?_
    refine lv_if_ne (tgt := 1548) hx hb dL_law_1533 (by decide) (fun hc => ?_) (fun hc => ?_)
    · have hv273 := hv272.1 hc
      refine lv_goto (tgt := 3021) hx hb dL_law_1548 (by decide) ?_
      refine lv_iinc (v := (v5 + 6)) (lv' := [(5, .int (v5 + 6)), (7, .int r266), (6, .int r263), (0, .ref b), (1, .ref f1), (2, .ref f2), (3, .ref f3), (4, .ref f4)]) hx hb dL_law_3021 hl (k := 7) rfl rfl (by decide) rfl (fun ls hl => ?_)
      refine lv_goto (tgt := 28) hx hb dL_law_3024 (by decide) ?_
      refine W.widen (k := cells + 242) (n := slots + 4193) (by omega) (by omega) ?_
      exact ih (v5 + 6) w270 _ _ _ _ _ (by omega) (by omega) (lv_sub hl [3, 4, 5, 6, 7, 0] rfl) hH hv273
    · have hv274 := hv272.2 hc
      refine lv_aload_n hx hb dL_law_1536 rfl (lv_at hl 5 rfl) ?_
      refine lv_iconst (v := 0) hx hb dL_law_1537 (by decide) ?_
      refine sj_lald hC hH hv274.1 hv274.2.1 dL_law_1538 ?_
      refine lv_iload hx hb dL_law_1539 (lv_at hl 0 rfl) ?_
      refine lv_i2l hx hb dL_law_1541 rfl ?_
      refine W.lcmp hx hb dL_law_1542 ?_
      refine lv_if_eq (tgt := 1548) hx hb dL_law_1543 (by decide) (fun hc => ?_) (fun hc => ?_)
      · have hv275 := hv274.2.2.1 hc
        refine lv_goto (tgt := 3021) hx hb dL_law_1548 (by decide) ?_
        refine lv_iinc (v := (v5 + 6)) (lv' := [(5, .int (v5 + 6)), (7, .int r266), (6, .int r263), (0, .ref b), (1, .ref f1), (2, .ref f2), (3, .ref f3), (4, .ref f4)]) hx hb dL_law_3021 hl (k := 7) rfl rfl (by decide) rfl (fun ls hl => ?_)
        refine lv_goto (tgt := 28) hx hb dL_law_3024 (by decide) ?_
        refine W.widen (k := cells + 242) (n := slots + 4193) (by omega) (by omega) ?_
        exact ih (v5 + 6) w270 _ _ _ _ _ (by omega) (by omega) (lv_sub hl [3, 4, 5, 6, 7, 0] rfl) hH hv275
      · have hv276 := hv274.2.2.2 hc
        refine lv_iconst (v := 0) hx hb dL_law_1546 (by decide) ?_
        exact hv276.elim
  · have hv277 := hv271.2 hc
    refine lv_iconst (v := 0) hx hb dL_law_1529 (by decide) ?_
    exact hv277.elim
set_option maxHeartbeats 4000000 in
set_option maxRecDepth 100000 in
theorem wq_L_law_15 {p : Program} {l : Launch} {e : Env} {s : State} {m : MethodId} {below : List Frame} {meth : Method} {c : Code} {G : sj_G} {L : Nat} {xs : Nat → Int32} {b : Nat} {f1 : Nat} {f2 : Nat} {f3 : Nat} {f4 : Nat} {n : Nat} {v5 : Int32} {w : sj_W} {H : Heap} {locs : List Loc} {ls : Array Slot} {cells slots : Nat} {K : Int32 → sj_W → Prop} (hC : sj_C G p l s m #[Value.ref b] c code RL 9) (hr : meth.sig.returnType = ret) (hk : meth.locks = false) (hX : va_X b L xs s s.heap) (hbl : b < s.heap.size) (hG : G.2.2 = s.heap.size) (hcc : cells + (n + 1) * 242 ≤ 145346) (hcs : slots + (n + 1) * 4193 ≤ 2519522) (hl : lv_has ls 9 [(0, .ref b), (1, .ref f1), (2, .ref f2), (3, .ref f3), (4, .ref f4), (5, .int v5)]) (hH : sj_H G s w H locs) (hc : ((xs v5.toNatClampNeg) &&& 63) = 15) (ih : ∀ (v5 : Int32) (w : sj_W) (H : Heap) (locs : List Loc) (ls : Array Slot) (cells slots : Nat), cells + n * 242 ≤ 145346 → slots + n * 4193 ≤ 2519522 → lv_has ls 9 [(0, .ref b), (1, .ref f1), (2, .ref f2), (3, .ref f3), (4, .ref f4), (5, .int v5)] → sj_H G s w H locs → K v5 w → W p l e room_1 s m #[Value.ref b] below meth c H locs cells slots (lw_Z below #[Value.ref b] s) (F0 m 28 ls [])) (hv278 : vd_L_law_15 L xs K f1 f2 f3 f4 v5 w) : W p l e room_1 s m #[Value.ref b] below meth c H locs cells slots (lw_Z below #[Value.ref b] s) (F0 m 45 ls [.int ((xs v5.toNatClampNeg) &&& 63)]) := by
  have hx := hC.1
  have hb := hC.2.1
  have hbA : ¬ sj_F G b := by unfold sj_F; omega
  have hc1 := sj_rmc
  have hc2 := sj_rms
  refine lv_tableIn (off := 1506) (tgt := 1551) hx hb dL_law_45 (by rw [hc]; decide) (by rw [hc]; decide) (by rw [hc]; rfl) (by decide) ?_
  refine lv_aload_n hx hb dL_law_1551 rfl (lv_at hl 1 rfl) ?_
  refine lv_aload_n hx hb dL_law_1552 rfl (lv_at hl 0 rfl) ?_
  refine lv_iload hx hb dL_law_1553 (lv_at hl 5 rfl) ?_
  refine lv_iconst (v := 1) hx hb dL_law_1555 (by decide) ?_
  refine lv_iadd hx hb dL_law_1556 ?_
  refine va_sld hx hb hX hbl hbA hH.2 hv278.1 dL_law_1557 ?_
  refine lv_i2c hx hb dL_law_1558 rfl ?_
  refine lv_aload_n hx hb dL_law_1559 rfl (lv_at hl 0 rfl) ?_
  refine lv_iload hx hb dL_law_1560 (lv_at hl 5 rfl) ?_
  refine lv_iconst (v := 2) hx hb dL_law_1562 (by decide) ?_
  refine lv_iadd hx hb dL_law_1563 ?_
  refine va_sld hx hb hX hbl hbA hH.2 hv278.2.1 dL_law_1564 ?_
  refine lv_aload_n hx hb dL_law_1565 rfl (lv_at hl 0 rfl) ?_
  refine lv_iload hx hb dL_law_1566 (lv_at hl 5 rfl) ?_
  refine lv_iconst (v := 3) hx hb dL_law_1568 (by decide) ?_
  refine lv_iadd hx hb dL_law_1569 ?_
  refine va_sld hx hb hX hbl hbA hH.2 hv278.2.2.1 dL_law_1570 ?_
  refine lv_aload_n hx hb dL_law_1571 rfl (lv_at hl 3 rfl) ?_
  refine cg_L_201 hC hH hv278.2.2.2 ⟨Nat.le_of_ble_eq_true rfl, Nat.le_of_ble_eq_true rfl⟩ ⟨(by have hc1 := sj_rmc; omega), (by have hc1 := sj_rms; omega)⟩ hl.1 (Nat.le_of_ble_eq_true rfl) dL_law_1572 (fun r279 w280 H locs hH hv281 => ?_)
  refine lv_istore (lv' := [(6, .int r279), (0, .ref b), (1, .ref f1), (2, .ref f2), (3, .ref f3), (4, .ref f4), (5, .int v5)]) hx hb dL_law_1575 hl (by decide) rfl (fun ls hl => ?_)
  refine lv_aload_n hx hb dL_law_1577 rfl (lv_at hl 3 rfl) ?_
  refine lv_aload_n hx hb dL_law_1578 rfl (lv_at hl 1 rfl) ?_
  refine lv_iload hx hb dL_law_1579 (lv_at hl 6 rfl) ?_
  refine lv_iconst (v := 1) hx hb dL_law_1581 (by decide) ?_
  refine lv_iadd hx hb dL_law_1582 ?_
  refine va_sld hx hb hX hbl hbA hH.2 hv281.1 dL_law_1583 ?_
  refine lv_i2c hx hb dL_law_1584 rfl ?_
  refine lv_aload_n hx hb dL_law_1585 rfl (lv_at hl 1 rfl) ?_
  refine lv_iload hx hb dL_law_1586 (lv_at hl 6 rfl) ?_
  refine lv_iconst (v := 2) hx hb dL_law_1588 (by decide) ?_
  refine lv_iadd hx hb dL_law_1589 ?_
  refine va_sld hx hb hX hbl hbA hH.2 hv281.2.1 dL_law_1590 ?_
  refine lv_aload_n hx hb dL_law_1591 rfl (lv_at hl 1 rfl) ?_
  refine lv_iload hx hb dL_law_1592 (lv_at hl 6 rfl) ?_
  refine lv_iconst (v := 3) hx hb dL_law_1594 (by decide) ?_
  refine lv_iadd hx hb dL_law_1595 ?_
  refine va_sld hx hb hX hbl hbA hH.2 hv281.2.2.1 dL_law_1596 ?_
  refine cg_L_203 hC hH hv281.2.2.2.2 hv281.2.2.2.1 ⟨Nat.le_of_ble_eq_true rfl, Nat.le_of_ble_eq_true rfl⟩ ⟨(by have hc1 := sj_rmc; omega), (by have hc1 := sj_rms; omega)⟩ hl.1 (Nat.le_of_ble_eq_true rfl) dL_law_1597 (fun r282 w283 H locs hH hv284 => ?_)
  refine lv_istore (lv' := [(7, .int r282), (6, .int r279), (0, .ref b), (1, .ref f1), (2, .ref f2), (3, .ref f3), (4, .ref f4), (5, .int v5)]) hx hb dL_law_1600 hl (by decide) rfl (fun ls hl => ?_)
  refine lv_aload_n hx hb dL_law_1602 rfl (lv_at hl 4 rfl) ?_
  refine cg_L_146 hC hH hv284.2 hv284.1 ⟨Nat.le_of_ble_eq_true rfl, Nat.le_of_ble_eq_true rfl⟩ ⟨(by have hc1 := sj_rmc; omega), (by have hc1 := sj_rms; omega)⟩ hl.1 (Nat.le_of_ble_eq_true rfl) dL_law_1603 (fun r285 w286 H locs hH hv287 => ?_)
  refine lv_iload hx hb dL_law_1606 (lv_at hl 1 rfl) ?_
  refine lv_icmp_eq (tgt := 1613) hx hb dL_law_1608 (by decide) (fun hc => ?_) (fun hc => ?_)
  · have hv288 := hv287.1 hc
    refine lv_iload hx hb dL_law_1613 (lv_at hl 1 rfl) ?_
    refine lv_if_ne (tgt := 1630) hx hb dL_law_1615 (by decide) (fun hc => ?_) (fun hc => ?_)
    · have hv289 := hv288.1 hc
      refine lv_goto (tgt := 3021) hx hb dL_law_1630 (by decide) ?_
      refine lv_iinc (v := (v5 + 6)) (lv' := [(5, .int (v5 + 6)), (7, .int r282), (6, .int r279), (0, .ref b), (1, .ref f1), (2, .ref f2), (3, .ref f3), (4, .ref f4)]) hx hb dL_law_3021 hl (k := 7) rfl rfl (by decide) rfl (fun ls hl => ?_)
      refine lv_goto (tgt := 28) hx hb dL_law_3024 (by decide) ?_
      refine W.widen (k := cells + 242) (n := slots + 4193) (by omega) (by omega) ?_
      exact ih (v5 + 6) w286 _ _ _ _ _ (by omega) (by omega) (lv_sub hl [3, 4, 5, 6, 7, 0] rfl) hH hv289
    · have hv290 := hv288.2 hc
      refine lv_aload_n hx hb dL_law_1618 rfl (lv_at hl 5 rfl) ?_
      refine lv_iconst (v := 0) hx hb dL_law_1619 (by decide) ?_
      refine sj_lald hC hH hv290.1 hv290.2.1 dL_law_1620 ?_
      refine lv_iload hx hb dL_law_1621 (lv_at hl 0 rfl) ?_
      refine lv_i2l hx hb dL_law_1623 rfl ?_
      refine W.lcmp hx hb dL_law_1624 ?_
      refine lv_if_eq (tgt := 1630) hx hb dL_law_1625 (by decide) (fun hc => ?_) (fun hc => ?_)
      · have hv291 := hv290.2.2.1 hc
        refine lv_goto (tgt := 3021) hx hb dL_law_1630 (by decide) ?_
        refine lv_iinc (v := (v5 + 6)) (lv' := [(5, .int (v5 + 6)), (7, .int r282), (6, .int r279), (0, .ref b), (1, .ref f1), (2, .ref f2), (3, .ref f3), (4, .ref f4)]) hx hb dL_law_3021 hl (k := 7) rfl rfl (by decide) rfl (fun ls hl => ?_)
        refine lv_goto (tgt := 28) hx hb dL_law_3024 (by decide) ?_
        refine W.widen (k := cells + 242) (n := slots + 4193) (by omega) (by omega) ?_
        exact ih (v5 + 6) w286 _ _ _ _ _ (by omega) (by omega) (lv_sub hl [3, 4, 5, 6, 7, 0] rfl) hH hv291
      · have hv292 := hv290.2.2.2 hc
        refine lv_iconst (v := 0) hx hb dL_law_1628 (by decide) ?_
        exact hv292.elim
  · have hv293 := hv287.2 hc
    refine lv_iconst (v := 0) hx hb dL_law_1611 (by decide) ?_
    exact hv293.elim
set_option maxHeartbeats 4000000 in
set_option maxRecDepth 100000 in
theorem wq_L_law_16 {p : Program} {l : Launch} {e : Env} {s : State} {m : MethodId} {below : List Frame} {meth : Method} {c : Code} {G : sj_G} {L : Nat} {xs : Nat → Int32} {b : Nat} {f1 : Nat} {f2 : Nat} {f3 : Nat} {f4 : Nat} {n : Nat} {v5 : Int32} {w : sj_W} {H : Heap} {locs : List Loc} {ls : Array Slot} {cells slots : Nat} {K : Int32 → sj_W → Prop} (hC : sj_C G p l s m #[Value.ref b] c code RL 9) (hr : meth.sig.returnType = ret) (hk : meth.locks = false) (hX : va_X b L xs s s.heap) (hbl : b < s.heap.size) (hG : G.2.2 = s.heap.size) (hcc : cells + (n + 1) * 242 ≤ 145346) (hcs : slots + (n + 1) * 4193 ≤ 2519522) (hl : lv_has ls 9 [(0, .ref b), (1, .ref f1), (2, .ref f2), (3, .ref f3), (4, .ref f4), (5, .int v5)]) (hH : sj_H G s w H locs) (hc : ((xs v5.toNatClampNeg) &&& 63) = 16) (ih : ∀ (v5 : Int32) (w : sj_W) (H : Heap) (locs : List Loc) (ls : Array Slot) (cells slots : Nat), cells + n * 242 ≤ 145346 → slots + n * 4193 ≤ 2519522 → lv_has ls 9 [(0, .ref b), (1, .ref f1), (2, .ref f2), (3, .ref f3), (4, .ref f4), (5, .int v5)] → sj_H G s w H locs → K v5 w → W p l e room_1 s m #[Value.ref b] below meth c H locs cells slots (lw_Z below #[Value.ref b] s) (F0 m 28 ls [])) (hv294 : vd_L_law_16 L xs K f1 f2 f3 f4 v5 w) : W p l e room_1 s m #[Value.ref b] below meth c H locs cells slots (lw_Z below #[Value.ref b] s) (F0 m 45 ls [.int ((xs v5.toNatClampNeg) &&& 63)]) := by
  have hx := hC.1
  have hb := hC.2.1
  have hbA : ¬ sj_F G b := by unfold sj_F; omega
  have hc1 := sj_rmc
  have hc2 := sj_rms
  refine lv_tableIn (off := 1588) (tgt := 1633) hx hb dL_law_45 (by rw [hc]; decide) (by rw [hc]; decide) (by rw [hc]; rfl) (by decide) ?_
  refine lv_aload_n hx hb dL_law_1633 rfl (lv_at hl 1 rfl) ?_
  refine lv_aload_n hx hb dL_law_1634 rfl (lv_at hl 0 rfl) ?_
  refine lv_iload hx hb dL_law_1635 (lv_at hl 5 rfl) ?_
  refine lv_iconst (v := 1) hx hb dL_law_1637 (by decide) ?_
  refine lv_iadd hx hb dL_law_1638 ?_
  refine va_sld hx hb hX hbl hbA hH.2 hv294.1 dL_law_1639 ?_
  refine lv_i2c hx hb dL_law_1640 rfl ?_
  refine lv_aload_n hx hb dL_law_1641 rfl (lv_at hl 0 rfl) ?_
  refine lv_iload hx hb dL_law_1642 (lv_at hl 5 rfl) ?_
  refine lv_iconst (v := 2) hx hb dL_law_1644 (by decide) ?_
  refine lv_iadd hx hb dL_law_1645 ?_
  refine va_sld hx hb hX hbl hbA hH.2 hv294.2.1 dL_law_1646 ?_
  refine lv_i2c hx hb dL_law_1647 rfl ?_
  refine lv_aload_n hx hb dL_law_1648 rfl (lv_at hl 0 rfl) ?_
  refine lv_iload hx hb dL_law_1649 (lv_at hl 5 rfl) ?_
  refine lv_iconst (v := 3) hx hb dL_law_1651 (by decide) ?_
  refine lv_iadd hx hb dL_law_1652 ?_
  refine va_sld hx hb hX hbl hbA hH.2 hv294.2.2.1 dL_law_1653 ?_
  refine lv_aload_n hx hb dL_law_1654 rfl (lv_at hl 3 rfl) ?_
  refine cg_L_204 hC hH hv294.2.2.2 ⟨Nat.le_of_ble_eq_true rfl, Nat.le_of_ble_eq_true rfl⟩ ⟨(by have hc1 := sj_rmc; omega), (by have hc1 := sj_rms; omega)⟩ hl.1 (Nat.le_of_ble_eq_true rfl) dL_law_1655 (fun r295 w296 H locs hH hv297 => ?_)
  refine lv_istore (lv' := [(6, .int r295), (0, .ref b), (1, .ref f1), (2, .ref f2), (3, .ref f3), (4, .ref f4), (5, .int v5)]) hx hb dL_law_1658 hl (by decide) rfl (fun ls hl => ?_)
  refine lv_aload_n hx hb dL_law_1660 rfl (lv_at hl 3 rfl) ?_
  refine lv_aload_n hx hb dL_law_1661 rfl (lv_at hl 1 rfl) ?_
  refine lv_iload hx hb dL_law_1662 (lv_at hl 6 rfl) ?_
  refine lv_iconst (v := 1) hx hb dL_law_1664 (by decide) ?_
  refine lv_iadd hx hb dL_law_1665 ?_
  refine va_sld hx hb hX hbl hbA hH.2 hv297.1 dL_law_1666 ?_
  refine lv_i2c hx hb dL_law_1667 rfl ?_
  refine lv_aload_n hx hb dL_law_1668 rfl (lv_at hl 1 rfl) ?_
  refine lv_iload hx hb dL_law_1669 (lv_at hl 6 rfl) ?_
  refine lv_iconst (v := 2) hx hb dL_law_1671 (by decide) ?_
  refine lv_iadd hx hb dL_law_1672 ?_
  refine va_sld hx hb hX hbl hbA hH.2 hv297.2.1 dL_law_1673 ?_
  refine lv_i2c hx hb dL_law_1674 rfl ?_
  refine lv_aload_n hx hb dL_law_1675 rfl (lv_at hl 1 rfl) ?_
  refine lv_iload hx hb dL_law_1676 (lv_at hl 6 rfl) ?_
  refine lv_iconst (v := 3) hx hb dL_law_1678 (by decide) ?_
  refine lv_iadd hx hb dL_law_1679 ?_
  refine va_sld hx hb hX hbl hbA hH.2 hv297.2.2.1 dL_law_1680 ?_
  refine cg_L_207 hC hH hv297.2.2.2.2 hv297.2.2.2.1 ⟨Nat.le_of_ble_eq_true rfl, Nat.le_of_ble_eq_true rfl⟩ ⟨(by have hc1 := sj_rmc; omega), (by have hc1 := sj_rms; omega)⟩ hl.1 (Nat.le_of_ble_eq_true rfl) dL_law_1681 (fun r298 w299 H locs hH hv300 => ?_)
  refine lv_istore (lv' := [(7, .int r298), (6, .int r295), (0, .ref b), (1, .ref f1), (2, .ref f2), (3, .ref f3), (4, .ref f4), (5, .int v5)]) hx hb dL_law_1684 hl (by decide) rfl (fun ls hl => ?_)
  refine lv_aload_n hx hb dL_law_1686 rfl (lv_at hl 4 rfl) ?_
  refine cg_L_146 hC hH hv300.2 hv300.1 ⟨Nat.le_of_ble_eq_true rfl, Nat.le_of_ble_eq_true rfl⟩ ⟨(by have hc1 := sj_rmc; omega), (by have hc1 := sj_rms; omega)⟩ hl.1 (Nat.le_of_ble_eq_true rfl) dL_law_1687 (fun r301 w302 H locs hH hv303 => ?_)
  refine lv_iload hx hb dL_law_1690 (lv_at hl 1 rfl) ?_
  refine lv_icmp_eq (tgt := 1697) hx hb dL_law_1692 (by decide) (fun hc => ?_) (fun hc => ?_)
  · have hv304 := hv303.1 hc
    refine lv_iload hx hb dL_law_1697 (lv_at hl 1 rfl) ?_
    refine lv_if_ne (tgt := 1714) hx hb dL_law_1699 (by decide) (fun hc => ?_) (fun hc => ?_)
    · have hv305 := hv304.1 hc
      refine lv_goto (tgt := 3021) hx hb dL_law_1714 (by decide) ?_
      refine lv_iinc (v := (v5 + 6)) (lv' := [(5, .int (v5 + 6)), (7, .int r298), (6, .int r295), (0, .ref b), (1, .ref f1), (2, .ref f2), (3, .ref f3), (4, .ref f4)]) hx hb dL_law_3021 hl (k := 7) rfl rfl (by decide) rfl (fun ls hl => ?_)
      refine lv_goto (tgt := 28) hx hb dL_law_3024 (by decide) ?_
      refine W.widen (k := cells + 242) (n := slots + 4193) (by omega) (by omega) ?_
      exact ih (v5 + 6) w302 _ _ _ _ _ (by omega) (by omega) (lv_sub hl [3, 4, 5, 6, 7, 0] rfl) hH hv305
    · have hv306 := hv304.2 hc
      refine lv_aload_n hx hb dL_law_1702 rfl (lv_at hl 5 rfl) ?_
      refine lv_iconst (v := 0) hx hb dL_law_1703 (by decide) ?_
      refine sj_lald hC hH hv306.1 hv306.2.1 dL_law_1704 ?_
      refine lv_iload hx hb dL_law_1705 (lv_at hl 0 rfl) ?_
      refine lv_i2l hx hb dL_law_1707 rfl ?_
      refine W.lcmp hx hb dL_law_1708 ?_
      refine lv_if_eq (tgt := 1714) hx hb dL_law_1709 (by decide) (fun hc => ?_) (fun hc => ?_)
      · have hv307 := hv306.2.2.1 hc
        refine lv_goto (tgt := 3021) hx hb dL_law_1714 (by decide) ?_
        refine lv_iinc (v := (v5 + 6)) (lv' := [(5, .int (v5 + 6)), (7, .int r298), (6, .int r295), (0, .ref b), (1, .ref f1), (2, .ref f2), (3, .ref f3), (4, .ref f4)]) hx hb dL_law_3021 hl (k := 7) rfl rfl (by decide) rfl (fun ls hl => ?_)
        refine lv_goto (tgt := 28) hx hb dL_law_3024 (by decide) ?_
        refine W.widen (k := cells + 242) (n := slots + 4193) (by omega) (by omega) ?_
        exact ih (v5 + 6) w302 _ _ _ _ _ (by omega) (by omega) (lv_sub hl [3, 4, 5, 6, 7, 0] rfl) hH hv307
      · have hv308 := hv306.2.2.2 hc
        refine lv_iconst (v := 0) hx hb dL_law_1712 (by decide) ?_
        exact hv308.elim
  · have hv309 := hv303.2 hc
    refine lv_iconst (v := 0) hx hb dL_law_1695 (by decide) ?_
    exact hv309.elim
set_option maxHeartbeats 4000000 in
set_option maxRecDepth 100000 in
theorem wq_L_law_17 {p : Program} {l : Launch} {e : Env} {s : State} {m : MethodId} {below : List Frame} {meth : Method} {c : Code} {G : sj_G} {L : Nat} {xs : Nat → Int32} {b : Nat} {f1 : Nat} {f2 : Nat} {f3 : Nat} {f4 : Nat} {n : Nat} {v5 : Int32} {w : sj_W} {H : Heap} {locs : List Loc} {ls : Array Slot} {cells slots : Nat} {K : Int32 → sj_W → Prop} (hC : sj_C G p l s m #[Value.ref b] c code RL 9) (hr : meth.sig.returnType = ret) (hk : meth.locks = false) (hX : va_X b L xs s s.heap) (hbl : b < s.heap.size) (hG : G.2.2 = s.heap.size) (hcc : cells + (n + 1) * 242 ≤ 145346) (hcs : slots + (n + 1) * 4193 ≤ 2519522) (hl : lv_has ls 9 [(0, .ref b), (1, .ref f1), (2, .ref f2), (3, .ref f3), (4, .ref f4), (5, .int v5)]) (hH : sj_H G s w H locs) (hc : ((xs v5.toNatClampNeg) &&& 63) = 17) (ih : ∀ (v5 : Int32) (w : sj_W) (H : Heap) (locs : List Loc) (ls : Array Slot) (cells slots : Nat), cells + n * 242 ≤ 145346 → slots + n * 4193 ≤ 2519522 → lv_has ls 9 [(0, .ref b), (1, .ref f1), (2, .ref f2), (3, .ref f3), (4, .ref f4), (5, .int v5)] → sj_H G s w H locs → K v5 w → W p l e room_1 s m #[Value.ref b] below meth c H locs cells slots (lw_Z below #[Value.ref b] s) (F0 m 28 ls [])) (hv310 : vd_L_law_17 L xs K f1 f2 f3 f4 v5 w) : W p l e room_1 s m #[Value.ref b] below meth c H locs cells slots (lw_Z below #[Value.ref b] s) (F0 m 45 ls [.int ((xs v5.toNatClampNeg) &&& 63)]) := by
  have hx := hC.1
  have hb := hC.2.1
  have hbA : ¬ sj_F G b := by unfold sj_F; omega
  have hc1 := sj_rmc
  have hc2 := sj_rms
  refine lv_tableIn (off := 1672) (tgt := 1717) hx hb dL_law_45 (by rw [hc]; decide) (by rw [hc]; decide) (by rw [hc]; rfl) (by decide) ?_
  refine lv_aload_n hx hb dL_law_1717 rfl (lv_at hl 1 rfl) ?_
  refine lv_aload_n hx hb dL_law_1718 rfl (lv_at hl 0 rfl) ?_
  refine lv_iload hx hb dL_law_1719 (lv_at hl 5 rfl) ?_
  refine lv_iconst (v := 1) hx hb dL_law_1721 (by decide) ?_
  refine lv_iadd hx hb dL_law_1722 ?_
  refine va_sld hx hb hX hbl hbA hH.2 hv310.1 dL_law_1723 ?_
  refine lv_i2c hx hb dL_law_1724 rfl ?_
  refine lv_aload_n hx hb dL_law_1725 rfl (lv_at hl 0 rfl) ?_
  refine lv_iload hx hb dL_law_1726 (lv_at hl 5 rfl) ?_
  refine lv_iconst (v := 2) hx hb dL_law_1728 (by decide) ?_
  refine lv_iadd hx hb dL_law_1729 ?_
  refine va_sld hx hb hX hbl hbA hH.2 hv310.2.1 dL_law_1730 ?_
  refine lv_i2c hx hb dL_law_1731 rfl ?_
  refine lv_aload_n hx hb dL_law_1732 rfl (lv_at hl 3 rfl) ?_
  refine cg_L_208 hC hH hv310.2.2 ⟨Nat.le_of_ble_eq_true rfl, Nat.le_of_ble_eq_true rfl⟩ ⟨(by have hc1 := sj_rmc; omega), (by have hc1 := sj_rms; omega)⟩ hl.1 (Nat.le_of_ble_eq_true rfl) dL_law_1733 (fun r311 w312 H locs hH hv313 => ?_)
  refine lv_istore (lv' := [(6, .int r311), (0, .ref b), (1, .ref f1), (2, .ref f2), (3, .ref f3), (4, .ref f4), (5, .int v5)]) hx hb dL_law_1736 hl (by decide) rfl (fun ls hl => ?_)
  refine lv_aload_n hx hb dL_law_1738 rfl (lv_at hl 3 rfl) ?_
  refine lv_aload_n hx hb dL_law_1739 rfl (lv_at hl 1 rfl) ?_
  refine lv_iload hx hb dL_law_1740 (lv_at hl 6 rfl) ?_
  refine lv_iconst (v := 1) hx hb dL_law_1742 (by decide) ?_
  refine lv_iadd hx hb dL_law_1743 ?_
  refine va_sld hx hb hX hbl hbA hH.2 hv313.1 dL_law_1744 ?_
  refine lv_i2c hx hb dL_law_1745 rfl ?_
  refine lv_aload_n hx hb dL_law_1746 rfl (lv_at hl 1 rfl) ?_
  refine lv_iload hx hb dL_law_1747 (lv_at hl 6 rfl) ?_
  refine lv_iconst (v := 2) hx hb dL_law_1749 (by decide) ?_
  refine lv_iadd hx hb dL_law_1750 ?_
  refine va_sld hx hb hX hbl hbA hH.2 hv313.2.1 dL_law_1751 ?_
  refine lv_i2c hx hb dL_law_1752 rfl ?_
  refine cg_L_211 hC hH hv313.2.2.2 hv313.2.2.1 ⟨Nat.le_of_ble_eq_true rfl, Nat.le_of_ble_eq_true rfl⟩ ⟨(by have hc1 := sj_rmc; omega), (by have hc1 := sj_rms; omega)⟩ hl.1 (Nat.le_of_ble_eq_true rfl) dL_law_1753 (fun r314 w315 H locs hH hv316 => ?_)
  refine lv_istore (lv' := [(7, .int r314), (6, .int r311), (0, .ref b), (1, .ref f1), (2, .ref f2), (3, .ref f3), (4, .ref f4), (5, .int v5)]) hx hb dL_law_1756 hl (by decide) rfl (fun ls hl => ?_)
  refine lv_aload_n hx hb dL_law_1758 rfl (lv_at hl 4 rfl) ?_
  refine cg_L_146 hC hH hv316.2 hv316.1 ⟨Nat.le_of_ble_eq_true rfl, Nat.le_of_ble_eq_true rfl⟩ ⟨(by have hc1 := sj_rmc; omega), (by have hc1 := sj_rms; omega)⟩ hl.1 (Nat.le_of_ble_eq_true rfl) dL_law_1759 (fun r317 w318 H locs hH hv319 => ?_)
  refine lv_iload hx hb dL_law_1762 (lv_at hl 1 rfl) ?_
  refine lv_icmp_eq (tgt := 1769) hx hb dL_law_1764 (by decide) (fun hc => ?_) (fun hc => ?_)
  · have hv320 := hv319.1 hc
    refine lv_iload hx hb dL_law_1769 (lv_at hl 1 rfl) ?_
    refine lv_if_ne (tgt := 1786) hx hb dL_law_1771 (by decide) (fun hc => ?_) (fun hc => ?_)
    · have hv321 := hv320.1 hc
      refine lv_goto (tgt := 3021) hx hb dL_law_1786 (by decide) ?_
      refine lv_iinc (v := (v5 + 6)) (lv' := [(5, .int (v5 + 6)), (7, .int r314), (6, .int r311), (0, .ref b), (1, .ref f1), (2, .ref f2), (3, .ref f3), (4, .ref f4)]) hx hb dL_law_3021 hl (k := 7) rfl rfl (by decide) rfl (fun ls hl => ?_)
      refine lv_goto (tgt := 28) hx hb dL_law_3024 (by decide) ?_
      refine W.widen (k := cells + 242) (n := slots + 4193) (by omega) (by omega) ?_
      exact ih (v5 + 6) w318 _ _ _ _ _ (by omega) (by omega) (lv_sub hl [3, 4, 5, 6, 7, 0] rfl) hH hv321
    · have hv322 := hv320.2 hc
      refine lv_aload_n hx hb dL_law_1774 rfl (lv_at hl 5 rfl) ?_
      refine lv_iconst (v := 0) hx hb dL_law_1775 (by decide) ?_
      refine sj_lald hC hH hv322.1 hv322.2.1 dL_law_1776 ?_
      refine lv_iload hx hb dL_law_1777 (lv_at hl 0 rfl) ?_
      refine lv_i2l hx hb dL_law_1779 rfl ?_
      refine W.lcmp hx hb dL_law_1780 ?_
      refine lv_if_eq (tgt := 1786) hx hb dL_law_1781 (by decide) (fun hc => ?_) (fun hc => ?_)
      · have hv323 := hv322.2.2.1 hc
        refine lv_goto (tgt := 3021) hx hb dL_law_1786 (by decide) ?_
        refine lv_iinc (v := (v5 + 6)) (lv' := [(5, .int (v5 + 6)), (7, .int r314), (6, .int r311), (0, .ref b), (1, .ref f1), (2, .ref f2), (3, .ref f3), (4, .ref f4)]) hx hb dL_law_3021 hl (k := 7) rfl rfl (by decide) rfl (fun ls hl => ?_)
        refine lv_goto (tgt := 28) hx hb dL_law_3024 (by decide) ?_
        refine W.widen (k := cells + 242) (n := slots + 4193) (by omega) (by omega) ?_
        exact ih (v5 + 6) w318 _ _ _ _ _ (by omega) (by omega) (lv_sub hl [3, 4, 5, 6, 7, 0] rfl) hH hv323
      · have hv324 := hv322.2.2.2 hc
        refine lv_iconst (v := 0) hx hb dL_law_1784 (by decide) ?_
        exact hv324.elim
  · have hv325 := hv319.2 hc
    refine lv_iconst (v := 0) hx hb dL_law_1767 (by decide) ?_
    exact hv325.elim
set_option maxHeartbeats 4000000 in
set_option maxRecDepth 100000 in
theorem wq_L_law_18 {p : Program} {l : Launch} {e : Env} {s : State} {m : MethodId} {below : List Frame} {meth : Method} {c : Code} {G : sj_G} {L : Nat} {xs : Nat → Int32} {b : Nat} {f1 : Nat} {f2 : Nat} {f3 : Nat} {f4 : Nat} {n : Nat} {v5 : Int32} {w : sj_W} {H : Heap} {locs : List Loc} {ls : Array Slot} {cells slots : Nat} {K : Int32 → sj_W → Prop} (hC : sj_C G p l s m #[Value.ref b] c code RL 9) (hr : meth.sig.returnType = ret) (hk : meth.locks = false) (hX : va_X b L xs s s.heap) (hbl : b < s.heap.size) (hG : G.2.2 = s.heap.size) (hcc : cells + (n + 1) * 242 ≤ 145346) (hcs : slots + (n + 1) * 4193 ≤ 2519522) (hl : lv_has ls 9 [(0, .ref b), (1, .ref f1), (2, .ref f2), (3, .ref f3), (4, .ref f4), (5, .int v5)]) (hH : sj_H G s w H locs) (hc : ((xs v5.toNatClampNeg) &&& 63) = 18) (ih : ∀ (v5 : Int32) (w : sj_W) (H : Heap) (locs : List Loc) (ls : Array Slot) (cells slots : Nat), cells + n * 242 ≤ 145346 → slots + n * 4193 ≤ 2519522 → lv_has ls 9 [(0, .ref b), (1, .ref f1), (2, .ref f2), (3, .ref f3), (4, .ref f4), (5, .int v5)] → sj_H G s w H locs → K v5 w → W p l e room_1 s m #[Value.ref b] below meth c H locs cells slots (lw_Z below #[Value.ref b] s) (F0 m 28 ls [])) (hv326 : vd_L_law_18 L xs K f1 f2 f3 f4 v5 w) : W p l e room_1 s m #[Value.ref b] below meth c H locs cells slots (lw_Z below #[Value.ref b] s) (F0 m 45 ls [.int ((xs v5.toNatClampNeg) &&& 63)]) := by
  have hx := hC.1
  have hb := hC.2.1
  have hbA : ¬ sj_F G b := by unfold sj_F; omega
  have hc1 := sj_rmc
  have hc2 := sj_rms
  refine lv_tableIn (off := 1744) (tgt := 1789) hx hb dL_law_45 (by rw [hc]; decide) (by rw [hc]; decide) (by rw [hc]; rfl) (by decide) ?_
  refine lv_aload_n hx hb dL_law_1789 rfl (lv_at hl 1 rfl) ?_
  refine lv_aload_n hx hb dL_law_1790 rfl (lv_at hl 0 rfl) ?_
  refine lv_iload hx hb dL_law_1791 (lv_at hl 5 rfl) ?_
  refine lv_iconst (v := 1) hx hb dL_law_1793 (by decide) ?_
  refine lv_iadd hx hb dL_law_1794 ?_
  refine va_sld hx hb hX hbl hbA hH.2 hv326.1 dL_law_1795 ?_
  refine lv_aload_n hx hb dL_law_1796 rfl (lv_at hl 3 rfl) ?_
  refine cg_L_212 hC hH hv326.2 ⟨Nat.le_of_ble_eq_true rfl, Nat.le_of_ble_eq_true rfl⟩ ⟨(by have hc1 := sj_rmc; omega), (by have hc1 := sj_rms; omega)⟩ hl.1 (Nat.le_of_ble_eq_true rfl) dL_law_1797 (fun r327 w328 H locs hH hv329 => ?_)
  refine lv_istore (lv' := [(6, .int r327), (0, .ref b), (1, .ref f1), (2, .ref f2), (3, .ref f3), (4, .ref f4), (5, .int v5)]) hx hb dL_law_1800 hl (by decide) rfl (fun ls hl => ?_)
  refine lv_aload_n hx hb dL_law_1802 rfl (lv_at hl 3 rfl) ?_
  refine lv_aload_n hx hb dL_law_1803 rfl (lv_at hl 1 rfl) ?_
  refine lv_iload hx hb dL_law_1804 (lv_at hl 6 rfl) ?_
  refine lv_iconst (v := 1) hx hb dL_law_1806 (by decide) ?_
  refine lv_iadd hx hb dL_law_1807 ?_
  refine va_sld hx hb hX hbl hbA hH.2 hv329.1 dL_law_1808 ?_
  refine cg_L_215 hC hH hv329.2.2 hv329.2.1 ⟨Nat.le_of_ble_eq_true rfl, Nat.le_of_ble_eq_true rfl⟩ ⟨(by have hc1 := sj_rmc; omega), (by have hc1 := sj_rms; omega)⟩ hl.1 (Nat.le_of_ble_eq_true rfl) dL_law_1809 (fun r330 w331 H locs hH hv332 => ?_)
  refine lv_istore (lv' := [(7, .int r330), (6, .int r327), (0, .ref b), (1, .ref f1), (2, .ref f2), (3, .ref f3), (4, .ref f4), (5, .int v5)]) hx hb dL_law_1812 hl (by decide) rfl (fun ls hl => ?_)
  refine lv_aload_n hx hb dL_law_1814 rfl (lv_at hl 4 rfl) ?_
  refine cg_L_146 hC hH hv332.2 hv332.1 ⟨Nat.le_of_ble_eq_true rfl, Nat.le_of_ble_eq_true rfl⟩ ⟨(by have hc1 := sj_rmc; omega), (by have hc1 := sj_rms; omega)⟩ hl.1 (Nat.le_of_ble_eq_true rfl) dL_law_1815 (fun r333 w334 H locs hH hv335 => ?_)
  refine lv_iload hx hb dL_law_1818 (lv_at hl 1 rfl) ?_
  refine lv_icmp_eq (tgt := 1825) hx hb dL_law_1820 (by decide) (fun hc => ?_) (fun hc => ?_)
  · have hv336 := hv335.1 hc
    refine lv_iload hx hb dL_law_1825 (lv_at hl 1 rfl) ?_
    refine lv_if_ne (tgt := 1842) hx hb dL_law_1827 (by decide) (fun hc => ?_) (fun hc => ?_)
    · have hv337 := hv336.1 hc
      refine lv_goto (tgt := 3021) hx hb dL_law_1842 (by decide) ?_
      refine lv_iinc (v := (v5 + 6)) (lv' := [(5, .int (v5 + 6)), (7, .int r330), (6, .int r327), (0, .ref b), (1, .ref f1), (2, .ref f2), (3, .ref f3), (4, .ref f4)]) hx hb dL_law_3021 hl (k := 7) rfl rfl (by decide) rfl (fun ls hl => ?_)
      refine lv_goto (tgt := 28) hx hb dL_law_3024 (by decide) ?_
      refine W.widen (k := cells + 242) (n := slots + 4193) (by omega) (by omega) ?_
      exact ih (v5 + 6) w334 _ _ _ _ _ (by omega) (by omega) (lv_sub hl [3, 4, 5, 6, 7, 0] rfl) hH hv337
    · have hv338 := hv336.2 hc
      refine lv_aload_n hx hb dL_law_1830 rfl (lv_at hl 5 rfl) ?_
      refine lv_iconst (v := 0) hx hb dL_law_1831 (by decide) ?_
      refine sj_lald hC hH hv338.1 hv338.2.1 dL_law_1832 ?_
      refine lv_iload hx hb dL_law_1833 (lv_at hl 0 rfl) ?_
      refine lv_i2l hx hb dL_law_1835 rfl ?_
      refine W.lcmp hx hb dL_law_1836 ?_
      refine lv_if_eq (tgt := 1842) hx hb dL_law_1837 (by decide) (fun hc => ?_) (fun hc => ?_)
      · have hv339 := hv338.2.2.1 hc
        refine lv_goto (tgt := 3021) hx hb dL_law_1842 (by decide) ?_
        refine lv_iinc (v := (v5 + 6)) (lv' := [(5, .int (v5 + 6)), (7, .int r330), (6, .int r327), (0, .ref b), (1, .ref f1), (2, .ref f2), (3, .ref f3), (4, .ref f4)]) hx hb dL_law_3021 hl (k := 7) rfl rfl (by decide) rfl (fun ls hl => ?_)
        refine lv_goto (tgt := 28) hx hb dL_law_3024 (by decide) ?_
        refine W.widen (k := cells + 242) (n := slots + 4193) (by omega) (by omega) ?_
        exact ih (v5 + 6) w334 _ _ _ _ _ (by omega) (by omega) (lv_sub hl [3, 4, 5, 6, 7, 0] rfl) hH hv339
      · have hv340 := hv338.2.2.2 hc
        refine lv_iconst (v := 0) hx hb dL_law_1840 (by decide) ?_
        exact hv340.elim
  · have hv341 := hv335.2 hc
    refine lv_iconst (v := 0) hx hb dL_law_1823 (by decide) ?_
    exact hv341.elim
set_option maxHeartbeats 4000000 in
set_option maxRecDepth 100000 in
theorem wq_L_law_19 {p : Program} {l : Launch} {e : Env} {s : State} {m : MethodId} {below : List Frame} {meth : Method} {c : Code} {G : sj_G} {L : Nat} {xs : Nat → Int32} {b : Nat} {f1 : Nat} {f2 : Nat} {f3 : Nat} {f4 : Nat} {n : Nat} {v5 : Int32} {w : sj_W} {H : Heap} {locs : List Loc} {ls : Array Slot} {cells slots : Nat} {K : Int32 → sj_W → Prop} (hC : sj_C G p l s m #[Value.ref b] c code RL 9) (hr : meth.sig.returnType = ret) (hk : meth.locks = false) (hX : va_X b L xs s s.heap) (hbl : b < s.heap.size) (hG : G.2.2 = s.heap.size) (hcc : cells + (n + 1) * 242 ≤ 145346) (hcs : slots + (n + 1) * 4193 ≤ 2519522) (hl : lv_has ls 9 [(0, .ref b), (1, .ref f1), (2, .ref f2), (3, .ref f3), (4, .ref f4), (5, .int v5)]) (hH : sj_H G s w H locs) (hc : ((xs v5.toNatClampNeg) &&& 63) = 19) (ih : ∀ (v5 : Int32) (w : sj_W) (H : Heap) (locs : List Loc) (ls : Array Slot) (cells slots : Nat), cells + n * 242 ≤ 145346 → slots + n * 4193 ≤ 2519522 → lv_has ls 9 [(0, .ref b), (1, .ref f1), (2, .ref f2), (3, .ref f3), (4, .ref f4), (5, .int v5)] → sj_H G s w H locs → K v5 w → W p l e room_1 s m #[Value.ref b] below meth c H locs cells slots (lw_Z below #[Value.ref b] s) (F0 m 28 ls [])) (hv342 : vd_L_law_19 L xs K f1 f2 f3 f4 v5 w) : W p l e room_1 s m #[Value.ref b] below meth c H locs cells slots (lw_Z below #[Value.ref b] s) (F0 m 45 ls [.int ((xs v5.toNatClampNeg) &&& 63)]) := by
  have hx := hC.1
  have hb := hC.2.1
  have hbA : ¬ sj_F G b := by unfold sj_F; omega
  have hc1 := sj_rmc
  have hc2 := sj_rms
  refine lv_tableIn (off := 1800) (tgt := 1845) hx hb dL_law_45 (by rw [hc]; decide) (by rw [hc]; decide) (by rw [hc]; rfl) (by decide) ?_
  refine lv_aload_n hx hb dL_law_1845 rfl (lv_at hl 1 rfl) ?_
  refine lv_aload_n hx hb dL_law_1846 rfl (lv_at hl 0 rfl) ?_
  refine lv_iload hx hb dL_law_1847 (lv_at hl 5 rfl) ?_
  refine lv_iconst (v := 1) hx hb dL_law_1849 (by decide) ?_
  refine lv_iadd hx hb dL_law_1850 ?_
  refine va_sld hx hb hX hbl hbA hH.2 hv342.1 dL_law_1851 ?_
  refine lv_i2c hx hb dL_law_1852 rfl ?_
  refine lv_aload_n hx hb dL_law_1853 rfl (lv_at hl 0 rfl) ?_
  refine lv_iload hx hb dL_law_1854 (lv_at hl 5 rfl) ?_
  refine lv_iconst (v := 2) hx hb dL_law_1856 (by decide) ?_
  refine lv_iadd hx hb dL_law_1857 ?_
  refine va_sld hx hb hX hbl hbA hH.2 hv342.2.1 dL_law_1858 ?_
  refine lv_i2c hx hb dL_law_1859 rfl ?_
  refine lv_aload_n hx hb dL_law_1860 rfl (lv_at hl 0 rfl) ?_
  refine lv_iload hx hb dL_law_1861 (lv_at hl 5 rfl) ?_
  refine lv_iconst (v := 3) hx hb dL_law_1863 (by decide) ?_
  refine lv_iadd hx hb dL_law_1864 ?_
  refine va_sld hx hb hX hbl hbA hH.2 hv342.2.2.1 dL_law_1865 ?_
  refine lv_aload_n hx hb dL_law_1866 rfl (lv_at hl 0 rfl) ?_
  refine lv_iload hx hb dL_law_1867 (lv_at hl 5 rfl) ?_
  refine lv_iconst (v := 4) hx hb dL_law_1869 (by decide) ?_
  refine lv_iadd hx hb dL_law_1870 ?_
  refine va_sld hx hb hX hbl hbA hH.2 hv342.2.2.2.1 dL_law_1871 ?_
  refine lv_aload_n hx hb dL_law_1872 rfl (lv_at hl 3 rfl) ?_
  refine cg_L_216 hC hH hv342.2.2.2.2 ⟨Nat.le_of_ble_eq_true rfl, Nat.le_of_ble_eq_true rfl⟩ ⟨(by have hc1 := sj_rmc; omega), (by have hc1 := sj_rms; omega)⟩ hl.1 (Nat.le_of_ble_eq_true rfl) dL_law_1873 (fun r343 w344 H locs hH hv345 => ?_)
  refine lv_istore (lv' := [(6, .int r343), (0, .ref b), (1, .ref f1), (2, .ref f2), (3, .ref f3), (4, .ref f4), (5, .int v5)]) hx hb dL_law_1876 hl (by decide) rfl (fun ls hl => ?_)
  refine lv_aload_n hx hb dL_law_1878 rfl (lv_at hl 3 rfl) ?_
  refine lv_aload_n hx hb dL_law_1879 rfl (lv_at hl 1 rfl) ?_
  refine lv_iload hx hb dL_law_1880 (lv_at hl 6 rfl) ?_
  refine lv_iconst (v := 1) hx hb dL_law_1882 (by decide) ?_
  refine lv_iadd hx hb dL_law_1883 ?_
  refine va_sld hx hb hX hbl hbA hH.2 hv345.1 dL_law_1884 ?_
  refine lv_i2c hx hb dL_law_1885 rfl ?_
  refine lv_aload_n hx hb dL_law_1886 rfl (lv_at hl 1 rfl) ?_
  refine lv_iload hx hb dL_law_1887 (lv_at hl 6 rfl) ?_
  refine lv_iconst (v := 2) hx hb dL_law_1889 (by decide) ?_
  refine lv_iadd hx hb dL_law_1890 ?_
  refine va_sld hx hb hX hbl hbA hH.2 hv345.2.1 dL_law_1891 ?_
  refine lv_i2c hx hb dL_law_1892 rfl ?_
  refine lv_aload_n hx hb dL_law_1893 rfl (lv_at hl 1 rfl) ?_
  refine lv_iload hx hb dL_law_1894 (lv_at hl 6 rfl) ?_
  refine lv_iconst (v := 3) hx hb dL_law_1896 (by decide) ?_
  refine lv_iadd hx hb dL_law_1897 ?_
  refine va_sld hx hb hX hbl hbA hH.2 hv345.2.2.1 dL_law_1898 ?_
  refine lv_aload_n hx hb dL_law_1899 rfl (lv_at hl 1 rfl) ?_
  refine lv_iload hx hb dL_law_1900 (lv_at hl 6 rfl) ?_
  refine lv_iconst (v := 4) hx hb dL_law_1902 (by decide) ?_
  refine lv_iadd hx hb dL_law_1903 ?_
  refine va_sld hx hb hX hbl hbA hH.2 hv345.2.2.2.1 dL_law_1904 ?_
  refine cg_L_218 hC hH hv345.2.2.2.2.2 hv345.2.2.2.2.1 ⟨Nat.le_of_ble_eq_true rfl, Nat.le_of_ble_eq_true rfl⟩ ⟨(by have hc1 := sj_rmc; omega), (by have hc1 := sj_rms; omega)⟩ hl.1 (Nat.le_of_ble_eq_true rfl) dL_law_1905 (fun r346 w347 H locs hH hv348 => ?_)
  refine lv_istore (lv' := [(7, .int r346), (6, .int r343), (0, .ref b), (1, .ref f1), (2, .ref f2), (3, .ref f3), (4, .ref f4), (5, .int v5)]) hx hb dL_law_1908 hl (by decide) rfl (fun ls hl => ?_)
  refine lv_aload_n hx hb dL_law_1910 rfl (lv_at hl 4 rfl) ?_
  refine cg_L_146 hC hH hv348.2 hv348.1 ⟨Nat.le_of_ble_eq_true rfl, Nat.le_of_ble_eq_true rfl⟩ ⟨(by have hc1 := sj_rmc; omega), (by have hc1 := sj_rms; omega)⟩ hl.1 (Nat.le_of_ble_eq_true rfl) dL_law_1911 (fun r349 w350 H locs hH hv351 => ?_)
  refine lv_iload hx hb dL_law_1914 (lv_at hl 1 rfl) ?_
  refine lv_icmp_eq (tgt := 1921) hx hb dL_law_1916 (by decide) (fun hc => ?_) (fun hc => ?_)
  · have hv352 := hv351.1 hc
    refine lv_iload hx hb dL_law_1921 (lv_at hl 1 rfl) ?_
    refine lv_if_ne (tgt := 1938) hx hb dL_law_1923 (by decide) (fun hc => ?_) (fun hc => ?_)
    · have hv353 := hv352.1 hc
      refine lv_goto (tgt := 3021) hx hb dL_law_1938 (by decide) ?_
      refine lv_iinc (v := (v5 + 6)) (lv' := [(5, .int (v5 + 6)), (7, .int r346), (6, .int r343), (0, .ref b), (1, .ref f1), (2, .ref f2), (3, .ref f3), (4, .ref f4)]) hx hb dL_law_3021 hl (k := 7) rfl rfl (by decide) rfl (fun ls hl => ?_)
      refine lv_goto (tgt := 28) hx hb dL_law_3024 (by decide) ?_
      refine W.widen (k := cells + 242) (n := slots + 4193) (by omega) (by omega) ?_
      exact ih (v5 + 6) w350 _ _ _ _ _ (by omega) (by omega) (lv_sub hl [3, 4, 5, 6, 7, 0] rfl) hH hv353
    · have hv354 := hv352.2 hc
      refine lv_aload_n hx hb dL_law_1926 rfl (lv_at hl 5 rfl) ?_
      refine lv_iconst (v := 0) hx hb dL_law_1927 (by decide) ?_
      refine sj_lald hC hH hv354.1 hv354.2.1 dL_law_1928 ?_
      refine lv_iload hx hb dL_law_1929 (lv_at hl 0 rfl) ?_
      refine lv_i2l hx hb dL_law_1931 rfl ?_
      refine W.lcmp hx hb dL_law_1932 ?_
      refine lv_if_eq (tgt := 1938) hx hb dL_law_1933 (by decide) (fun hc => ?_) (fun hc => ?_)
      · have hv355 := hv354.2.2.1 hc
        refine lv_goto (tgt := 3021) hx hb dL_law_1938 (by decide) ?_
        refine lv_iinc (v := (v5 + 6)) (lv' := [(5, .int (v5 + 6)), (7, .int r346), (6, .int r343), (0, .ref b), (1, .ref f1), (2, .ref f2), (3, .ref f3), (4, .ref f4)]) hx hb dL_law_3021 hl (k := 7) rfl rfl (by decide) rfl (fun ls hl => ?_)
        refine lv_goto (tgt := 28) hx hb dL_law_3024 (by decide) ?_
        refine W.widen (k := cells + 242) (n := slots + 4193) (by omega) (by omega) ?_
        exact ih (v5 + 6) w350 _ _ _ _ _ (by omega) (by omega) (lv_sub hl [3, 4, 5, 6, 7, 0] rfl) hH hv355
      · have hv356 := hv354.2.2.2 hc
        refine lv_iconst (v := 0) hx hb dL_law_1936 (by decide) ?_
        exact hv356.elim
  · have hv357 := hv351.2 hc
    refine lv_iconst (v := 0) hx hb dL_law_1919 (by decide) ?_
    exact hv357.elim
set_option maxHeartbeats 4000000 in
set_option maxRecDepth 100000 in
theorem wq_L_law_20 {p : Program} {l : Launch} {e : Env} {s : State} {m : MethodId} {below : List Frame} {meth : Method} {c : Code} {G : sj_G} {L : Nat} {xs : Nat → Int32} {b : Nat} {f1 : Nat} {f2 : Nat} {f3 : Nat} {f4 : Nat} {n : Nat} {v5 : Int32} {w : sj_W} {H : Heap} {locs : List Loc} {ls : Array Slot} {cells slots : Nat} {K : Int32 → sj_W → Prop} (hC : sj_C G p l s m #[Value.ref b] c code RL 9) (hr : meth.sig.returnType = ret) (hk : meth.locks = false) (hX : va_X b L xs s s.heap) (hbl : b < s.heap.size) (hG : G.2.2 = s.heap.size) (hcc : cells + (n + 1) * 242 ≤ 145346) (hcs : slots + (n + 1) * 4193 ≤ 2519522) (hl : lv_has ls 9 [(0, .ref b), (1, .ref f1), (2, .ref f2), (3, .ref f3), (4, .ref f4), (5, .int v5)]) (hH : sj_H G s w H locs) (hc : ((xs v5.toNatClampNeg) &&& 63) = 20) (ih : ∀ (v5 : Int32) (w : sj_W) (H : Heap) (locs : List Loc) (ls : Array Slot) (cells slots : Nat), cells + n * 242 ≤ 145346 → slots + n * 4193 ≤ 2519522 → lv_has ls 9 [(0, .ref b), (1, .ref f1), (2, .ref f2), (3, .ref f3), (4, .ref f4), (5, .int v5)] → sj_H G s w H locs → K v5 w → W p l e room_1 s m #[Value.ref b] below meth c H locs cells slots (lw_Z below #[Value.ref b] s) (F0 m 28 ls [])) (hv358 : vd_L_law_20 L xs K f1 f2 f3 f4 v5 w) : W p l e room_1 s m #[Value.ref b] below meth c H locs cells slots (lw_Z below #[Value.ref b] s) (F0 m 45 ls [.int ((xs v5.toNatClampNeg) &&& 63)]) := by
  have hx := hC.1
  have hb := hC.2.1
  have hbA : ¬ sj_F G b := by unfold sj_F; omega
  have hc1 := sj_rmc
  have hc2 := sj_rms
  refine lv_tableIn (off := 1896) (tgt := 1941) hx hb dL_law_45 (by rw [hc]; decide) (by rw [hc]; decide) (by rw [hc]; rfl) (by decide) ?_
  refine lv_aload_n hx hb dL_law_1941 rfl (lv_at hl 1 rfl) ?_
  refine lv_aload_n hx hb dL_law_1942 rfl (lv_at hl 0 rfl) ?_
  refine lv_iload hx hb dL_law_1943 (lv_at hl 5 rfl) ?_
  refine lv_iconst (v := 1) hx hb dL_law_1945 (by decide) ?_
  refine lv_iadd hx hb dL_law_1946 ?_
  refine va_sld hx hb hX hbl hbA hH.2 hv358.1 dL_law_1947 ?_
  refine lv_i2c hx hb dL_law_1948 rfl ?_
  refine lv_aload_n hx hb dL_law_1949 rfl (lv_at hl 0 rfl) ?_
  refine lv_iload hx hb dL_law_1950 (lv_at hl 5 rfl) ?_
  refine lv_iconst (v := 2) hx hb dL_law_1952 (by decide) ?_
  refine lv_iadd hx hb dL_law_1953 ?_
  refine va_sld hx hb hX hbl hbA hH.2 hv358.2.1 dL_law_1954 ?_
  refine lv_aload_n hx hb dL_law_1955 rfl (lv_at hl 3 rfl) ?_
  refine cg_L_219 hC hH hv358.2.2 ⟨Nat.le_of_ble_eq_true rfl, Nat.le_of_ble_eq_true rfl⟩ ⟨(by have hc1 := sj_rmc; omega), (by have hc1 := sj_rms; omega)⟩ hl.1 (Nat.le_of_ble_eq_true rfl) dL_law_1956 (fun r359 w360 H locs hH hv361 => ?_)
  refine lv_istore (lv' := [(6, .int r359), (0, .ref b), (1, .ref f1), (2, .ref f2), (3, .ref f3), (4, .ref f4), (5, .int v5)]) hx hb dL_law_1959 hl (by decide) rfl (fun ls hl => ?_)
  refine lv_aload_n hx hb dL_law_1961 rfl (lv_at hl 3 rfl) ?_
  refine lv_aload_n hx hb dL_law_1962 rfl (lv_at hl 1 rfl) ?_
  refine lv_iload hx hb dL_law_1963 (lv_at hl 6 rfl) ?_
  refine lv_iconst (v := 1) hx hb dL_law_1965 (by decide) ?_
  refine lv_iadd hx hb dL_law_1966 ?_
  refine va_sld hx hb hX hbl hbA hH.2 hv361.1 dL_law_1967 ?_
  refine lv_i2c hx hb dL_law_1968 rfl ?_
  refine lv_aload_n hx hb dL_law_1969 rfl (lv_at hl 1 rfl) ?_
  refine lv_iload hx hb dL_law_1970 (lv_at hl 6 rfl) ?_
  refine lv_iconst (v := 2) hx hb dL_law_1972 (by decide) ?_
  refine lv_iadd hx hb dL_law_1973 ?_
  refine va_sld hx hb hX hbl hbA hH.2 hv361.2.1 dL_law_1974 ?_
  refine cg_L_221 hC hH hv361.2.2.2 hv361.2.2.1 ⟨Nat.le_of_ble_eq_true rfl, Nat.le_of_ble_eq_true rfl⟩ ⟨(by have hc1 := sj_rmc; omega), (by have hc1 := sj_rms; omega)⟩ hl.1 (Nat.le_of_ble_eq_true rfl) dL_law_1975 (fun r362 w363 H locs hH hv364 => ?_)
  refine lv_istore (lv' := [(7, .int r362), (6, .int r359), (0, .ref b), (1, .ref f1), (2, .ref f2), (3, .ref f3), (4, .ref f4), (5, .int v5)]) hx hb dL_law_1978 hl (by decide) rfl (fun ls hl => ?_)
  refine lv_aload_n hx hb dL_law_1980 rfl (lv_at hl 4 rfl) ?_
  refine cg_L_146 hC hH hv364.2 hv364.1 ⟨Nat.le_of_ble_eq_true rfl, Nat.le_of_ble_eq_true rfl⟩ ⟨(by have hc1 := sj_rmc; omega), (by have hc1 := sj_rms; omega)⟩ hl.1 (Nat.le_of_ble_eq_true rfl) dL_law_1981 (fun r365 w366 H locs hH hv367 => ?_)
  refine lv_iload hx hb dL_law_1984 (lv_at hl 1 rfl) ?_
  refine lv_icmp_eq (tgt := 1991) hx hb dL_law_1986 (by decide) (fun hc => ?_) (fun hc => ?_)
  · have hv368 := hv367.1 hc
    refine lv_iload hx hb dL_law_1991 (lv_at hl 1 rfl) ?_
    refine lv_if_ne (tgt := 2008) hx hb dL_law_1993 (by decide) (fun hc => ?_) (fun hc => ?_)
    · have hv369 := hv368.1 hc
      refine lv_goto (tgt := 3021) hx hb dL_law_2008 (by decide) ?_
      refine lv_iinc (v := (v5 + 6)) (lv' := [(5, .int (v5 + 6)), (7, .int r362), (6, .int r359), (0, .ref b), (1, .ref f1), (2, .ref f2), (3, .ref f3), (4, .ref f4)]) hx hb dL_law_3021 hl (k := 7) rfl rfl (by decide) rfl (fun ls hl => ?_)
      refine lv_goto (tgt := 28) hx hb dL_law_3024 (by decide) ?_
      refine W.widen (k := cells + 242) (n := slots + 4193) (by omega) (by omega) ?_
      exact ih (v5 + 6) w366 _ _ _ _ _ (by omega) (by omega) (lv_sub hl [3, 4, 5, 6, 7, 0] rfl) hH hv369
    · have hv370 := hv368.2 hc
      refine lv_aload_n hx hb dL_law_1996 rfl (lv_at hl 5 rfl) ?_
      refine lv_iconst (v := 0) hx hb dL_law_1997 (by decide) ?_
      refine sj_lald hC hH hv370.1 hv370.2.1 dL_law_1998 ?_
      refine lv_iload hx hb dL_law_1999 (lv_at hl 0 rfl) ?_
      refine lv_i2l hx hb dL_law_2001 rfl ?_
      refine W.lcmp hx hb dL_law_2002 ?_
      refine lv_if_eq (tgt := 2008) hx hb dL_law_2003 (by decide) (fun hc => ?_) (fun hc => ?_)
      · have hv371 := hv370.2.2.1 hc
        refine lv_goto (tgt := 3021) hx hb dL_law_2008 (by decide) ?_
        refine lv_iinc (v := (v5 + 6)) (lv' := [(5, .int (v5 + 6)), (7, .int r362), (6, .int r359), (0, .ref b), (1, .ref f1), (2, .ref f2), (3, .ref f3), (4, .ref f4)]) hx hb dL_law_3021 hl (k := 7) rfl rfl (by decide) rfl (fun ls hl => ?_)
        refine lv_goto (tgt := 28) hx hb dL_law_3024 (by decide) ?_
        refine W.widen (k := cells + 242) (n := slots + 4193) (by omega) (by omega) ?_
        exact ih (v5 + 6) w366 _ _ _ _ _ (by omega) (by omega) (lv_sub hl [3, 4, 5, 6, 7, 0] rfl) hH hv371
      · have hv372 := hv370.2.2.2 hc
        refine lv_iconst (v := 0) hx hb dL_law_2006 (by decide) ?_
        exact hv372.elim
  · have hv373 := hv367.2 hc
    refine lv_iconst (v := 0) hx hb dL_law_1989 (by decide) ?_
    exact hv373.elim
set_option maxHeartbeats 4000000 in
set_option maxRecDepth 100000 in
theorem wq_L_law_21 {p : Program} {l : Launch} {e : Env} {s : State} {m : MethodId} {below : List Frame} {meth : Method} {c : Code} {G : sj_G} {L : Nat} {xs : Nat → Int32} {b : Nat} {f1 : Nat} {f2 : Nat} {f3 : Nat} {f4 : Nat} {n : Nat} {v5 : Int32} {w : sj_W} {H : Heap} {locs : List Loc} {ls : Array Slot} {cells slots : Nat} {K : Int32 → sj_W → Prop} (hC : sj_C G p l s m #[Value.ref b] c code RL 9) (hr : meth.sig.returnType = ret) (hk : meth.locks = false) (hX : va_X b L xs s s.heap) (hbl : b < s.heap.size) (hG : G.2.2 = s.heap.size) (hcc : cells + (n + 1) * 242 ≤ 145346) (hcs : slots + (n + 1) * 4193 ≤ 2519522) (hl : lv_has ls 9 [(0, .ref b), (1, .ref f1), (2, .ref f2), (3, .ref f3), (4, .ref f4), (5, .int v5)]) (hH : sj_H G s w H locs) (hc : ((xs v5.toNatClampNeg) &&& 63) = 21) (ih : ∀ (v5 : Int32) (w : sj_W) (H : Heap) (locs : List Loc) (ls : Array Slot) (cells slots : Nat), cells + n * 242 ≤ 145346 → slots + n * 4193 ≤ 2519522 → lv_has ls 9 [(0, .ref b), (1, .ref f1), (2, .ref f2), (3, .ref f3), (4, .ref f4), (5, .int v5)] → sj_H G s w H locs → K v5 w → W p l e room_1 s m #[Value.ref b] below meth c H locs cells slots (lw_Z below #[Value.ref b] s) (F0 m 28 ls [])) (hv374 : vd_L_law_21 L xs K f1 f2 f3 f4 v5 w) : W p l e room_1 s m #[Value.ref b] below meth c H locs cells slots (lw_Z below #[Value.ref b] s) (F0 m 45 ls [.int ((xs v5.toNatClampNeg) &&& 63)]) := by
  have hx := hC.1
  have hb := hC.2.1
  have hbA : ¬ sj_F G b := by unfold sj_F; omega
  have hc1 := sj_rmc
  have hc2 := sj_rms
  refine lv_tableIn (off := 1966) (tgt := 2011) hx hb dL_law_45 (by rw [hc]; decide) (by rw [hc]; decide) (by rw [hc]; rfl) (by decide) ?_
  refine lv_aload_n hx hb dL_law_2011 rfl (lv_at hl 1 rfl) ?_
  refine lv_aload_n hx hb dL_law_2012 rfl (lv_at hl 0 rfl) ?_
  refine lv_iload hx hb dL_law_2013 (lv_at hl 5 rfl) ?_
  refine lv_iconst (v := 1) hx hb dL_law_2015 (by decide) ?_
  refine lv_iadd hx hb dL_law_2016 ?_
  refine va_sld hx hb hX hbl hbA hH.2 hv374.1 dL_law_2017 ?_
  refine lv_i2c hx hb dL_law_2018 rfl ?_
  refine lv_aload_n hx hb dL_law_2019 rfl (lv_at hl 0 rfl) ?_
  refine lv_iload hx hb dL_law_2020 (lv_at hl 5 rfl) ?_
  refine lv_iconst (v := 2) hx hb dL_law_2022 (by decide) ?_
  refine lv_iadd hx hb dL_law_2023 ?_
  refine va_sld hx hb hX hbl hbA hH.2 hv374.2.1 dL_law_2024 ?_
  refine lv_aload_n hx hb dL_law_2025 rfl (lv_at hl 3 rfl) ?_
  refine cg_L_222 hC hH hv374.2.2 ⟨Nat.le_of_ble_eq_true rfl, Nat.le_of_ble_eq_true rfl⟩ ⟨(by have hc1 := sj_rmc; omega), (by have hc1 := sj_rms; omega)⟩ hl.1 (Nat.le_of_ble_eq_true rfl) dL_law_2026 (fun r375 w376 H locs hH hv377 => ?_)
  refine lv_istore (lv' := [(6, .int r375), (0, .ref b), (1, .ref f1), (2, .ref f2), (3, .ref f3), (4, .ref f4), (5, .int v5)]) hx hb dL_law_2029 hl (by decide) rfl (fun ls hl => ?_)
  refine lv_aload_n hx hb dL_law_2031 rfl (lv_at hl 3 rfl) ?_
  refine lv_aload_n hx hb dL_law_2032 rfl (lv_at hl 1 rfl) ?_
  refine lv_iload hx hb dL_law_2033 (lv_at hl 6 rfl) ?_
  refine lv_iconst (v := 1) hx hb dL_law_2035 (by decide) ?_
  refine lv_iadd hx hb dL_law_2036 ?_
  refine va_sld hx hb hX hbl hbA hH.2 hv377.1 dL_law_2037 ?_
  refine lv_i2c hx hb dL_law_2038 rfl ?_
  refine lv_aload_n hx hb dL_law_2039 rfl (lv_at hl 1 rfl) ?_
  refine lv_iload hx hb dL_law_2040 (lv_at hl 6 rfl) ?_
  refine lv_iconst (v := 2) hx hb dL_law_2042 (by decide) ?_
  refine lv_iadd hx hb dL_law_2043 ?_
  refine va_sld hx hb hX hbl hbA hH.2 hv377.2.1 dL_law_2044 ?_
  refine cg_L_224 hC hH hv377.2.2.2 hv377.2.2.1 ⟨Nat.le_of_ble_eq_true rfl, Nat.le_of_ble_eq_true rfl⟩ ⟨(by have hc1 := sj_rmc; omega), (by have hc1 := sj_rms; omega)⟩ hl.1 (Nat.le_of_ble_eq_true rfl) dL_law_2045 (fun r378 w379 H locs hH hv380 => ?_)
  refine lv_istore (lv' := [(7, .int r378), (6, .int r375), (0, .ref b), (1, .ref f1), (2, .ref f2), (3, .ref f3), (4, .ref f4), (5, .int v5)]) hx hb dL_law_2048 hl (by decide) rfl (fun ls hl => ?_)
  refine lv_aload_n hx hb dL_law_2050 rfl (lv_at hl 4 rfl) ?_
  refine cg_L_146 hC hH hv380.2 hv380.1 ⟨Nat.le_of_ble_eq_true rfl, Nat.le_of_ble_eq_true rfl⟩ ⟨(by have hc1 := sj_rmc; omega), (by have hc1 := sj_rms; omega)⟩ hl.1 (Nat.le_of_ble_eq_true rfl) dL_law_2051 (fun r381 w382 H locs hH hv383 => ?_)
  refine lv_iload hx hb dL_law_2054 (lv_at hl 1 rfl) ?_
  refine lv_icmp_eq (tgt := 2061) hx hb dL_law_2056 (by decide) (fun hc => ?_) (fun hc => ?_)
  · have hv384 := hv383.1 hc
    refine lv_iload hx hb dL_law_2061 (lv_at hl 1 rfl) ?_
    refine lv_if_ne (tgt := 2078) hx hb dL_law_2063 (by decide) (fun hc => ?_) (fun hc => ?_)
    · have hv385 := hv384.1 hc
      refine lv_goto (tgt := 3021) hx hb dL_law_2078 (by decide) ?_
      refine lv_iinc (v := (v5 + 6)) (lv' := [(5, .int (v5 + 6)), (7, .int r378), (6, .int r375), (0, .ref b), (1, .ref f1), (2, .ref f2), (3, .ref f3), (4, .ref f4)]) hx hb dL_law_3021 hl (k := 7) rfl rfl (by decide) rfl (fun ls hl => ?_)
      refine lv_goto (tgt := 28) hx hb dL_law_3024 (by decide) ?_
      refine W.widen (k := cells + 242) (n := slots + 4193) (by omega) (by omega) ?_
      exact ih (v5 + 6) w382 _ _ _ _ _ (by omega) (by omega) (lv_sub hl [3, 4, 5, 6, 7, 0] rfl) hH hv385
    · have hv386 := hv384.2 hc
      refine lv_aload_n hx hb dL_law_2066 rfl (lv_at hl 5 rfl) ?_
      refine lv_iconst (v := 0) hx hb dL_law_2067 (by decide) ?_
      refine sj_lald hC hH hv386.1 hv386.2.1 dL_law_2068 ?_
      refine lv_iload hx hb dL_law_2069 (lv_at hl 0 rfl) ?_
      refine lv_i2l hx hb dL_law_2071 rfl ?_
      refine W.lcmp hx hb dL_law_2072 ?_
      refine lv_if_eq (tgt := 2078) hx hb dL_law_2073 (by decide) (fun hc => ?_) (fun hc => ?_)
      · have hv387 := hv386.2.2.1 hc
        refine lv_goto (tgt := 3021) hx hb dL_law_2078 (by decide) ?_
        refine lv_iinc (v := (v5 + 6)) (lv' := [(5, .int (v5 + 6)), (7, .int r378), (6, .int r375), (0, .ref b), (1, .ref f1), (2, .ref f2), (3, .ref f3), (4, .ref f4)]) hx hb dL_law_3021 hl (k := 7) rfl rfl (by decide) rfl (fun ls hl => ?_)
        refine lv_goto (tgt := 28) hx hb dL_law_3024 (by decide) ?_
        refine W.widen (k := cells + 242) (n := slots + 4193) (by omega) (by omega) ?_
        exact ih (v5 + 6) w382 _ _ _ _ _ (by omega) (by omega) (lv_sub hl [3, 4, 5, 6, 7, 0] rfl) hH hv387
      · have hv388 := hv386.2.2.2 hc
        refine lv_iconst (v := 0) hx hb dL_law_2076 (by decide) ?_
        exact hv388.elim
  · have hv389 := hv383.2 hc
    refine lv_iconst (v := 0) hx hb dL_law_2059 (by decide) ?_
    exact hv389.elim
set_option maxHeartbeats 4000000 in
set_option maxRecDepth 100000 in
theorem wq_L_law_22 {p : Program} {l : Launch} {e : Env} {s : State} {m : MethodId} {below : List Frame} {meth : Method} {c : Code} {G : sj_G} {L : Nat} {xs : Nat → Int32} {b : Nat} {f1 : Nat} {f2 : Nat} {f3 : Nat} {f4 : Nat} {n : Nat} {v5 : Int32} {w : sj_W} {H : Heap} {locs : List Loc} {ls : Array Slot} {cells slots : Nat} {K : Int32 → sj_W → Prop} (hC : sj_C G p l s m #[Value.ref b] c code RL 9) (hr : meth.sig.returnType = ret) (hk : meth.locks = false) (hX : va_X b L xs s s.heap) (hbl : b < s.heap.size) (hG : G.2.2 = s.heap.size) (hcc : cells + (n + 1) * 242 ≤ 145346) (hcs : slots + (n + 1) * 4193 ≤ 2519522) (hl : lv_has ls 9 [(0, .ref b), (1, .ref f1), (2, .ref f2), (3, .ref f3), (4, .ref f4), (5, .int v5)]) (hH : sj_H G s w H locs) (hc : ((xs v5.toNatClampNeg) &&& 63) = 22) (ih : ∀ (v5 : Int32) (w : sj_W) (H : Heap) (locs : List Loc) (ls : Array Slot) (cells slots : Nat), cells + n * 242 ≤ 145346 → slots + n * 4193 ≤ 2519522 → lv_has ls 9 [(0, .ref b), (1, .ref f1), (2, .ref f2), (3, .ref f3), (4, .ref f4), (5, .int v5)] → sj_H G s w H locs → K v5 w → W p l e room_1 s m #[Value.ref b] below meth c H locs cells slots (lw_Z below #[Value.ref b] s) (F0 m 28 ls [])) (hv390 : vd_L_law_22 L xs K f1 f2 f3 f4 v5 w) : W p l e room_1 s m #[Value.ref b] below meth c H locs cells slots (lw_Z below #[Value.ref b] s) (F0 m 45 ls [.int ((xs v5.toNatClampNeg) &&& 63)]) := by
  have hx := hC.1
  have hb := hC.2.1
  have hbA : ¬ sj_F G b := by unfold sj_F; omega
  have hc1 := sj_rmc
  have hc2 := sj_rms
  refine lv_tableIn (off := 2036) (tgt := 2081) hx hb dL_law_45 (by rw [hc]; decide) (by rw [hc]; decide) (by rw [hc]; rfl) (by decide) ?_
  refine lv_aload_n hx hb dL_law_2081 rfl (lv_at hl 1 rfl) ?_
  refine lv_aload_n hx hb dL_law_2082 rfl (lv_at hl 0 rfl) ?_
  refine lv_iload hx hb dL_law_2083 (lv_at hl 5 rfl) ?_
  refine lv_iconst (v := 1) hx hb dL_law_2085 (by decide) ?_
  refine lv_iadd hx hb dL_law_2086 ?_
  refine va_sld hx hb hX hbl hbA hH.2 hv390.1 dL_law_2087 ?_
  refine lv_i2c hx hb dL_law_2088 rfl ?_
  refine lv_aload_n hx hb dL_law_2089 rfl (lv_at hl 0 rfl) ?_
  refine lv_iload hx hb dL_law_2090 (lv_at hl 5 rfl) ?_
  refine lv_iconst (v := 2) hx hb dL_law_2092 (by decide) ?_
  refine lv_iadd hx hb dL_law_2093 ?_
  refine va_sld hx hb hX hbl hbA hH.2 hv390.2.1 dL_law_2094 ?_
  refine lv_aload_n hx hb dL_law_2095 rfl (lv_at hl 0 rfl) ?_
  refine lv_iload hx hb dL_law_2096 (lv_at hl 5 rfl) ?_
  refine lv_iconst (v := 3) hx hb dL_law_2098 (by decide) ?_
  refine lv_iadd hx hb dL_law_2099 ?_
  refine va_sld hx hb hX hbl hbA hH.2 hv390.2.2.1 dL_law_2100 ?_
  refine lv_aload_n hx hb dL_law_2101 rfl (lv_at hl 3 rfl) ?_
  refine cg_L_225 hC hH hv390.2.2.2 ⟨Nat.le_of_ble_eq_true rfl, Nat.le_of_ble_eq_true rfl⟩ ⟨(by have hc1 := sj_rmc; omega), (by have hc1 := sj_rms; omega)⟩ hl.1 (Nat.le_of_ble_eq_true rfl) dL_law_2102 (fun r391 w392 H locs hH hv393 => ?_)
  refine lv_istore (lv' := [(6, .int r391), (0, .ref b), (1, .ref f1), (2, .ref f2), (3, .ref f3), (4, .ref f4), (5, .int v5)]) hx hb dL_law_2105 hl (by decide) rfl (fun ls hl => ?_)
  refine lv_aload_n hx hb dL_law_2107 rfl (lv_at hl 3 rfl) ?_
  refine lv_aload_n hx hb dL_law_2108 rfl (lv_at hl 1 rfl) ?_
  refine lv_iload hx hb dL_law_2109 (lv_at hl 6 rfl) ?_
  refine lv_iconst (v := 1) hx hb dL_law_2111 (by decide) ?_
  refine lv_iadd hx hb dL_law_2112 ?_
  refine va_sld hx hb hX hbl hbA hH.2 hv393.1 dL_law_2113 ?_
  refine lv_i2c hx hb dL_law_2114 rfl ?_
  refine lv_aload_n hx hb dL_law_2115 rfl (lv_at hl 1 rfl) ?_
  refine lv_iload hx hb dL_law_2116 (lv_at hl 6 rfl) ?_
  refine lv_iconst (v := 2) hx hb dL_law_2118 (by decide) ?_
  refine lv_iadd hx hb dL_law_2119 ?_
  refine va_sld hx hb hX hbl hbA hH.2 hv393.2.1 dL_law_2120 ?_
  refine lv_aload_n hx hb dL_law_2121 rfl (lv_at hl 1 rfl) ?_
  refine lv_iload hx hb dL_law_2122 (lv_at hl 6 rfl) ?_
  refine lv_iconst (v := 3) hx hb dL_law_2124 (by decide) ?_
  refine lv_iadd hx hb dL_law_2125 ?_
  refine va_sld hx hb hX hbl hbA hH.2 hv393.2.2.1 dL_law_2126 ?_
  refine cg_L_227 hC hH hv393.2.2.2.2 hv393.2.2.2.1 ⟨Nat.le_of_ble_eq_true rfl, Nat.le_of_ble_eq_true rfl⟩ ⟨(by have hc1 := sj_rmc; omega), (by have hc1 := sj_rms; omega)⟩ hl.1 (Nat.le_of_ble_eq_true rfl) dL_law_2127 (fun r394 w395 H locs hH hv396 => ?_)
  refine lv_istore (lv' := [(7, .int r394), (6, .int r391), (0, .ref b), (1, .ref f1), (2, .ref f2), (3, .ref f3), (4, .ref f4), (5, .int v5)]) hx hb dL_law_2130 hl (by decide) rfl (fun ls hl => ?_)
  refine lv_aload_n hx hb dL_law_2132 rfl (lv_at hl 4 rfl) ?_
  refine cg_L_146 hC hH hv396.2 hv396.1 ⟨Nat.le_of_ble_eq_true rfl, Nat.le_of_ble_eq_true rfl⟩ ⟨(by have hc1 := sj_rmc; omega), (by have hc1 := sj_rms; omega)⟩ hl.1 (Nat.le_of_ble_eq_true rfl) dL_law_2133 (fun r397 w398 H locs hH hv399 => ?_)
  refine lv_iload hx hb dL_law_2136 (lv_at hl 1 rfl) ?_
  refine lv_icmp_eq (tgt := 2143) hx hb dL_law_2138 (by decide) (fun hc => ?_) (fun hc => ?_)
  · have hv400 := hv399.1 hc
    refine lv_iload hx hb dL_law_2143 (lv_at hl 1 rfl) ?_
    refine lv_if_ne (tgt := 2160) hx hb dL_law_2145 (by decide) (fun hc => ?_) (fun hc => ?_)
    · have hv401 := hv400.1 hc
      refine lv_goto (tgt := 3021) hx hb dL_law_2160 (by decide) ?_
      refine lv_iinc (v := (v5 + 6)) (lv' := [(5, .int (v5 + 6)), (7, .int r394), (6, .int r391), (0, .ref b), (1, .ref f1), (2, .ref f2), (3, .ref f3), (4, .ref f4)]) hx hb dL_law_3021 hl (k := 7) rfl rfl (by decide) rfl (fun ls hl => ?_)
      refine lv_goto (tgt := 28) hx hb dL_law_3024 (by decide) ?_
      refine W.widen (k := cells + 242) (n := slots + 4193) (by omega) (by omega) ?_
      exact ih (v5 + 6) w398 _ _ _ _ _ (by omega) (by omega) (lv_sub hl [3, 4, 5, 6, 7, 0] rfl) hH hv401
    · have hv402 := hv400.2 hc
      refine lv_aload_n hx hb dL_law_2148 rfl (lv_at hl 5 rfl) ?_
      refine lv_iconst (v := 0) hx hb dL_law_2149 (by decide) ?_
      refine sj_lald hC hH hv402.1 hv402.2.1 dL_law_2150 ?_
      refine lv_iload hx hb dL_law_2151 (lv_at hl 0 rfl) ?_
      refine lv_i2l hx hb dL_law_2153 rfl ?_
      refine W.lcmp hx hb dL_law_2154 ?_
      refine lv_if_eq (tgt := 2160) hx hb dL_law_2155 (by decide) (fun hc => ?_) (fun hc => ?_)
      · have hv403 := hv402.2.2.1 hc
        refine lv_goto (tgt := 3021) hx hb dL_law_2160 (by decide) ?_
        refine lv_iinc (v := (v5 + 6)) (lv' := [(5, .int (v5 + 6)), (7, .int r394), (6, .int r391), (0, .ref b), (1, .ref f1), (2, .ref f2), (3, .ref f3), (4, .ref f4)]) hx hb dL_law_3021 hl (k := 7) rfl rfl (by decide) rfl (fun ls hl => ?_)
        refine lv_goto (tgt := 28) hx hb dL_law_3024 (by decide) ?_
        refine W.widen (k := cells + 242) (n := slots + 4193) (by omega) (by omega) ?_
        exact ih (v5 + 6) w398 _ _ _ _ _ (by omega) (by omega) (lv_sub hl [3, 4, 5, 6, 7, 0] rfl) hH hv403
      · have hv404 := hv402.2.2.2 hc
        refine lv_iconst (v := 0) hx hb dL_law_2158 (by decide) ?_
        exact hv404.elim
  · have hv405 := hv399.2 hc
    refine lv_iconst (v := 0) hx hb dL_law_2141 (by decide) ?_
    exact hv405.elim
set_option maxHeartbeats 4000000 in
set_option maxRecDepth 100000 in
theorem wq_L_law_23 {p : Program} {l : Launch} {e : Env} {s : State} {m : MethodId} {below : List Frame} {meth : Method} {c : Code} {G : sj_G} {L : Nat} {xs : Nat → Int32} {b : Nat} {f1 : Nat} {f2 : Nat} {f3 : Nat} {f4 : Nat} {n : Nat} {v5 : Int32} {w : sj_W} {H : Heap} {locs : List Loc} {ls : Array Slot} {cells slots : Nat} {K : Int32 → sj_W → Prop} (hC : sj_C G p l s m #[Value.ref b] c code RL 9) (hr : meth.sig.returnType = ret) (hk : meth.locks = false) (hX : va_X b L xs s s.heap) (hbl : b < s.heap.size) (hG : G.2.2 = s.heap.size) (hcc : cells + (n + 1) * 242 ≤ 145346) (hcs : slots + (n + 1) * 4193 ≤ 2519522) (hl : lv_has ls 9 [(0, .ref b), (1, .ref f1), (2, .ref f2), (3, .ref f3), (4, .ref f4), (5, .int v5)]) (hH : sj_H G s w H locs) (hc : ((xs v5.toNatClampNeg) &&& 63) = 23) (ih : ∀ (v5 : Int32) (w : sj_W) (H : Heap) (locs : List Loc) (ls : Array Slot) (cells slots : Nat), cells + n * 242 ≤ 145346 → slots + n * 4193 ≤ 2519522 → lv_has ls 9 [(0, .ref b), (1, .ref f1), (2, .ref f2), (3, .ref f3), (4, .ref f4), (5, .int v5)] → sj_H G s w H locs → K v5 w → W p l e room_1 s m #[Value.ref b] below meth c H locs cells slots (lw_Z below #[Value.ref b] s) (F0 m 28 ls [])) (hv406 : vd_L_law_23 L xs K f1 f2 f3 f4 v5 w) : W p l e room_1 s m #[Value.ref b] below meth c H locs cells slots (lw_Z below #[Value.ref b] s) (F0 m 45 ls [.int ((xs v5.toNatClampNeg) &&& 63)]) := by
  have hx := hC.1
  have hb := hC.2.1
  have hbA : ¬ sj_F G b := by unfold sj_F; omega
  have hc1 := sj_rmc
  have hc2 := sj_rms
  refine lv_tableIn (off := 2118) (tgt := 2163) hx hb dL_law_45 (by rw [hc]; decide) (by rw [hc]; decide) (by rw [hc]; rfl) (by decide) ?_
  refine lv_aload_n hx hb dL_law_2163 rfl (lv_at hl 1 rfl) ?_
  refine lv_aload_n hx hb dL_law_2164 rfl (lv_at hl 0 rfl) ?_
  refine lv_iload hx hb dL_law_2165 (lv_at hl 5 rfl) ?_
  refine lv_iconst (v := 1) hx hb dL_law_2167 (by decide) ?_
  refine lv_iadd hx hb dL_law_2168 ?_
  refine va_sld hx hb hX hbl hbA hH.2 hv406.1 dL_law_2169 ?_
  refine lv_i2c hx hb dL_law_2170 rfl ?_
  refine lv_aload_n hx hb dL_law_2171 rfl (lv_at hl 0 rfl) ?_
  refine lv_iload hx hb dL_law_2172 (lv_at hl 5 rfl) ?_
  refine lv_iconst (v := 2) hx hb dL_law_2174 (by decide) ?_
  refine lv_iadd hx hb dL_law_2175 ?_
  refine va_sld hx hb hX hbl hbA hH.2 hv406.2.1 dL_law_2176 ?_
  refine lv_aload_n hx hb dL_law_2177 rfl (lv_at hl 0 rfl) ?_
  refine lv_iload hx hb dL_law_2178 (lv_at hl 5 rfl) ?_
  refine lv_iconst (v := 3) hx hb dL_law_2180 (by decide) ?_
  refine lv_iadd hx hb dL_law_2181 ?_
  refine va_sld hx hb hX hbl hbA hH.2 hv406.2.2.1 dL_law_2182 ?_
  refine lv_aload_n hx hb dL_law_2183 rfl (lv_at hl 3 rfl) ?_
  refine cg_L_228 hC hH hv406.2.2.2 ⟨Nat.le_of_ble_eq_true rfl, Nat.le_of_ble_eq_true rfl⟩ ⟨(by have hc1 := sj_rmc; omega), (by have hc1 := sj_rms; omega)⟩ hl.1 (Nat.le_of_ble_eq_true rfl) dL_law_2184 (fun r407 w408 H locs hH hv409 => ?_)
  refine lv_istore (lv' := [(6, .int r407), (0, .ref b), (1, .ref f1), (2, .ref f2), (3, .ref f3), (4, .ref f4), (5, .int v5)]) hx hb dL_law_2187 hl (by decide) rfl (fun ls hl => ?_)
  refine lv_aload_n hx hb dL_law_2189 rfl (lv_at hl 3 rfl) ?_
  refine lv_aload_n hx hb dL_law_2190 rfl (lv_at hl 1 rfl) ?_
  refine lv_iload hx hb dL_law_2191 (lv_at hl 6 rfl) ?_
  refine lv_iconst (v := 1) hx hb dL_law_2193 (by decide) ?_
  refine lv_iadd hx hb dL_law_2194 ?_
  refine va_sld hx hb hX hbl hbA hH.2 hv409.1 dL_law_2195 ?_
  refine lv_i2c hx hb dL_law_2196 rfl ?_
  refine lv_aload_n hx hb dL_law_2197 rfl (lv_at hl 1 rfl) ?_
  refine lv_iload hx hb dL_law_2198 (lv_at hl 6 rfl) ?_
  refine lv_iconst (v := 2) hx hb dL_law_2200 (by decide) ?_
  refine lv_iadd hx hb dL_law_2201 ?_
  refine va_sld hx hb hX hbl hbA hH.2 hv409.2.1 dL_law_2202 ?_
  refine lv_aload_n hx hb dL_law_2203 rfl (lv_at hl 1 rfl) ?_
  refine lv_iload hx hb dL_law_2204 (lv_at hl 6 rfl) ?_
  refine lv_iconst (v := 3) hx hb dL_law_2206 (by decide) ?_
  refine lv_iadd hx hb dL_law_2207 ?_
  refine va_sld hx hb hX hbl hbA hH.2 hv409.2.2.1 dL_law_2208 ?_
  refine cg_L_230 hC hH hv409.2.2.2.2 hv409.2.2.2.1 ⟨Nat.le_of_ble_eq_true rfl, Nat.le_of_ble_eq_true rfl⟩ ⟨(by have hc1 := sj_rmc; omega), (by have hc1 := sj_rms; omega)⟩ hl.1 (Nat.le_of_ble_eq_true rfl) dL_law_2209 (fun r410 w411 H locs hH hv412 => ?_)
  refine lv_istore (lv' := [(7, .int r410), (6, .int r407), (0, .ref b), (1, .ref f1), (2, .ref f2), (3, .ref f3), (4, .ref f4), (5, .int v5)]) hx hb dL_law_2212 hl (by decide) rfl (fun ls hl => ?_)
  refine lv_aload_n hx hb dL_law_2214 rfl (lv_at hl 4 rfl) ?_
  refine cg_L_146 hC hH hv412.2 hv412.1 ⟨Nat.le_of_ble_eq_true rfl, Nat.le_of_ble_eq_true rfl⟩ ⟨(by have hc1 := sj_rmc; omega), (by have hc1 := sj_rms; omega)⟩ hl.1 (Nat.le_of_ble_eq_true rfl) dL_law_2215 (fun r413 w414 H locs hH hv415 => ?_)
  refine lv_iload hx hb dL_law_2218 (lv_at hl 1 rfl) ?_
  refine lv_icmp_eq (tgt := 2225) hx hb dL_law_2220 (by decide) (fun hc => ?_) (fun hc => ?_)
  · have hv416 := hv415.1 hc
    refine lv_iload hx hb dL_law_2225 (lv_at hl 1 rfl) ?_
    refine lv_if_ne (tgt := 2249) hx hb dL_law_2227 (by decide) (fun hc => ?_) (fun hc => ?_)
    · have hv417 := hv416.1 hc
      refine lv_goto (tgt := 3021) hx hb dL_law_2249 (by decide) ?_
      refine lv_iinc (v := (v5 + 6)) (lv' := [(5, .int (v5 + 6)), (7, .int r410), (6, .int r407), (0, .ref b), (1, .ref f1), (2, .ref f2), (3, .ref f3), (4, .ref f4)]) hx hb dL_law_3021 hl (k := 7) rfl rfl (by decide) rfl (fun ls hl => ?_)
      refine lv_goto (tgt := 28) hx hb dL_law_3024 (by decide) ?_
      refine W.widen (k := cells + 242) (n := slots + 4193) (by omega) (by omega) ?_
      exact ih (v5 + 6) w414 _ _ _ _ _ (by omega) (by omega) (lv_sub hl [3, 4, 5, 6, 7, 0] rfl) hH hv417
    · have hv418 := hv416.2 hc
      refine lv_aload_n hx hb dL_law_2230 rfl (lv_at hl 5 rfl) ?_
      refine lv_iconst (v := 0) hx hb dL_law_2231 (by decide) ?_
      refine sj_lald hC hH hv418.1 hv418.2.1 dL_law_2232 ?_
      refine lv_iload hx hb dL_law_2233 (lv_at hl 0 rfl) ?_
      obtain ⟨E419, hE420, hv423⟩ := sj_jn2_e hv418.2.2
      have hJ421 : ∀ (y0_2243 : Int64) (y1_2243 : Int64) (w_2243 : sj_W) (H : Heap) (locs : List Loc) (ls : Array Slot), lv_has ls 9 [(0, .ref b), (1, .ref f1), (2, .ref f2), (3, .ref f3), (4, .ref f4), (5, .int v5)] → sj_H G s w_2243 H locs → E419 y0_2243 y1_2243 w_2243 → W p l e room_1 s m #[Value.ref b] below meth c H locs (cells + 149) (slots + 3740) (lw_Z below #[Value.ref b] s) (F0 m 2243 ls [.long y0_2243, .long y1_2243]) := by
        intro y0_2243 y1_2243 w_2243 H locs ls hl hH hv424
        rw [hE420] at hv424
        refine W.lcmp hx hb dL_law_2243 ?_
        refine lv_if_eq (tgt := 2249) hx hb dL_law_2244 (by decide) (fun hc => ?_) (fun hc => ?_)
        · have hv427 := hv424.1 hc
          refine lv_goto (tgt := 3021) hx hb dL_law_2249 (by decide) ?_
          refine lv_iinc (v := (v5 + 6)) (lv' := [(5, .int (v5 + 6)), (0, .ref b), (1, .ref f1), (2, .ref f2), (3, .ref f3), (4, .ref f4)]) hx hb dL_law_3021 hl (k := 5) rfl rfl (by decide) rfl (fun ls hl => ?_)
          refine lv_goto (tgt := 28) hx hb dL_law_3024 (by decide) ?_
          refine W.widen (k := cells + 242) (n := slots + 4193) (by omega) (by omega) ?_
          exact ih (v5 + 6) w_2243 _ _ _ _ _ (by omega) (by omega) (lv_sub hl [1, 2, 3, 4, 5, 0] rfl) hH hv427
        · have hv428 := hv424.2 hc
          refine lv_iconst (v := 0) hx hb dL_law_2247 (by decide) ?_
          exact hv428.elim
      clear hE420
      refine lv_if_eq (tgt := 2242) hx hb dL_law_2235 (by decide) (fun hc => ?_) (fun hc => ?_)
      · have hv425 := hv423.1 hc
        refine lv_lconst (v := 0) hx hb dL_law_2242 (by decide) ?_
        refine W.widen (k := cells + 149) (n := slots + 3740) (by omega) (by omega) ?_
        exact hJ421 0 (sj_l w414 f3 (0 : Int32).toNatClampNeg) w414 _ _ _ (lv_sub hl [2, 3, 4, 5, 6, 7] rfl) hH hv425
      · have hv426 := hv423.2 hc
        refine lv_lconst (v := 1) hx hb dL_law_2238 (by decide) ?_
        refine lv_goto (tgt := 2243) hx hb dL_law_2239 (by decide) ?_
        refine W.widen (k := cells + 149) (n := slots + 3740) (by omega) (by omega) ?_
        exact hJ421 1 (sj_l w414 f3 (0 : Int32).toNatClampNeg) w414 _ _ _ (lv_sub hl [2, 3, 4, 5, 6, 7] rfl) hH hv426
  · have hv429 := hv415.2 hc
    refine lv_iconst (v := 0) hx hb dL_law_2223 (by decide) ?_
    exact hv429.elim
set_option maxHeartbeats 4000000 in
set_option maxRecDepth 100000 in
theorem wq_L_law_24 {p : Program} {l : Launch} {e : Env} {s : State} {m : MethodId} {below : List Frame} {meth : Method} {c : Code} {G : sj_G} {L : Nat} {xs : Nat → Int32} {b : Nat} {f1 : Nat} {f2 : Nat} {f3 : Nat} {f4 : Nat} {n : Nat} {v5 : Int32} {w : sj_W} {H : Heap} {locs : List Loc} {ls : Array Slot} {cells slots : Nat} {K : Int32 → sj_W → Prop} (hC : sj_C G p l s m #[Value.ref b] c code RL 9) (hr : meth.sig.returnType = ret) (hk : meth.locks = false) (hX : va_X b L xs s s.heap) (hbl : b < s.heap.size) (hG : G.2.2 = s.heap.size) (hcc : cells + (n + 1) * 242 ≤ 145346) (hcs : slots + (n + 1) * 4193 ≤ 2519522) (hl : lv_has ls 9 [(0, .ref b), (1, .ref f1), (2, .ref f2), (3, .ref f3), (4, .ref f4), (5, .int v5)]) (hH : sj_H G s w H locs) (hc : ((xs v5.toNatClampNeg) &&& 63) = 24) (ih : ∀ (v5 : Int32) (w : sj_W) (H : Heap) (locs : List Loc) (ls : Array Slot) (cells slots : Nat), cells + n * 242 ≤ 145346 → slots + n * 4193 ≤ 2519522 → lv_has ls 9 [(0, .ref b), (1, .ref f1), (2, .ref f2), (3, .ref f3), (4, .ref f4), (5, .int v5)] → sj_H G s w H locs → K v5 w → W p l e room_1 s m #[Value.ref b] below meth c H locs cells slots (lw_Z below #[Value.ref b] s) (F0 m 28 ls [])) (hv430 : vd_L_law_24 L xs K f1 f2 f3 f4 v5 w) : W p l e room_1 s m #[Value.ref b] below meth c H locs cells slots (lw_Z below #[Value.ref b] s) (F0 m 45 ls [.int ((xs v5.toNatClampNeg) &&& 63)]) := by
  have hx := hC.1
  have hb := hC.2.1
  have hbA : ¬ sj_F G b := by unfold sj_F; omega
  have hc1 := sj_rmc
  have hc2 := sj_rms
  refine lv_tableIn (off := 2207) (tgt := 2252) hx hb dL_law_45 (by rw [hc]; decide) (by rw [hc]; decide) (by rw [hc]; rfl) (by decide) ?_
  refine lv_aload_n hx hb dL_law_2252 rfl (lv_at hl 1 rfl) ?_
  refine lv_aload_n hx hb dL_law_2253 rfl (lv_at hl 0 rfl) ?_
  refine lv_iload hx hb dL_law_2254 (lv_at hl 5 rfl) ?_
  refine lv_iconst (v := 1) hx hb dL_law_2256 (by decide) ?_
  refine lv_iadd hx hb dL_law_2257 ?_
  refine va_sld hx hb hX hbl hbA hH.2 hv430.1 dL_law_2258 ?_
  refine lv_i2c hx hb dL_law_2259 rfl ?_
  refine lv_aload_n hx hb dL_law_2260 rfl (lv_at hl 0 rfl) ?_
  refine lv_iload hx hb dL_law_2261 (lv_at hl 5 rfl) ?_
  refine lv_iconst (v := 2) hx hb dL_law_2263 (by decide) ?_
  refine lv_iadd hx hb dL_law_2264 ?_
  refine va_sld hx hb hX hbl hbA hH.2 hv430.2.1 dL_law_2265 ?_
  refine lv_aload_n hx hb dL_law_2266 rfl (lv_at hl 3 rfl) ?_
  refine cg_L_231 hC hH hv430.2.2 ⟨Nat.le_of_ble_eq_true rfl, Nat.le_of_ble_eq_true rfl⟩ ⟨(by have hc1 := sj_rmc; omega), (by have hc1 := sj_rms; omega)⟩ hl.1 (Nat.le_of_ble_eq_true rfl) dL_law_2267 (fun r431 w432 H locs hH hv433 => ?_)
  refine lv_istore (lv' := [(6, .int r431), (0, .ref b), (1, .ref f1), (2, .ref f2), (3, .ref f3), (4, .ref f4), (5, .int v5)]) hx hb dL_law_2270 hl (by decide) rfl (fun ls hl => ?_)
  refine lv_aload_n hx hb dL_law_2272 rfl (lv_at hl 3 rfl) ?_
  refine lv_aload_n hx hb dL_law_2273 rfl (lv_at hl 1 rfl) ?_
  refine lv_iload hx hb dL_law_2274 (lv_at hl 6 rfl) ?_
  refine lv_iconst (v := 1) hx hb dL_law_2276 (by decide) ?_
  refine lv_iadd hx hb dL_law_2277 ?_
  refine va_sld hx hb hX hbl hbA hH.2 hv433.1 dL_law_2278 ?_
  refine lv_i2c hx hb dL_law_2279 rfl ?_
  refine lv_aload_n hx hb dL_law_2280 rfl (lv_at hl 1 rfl) ?_
  refine lv_iload hx hb dL_law_2281 (lv_at hl 6 rfl) ?_
  refine lv_iconst (v := 2) hx hb dL_law_2283 (by decide) ?_
  refine lv_iadd hx hb dL_law_2284 ?_
  refine va_sld hx hb hX hbl hbA hH.2 hv433.2.1 dL_law_2285 ?_
  refine cg_L_233 hC hH hv433.2.2.2 hv433.2.2.1 ⟨Nat.le_of_ble_eq_true rfl, Nat.le_of_ble_eq_true rfl⟩ ⟨(by have hc1 := sj_rmc; omega), (by have hc1 := sj_rms; omega)⟩ hl.1 (Nat.le_of_ble_eq_true rfl) dL_law_2286 (fun r434 w435 H locs hH hv436 => ?_)
  refine lv_istore (lv' := [(7, .int r434), (6, .int r431), (0, .ref b), (1, .ref f1), (2, .ref f2), (3, .ref f3), (4, .ref f4), (5, .int v5)]) hx hb dL_law_2289 hl (by decide) rfl (fun ls hl => ?_)
  refine lv_aload_n hx hb dL_law_2291 rfl (lv_at hl 4 rfl) ?_
  refine cg_L_146 hC hH hv436.2 hv436.1 ⟨Nat.le_of_ble_eq_true rfl, Nat.le_of_ble_eq_true rfl⟩ ⟨(by have hc1 := sj_rmc; omega), (by have hc1 := sj_rms; omega)⟩ hl.1 (Nat.le_of_ble_eq_true rfl) dL_law_2292 (fun r437 w438 H locs hH hv439 => ?_)
  refine lv_iload hx hb dL_law_2295 (lv_at hl 1 rfl) ?_
  refine lv_icmp_eq (tgt := 2302) hx hb dL_law_2297 (by decide) (fun hc => ?_) (fun hc => ?_)
  · have hv440 := hv439.1 hc
    refine lv_iload hx hb dL_law_2302 (lv_at hl 1 rfl) ?_
    refine lv_if_ne (tgt := 2319) hx hb dL_law_2304 (by decide) (fun hc => ?_) (fun hc => ?_)
    · have hv441 := hv440.1 hc
      refine lv_goto (tgt := 3021) hx hb dL_law_2319 (by decide) ?_
      refine lv_iinc (v := (v5 + 6)) (lv' := [(5, .int (v5 + 6)), (7, .int r434), (6, .int r431), (0, .ref b), (1, .ref f1), (2, .ref f2), (3, .ref f3), (4, .ref f4)]) hx hb dL_law_3021 hl (k := 7) rfl rfl (by decide) rfl (fun ls hl => ?_)
      refine lv_goto (tgt := 28) hx hb dL_law_3024 (by decide) ?_
      refine W.widen (k := cells + 242) (n := slots + 4193) (by omega) (by omega) ?_
      exact ih (v5 + 6) w438 _ _ _ _ _ (by omega) (by omega) (lv_sub hl [3, 4, 5, 6, 7, 0] rfl) hH hv441
    · have hv442 := hv440.2 hc
      refine lv_aload_n hx hb dL_law_2307 rfl (lv_at hl 5 rfl) ?_
      refine lv_iconst (v := 0) hx hb dL_law_2308 (by decide) ?_
      refine sj_lald hC hH hv442.1 hv442.2.1 dL_law_2309 ?_
      refine lv_iload hx hb dL_law_2310 (lv_at hl 0 rfl) ?_
      refine lv_i2l hx hb dL_law_2312 rfl ?_
      refine W.lcmp hx hb dL_law_2313 ?_
      refine lv_if_eq (tgt := 2319) hx hb dL_law_2314 (by decide) (fun hc => ?_) (fun hc => ?_)
      · have hv443 := hv442.2.2.1 hc
        refine lv_goto (tgt := 3021) hx hb dL_law_2319 (by decide) ?_
        refine lv_iinc (v := (v5 + 6)) (lv' := [(5, .int (v5 + 6)), (7, .int r434), (6, .int r431), (0, .ref b), (1, .ref f1), (2, .ref f2), (3, .ref f3), (4, .ref f4)]) hx hb dL_law_3021 hl (k := 7) rfl rfl (by decide) rfl (fun ls hl => ?_)
        refine lv_goto (tgt := 28) hx hb dL_law_3024 (by decide) ?_
        refine W.widen (k := cells + 242) (n := slots + 4193) (by omega) (by omega) ?_
        exact ih (v5 + 6) w438 _ _ _ _ _ (by omega) (by omega) (lv_sub hl [3, 4, 5, 6, 7, 0] rfl) hH hv443
      · have hv444 := hv442.2.2.2 hc
        refine lv_iconst (v := 0) hx hb dL_law_2317 (by decide) ?_
        exact hv444.elim
  · have hv445 := hv439.2 hc
    refine lv_iconst (v := 0) hx hb dL_law_2300 (by decide) ?_
    exact hv445.elim
set_option maxHeartbeats 4000000 in
set_option maxRecDepth 100000 in
theorem wq_L_law_25 {p : Program} {l : Launch} {e : Env} {s : State} {m : MethodId} {below : List Frame} {meth : Method} {c : Code} {G : sj_G} {L : Nat} {xs : Nat → Int32} {b : Nat} {f1 : Nat} {f2 : Nat} {f3 : Nat} {f4 : Nat} {n : Nat} {v5 : Int32} {w : sj_W} {H : Heap} {locs : List Loc} {ls : Array Slot} {cells slots : Nat} {K : Int32 → sj_W → Prop} (hC : sj_C G p l s m #[Value.ref b] c code RL 9) (hr : meth.sig.returnType = ret) (hk : meth.locks = false) (hX : va_X b L xs s s.heap) (hbl : b < s.heap.size) (hG : G.2.2 = s.heap.size) (hcc : cells + (n + 1) * 242 ≤ 145346) (hcs : slots + (n + 1) * 4193 ≤ 2519522) (hl : lv_has ls 9 [(0, .ref b), (1, .ref f1), (2, .ref f2), (3, .ref f3), (4, .ref f4), (5, .int v5)]) (hH : sj_H G s w H locs) (hc : ((xs v5.toNatClampNeg) &&& 63) = 25) (ih : ∀ (v5 : Int32) (w : sj_W) (H : Heap) (locs : List Loc) (ls : Array Slot) (cells slots : Nat), cells + n * 242 ≤ 145346 → slots + n * 4193 ≤ 2519522 → lv_has ls 9 [(0, .ref b), (1, .ref f1), (2, .ref f2), (3, .ref f3), (4, .ref f4), (5, .int v5)] → sj_H G s w H locs → K v5 w → W p l e room_1 s m #[Value.ref b] below meth c H locs cells slots (lw_Z below #[Value.ref b] s) (F0 m 28 ls [])) (hv446 : vd_L_law_25 L xs K f1 f2 f3 f4 v5 w) : W p l e room_1 s m #[Value.ref b] below meth c H locs cells slots (lw_Z below #[Value.ref b] s) (F0 m 45 ls [.int ((xs v5.toNatClampNeg) &&& 63)]) := by
  have hx := hC.1
  have hb := hC.2.1
  have hbA : ¬ sj_F G b := by unfold sj_F; omega
  have hc1 := sj_rmc
  have hc2 := sj_rms
  refine lv_tableIn (off := 2277) (tgt := 2322) hx hb dL_law_45 (by rw [hc]; decide) (by rw [hc]; decide) (by rw [hc]; rfl) (by decide) ?_
  refine lv_aload_n hx hb dL_law_2322 rfl (lv_at hl 1 rfl) ?_
  refine lv_aload_n hx hb dL_law_2323 rfl (lv_at hl 0 rfl) ?_
  refine lv_iload hx hb dL_law_2324 (lv_at hl 5 rfl) ?_
  refine lv_iconst (v := 1) hx hb dL_law_2326 (by decide) ?_
  refine lv_iadd hx hb dL_law_2327 ?_
  refine va_sld hx hb hX hbl hbA hH.2 hv446.1 dL_law_2328 ?_
  refine lv_i2c hx hb dL_law_2329 rfl ?_
  refine lv_aload_n hx hb dL_law_2330 rfl (lv_at hl 0 rfl) ?_
  refine lv_iload hx hb dL_law_2331 (lv_at hl 5 rfl) ?_
  refine lv_iconst (v := 2) hx hb dL_law_2333 (by decide) ?_
  refine lv_iadd hx hb dL_law_2334 ?_
  refine va_sld hx hb hX hbl hbA hH.2 hv446.2.1 dL_law_2335 ?_
  refine lv_aload_n hx hb dL_law_2336 rfl (lv_at hl 3 rfl) ?_
  refine cg_L_234 hC hH hv446.2.2 ⟨Nat.le_of_ble_eq_true rfl, Nat.le_of_ble_eq_true rfl⟩ ⟨(by have hc1 := sj_rmc; omega), (by have hc1 := sj_rms; omega)⟩ hl.1 (Nat.le_of_ble_eq_true rfl) dL_law_2337 (fun r447 w448 H locs hH hv449 => ?_)
  refine lv_istore (lv' := [(6, .int r447), (0, .ref b), (1, .ref f1), (2, .ref f2), (3, .ref f3), (4, .ref f4), (5, .int v5)]) hx hb dL_law_2340 hl (by decide) rfl (fun ls hl => ?_)
  refine lv_aload_n hx hb dL_law_2342 rfl (lv_at hl 3 rfl) ?_
  refine lv_aload_n hx hb dL_law_2343 rfl (lv_at hl 1 rfl) ?_
  refine lv_iload hx hb dL_law_2344 (lv_at hl 6 rfl) ?_
  refine lv_iconst (v := 1) hx hb dL_law_2346 (by decide) ?_
  refine lv_iadd hx hb dL_law_2347 ?_
  refine va_sld hx hb hX hbl hbA hH.2 hv449.1 dL_law_2348 ?_
  refine lv_i2c hx hb dL_law_2349 rfl ?_
  refine lv_aload_n hx hb dL_law_2350 rfl (lv_at hl 1 rfl) ?_
  refine lv_iload hx hb dL_law_2351 (lv_at hl 6 rfl) ?_
  refine lv_iconst (v := 2) hx hb dL_law_2353 (by decide) ?_
  refine lv_iadd hx hb dL_law_2354 ?_
  refine va_sld hx hb hX hbl hbA hH.2 hv449.2.1 dL_law_2355 ?_
  refine cg_L_236 hC hH hv449.2.2.2 hv449.2.2.1 ⟨Nat.le_of_ble_eq_true rfl, Nat.le_of_ble_eq_true rfl⟩ ⟨(by have hc1 := sj_rmc; omega), (by have hc1 := sj_rms; omega)⟩ hl.1 (Nat.le_of_ble_eq_true rfl) dL_law_2356 (fun r450 w451 H locs hH hv452 => ?_)
  refine lv_istore (lv' := [(7, .int r450), (6, .int r447), (0, .ref b), (1, .ref f1), (2, .ref f2), (3, .ref f3), (4, .ref f4), (5, .int v5)]) hx hb dL_law_2359 hl (by decide) rfl (fun ls hl => ?_)
  refine lv_aload_n hx hb dL_law_2361 rfl (lv_at hl 4 rfl) ?_
  refine cg_L_146 hC hH hv452.2 hv452.1 ⟨Nat.le_of_ble_eq_true rfl, Nat.le_of_ble_eq_true rfl⟩ ⟨(by have hc1 := sj_rmc; omega), (by have hc1 := sj_rms; omega)⟩ hl.1 (Nat.le_of_ble_eq_true rfl) dL_law_2362 (fun r453 w454 H locs hH hv455 => ?_)
  refine lv_iload hx hb dL_law_2365 (lv_at hl 1 rfl) ?_
  refine lv_icmp_eq (tgt := 2372) hx hb dL_law_2367 (by decide) (fun hc => ?_) (fun hc => ?_)
  · have hv456 := hv455.1 hc
    refine lv_iload hx hb dL_law_2372 (lv_at hl 1 rfl) ?_
    refine lv_if_ne (tgt := 2389) hx hb dL_law_2374 (by decide) (fun hc => ?_) (fun hc => ?_)
    · have hv457 := hv456.1 hc
      refine lv_goto (tgt := 3021) hx hb dL_law_2389 (by decide) ?_
      refine lv_iinc (v := (v5 + 6)) (lv' := [(5, .int (v5 + 6)), (7, .int r450), (6, .int r447), (0, .ref b), (1, .ref f1), (2, .ref f2), (3, .ref f3), (4, .ref f4)]) hx hb dL_law_3021 hl (k := 7) rfl rfl (by decide) rfl (fun ls hl => ?_)
      refine lv_goto (tgt := 28) hx hb dL_law_3024 (by decide) ?_
      refine W.widen (k := cells + 242) (n := slots + 4193) (by omega) (by omega) ?_
      exact ih (v5 + 6) w454 _ _ _ _ _ (by omega) (by omega) (lv_sub hl [3, 4, 5, 6, 7, 0] rfl) hH hv457
    · have hv458 := hv456.2 hc
      refine lv_aload_n hx hb dL_law_2377 rfl (lv_at hl 5 rfl) ?_
      refine lv_iconst (v := 0) hx hb dL_law_2378 (by decide) ?_
      refine sj_lald hC hH hv458.1 hv458.2.1 dL_law_2379 ?_
      refine lv_iload hx hb dL_law_2380 (lv_at hl 0 rfl) ?_
      refine lv_i2l hx hb dL_law_2382 rfl ?_
      refine W.lcmp hx hb dL_law_2383 ?_
      refine lv_if_eq (tgt := 2389) hx hb dL_law_2384 (by decide) (fun hc => ?_) (fun hc => ?_)
      · have hv459 := hv458.2.2.1 hc
        refine lv_goto (tgt := 3021) hx hb dL_law_2389 (by decide) ?_
        refine lv_iinc (v := (v5 + 6)) (lv' := [(5, .int (v5 + 6)), (7, .int r450), (6, .int r447), (0, .ref b), (1, .ref f1), (2, .ref f2), (3, .ref f3), (4, .ref f4)]) hx hb dL_law_3021 hl (k := 7) rfl rfl (by decide) rfl (fun ls hl => ?_)
        refine lv_goto (tgt := 28) hx hb dL_law_3024 (by decide) ?_
        refine W.widen (k := cells + 242) (n := slots + 4193) (by omega) (by omega) ?_
        exact ih (v5 + 6) w454 _ _ _ _ _ (by omega) (by omega) (lv_sub hl [3, 4, 5, 6, 7, 0] rfl) hH hv459
      · have hv460 := hv458.2.2.2 hc
        refine lv_iconst (v := 0) hx hb dL_law_2387 (by decide) ?_
        exact hv460.elim
  · have hv461 := hv455.2 hc
    refine lv_iconst (v := 0) hx hb dL_law_2370 (by decide) ?_
    exact hv461.elim
set_option maxHeartbeats 4000000 in
set_option maxRecDepth 100000 in
theorem wq_L_law_26 {p : Program} {l : Launch} {e : Env} {s : State} {m : MethodId} {below : List Frame} {meth : Method} {c : Code} {G : sj_G} {L : Nat} {xs : Nat → Int32} {b : Nat} {f1 : Nat} {f2 : Nat} {f3 : Nat} {f4 : Nat} {n : Nat} {v5 : Int32} {w : sj_W} {H : Heap} {locs : List Loc} {ls : Array Slot} {cells slots : Nat} {K : Int32 → sj_W → Prop} (hC : sj_C G p l s m #[Value.ref b] c code RL 9) (hr : meth.sig.returnType = ret) (hk : meth.locks = false) (hX : va_X b L xs s s.heap) (hbl : b < s.heap.size) (hG : G.2.2 = s.heap.size) (hcc : cells + (n + 1) * 242 ≤ 145346) (hcs : slots + (n + 1) * 4193 ≤ 2519522) (hl : lv_has ls 9 [(0, .ref b), (1, .ref f1), (2, .ref f2), (3, .ref f3), (4, .ref f4), (5, .int v5)]) (hH : sj_H G s w H locs) (hc : ((xs v5.toNatClampNeg) &&& 63) = 26) (ih : ∀ (v5 : Int32) (w : sj_W) (H : Heap) (locs : List Loc) (ls : Array Slot) (cells slots : Nat), cells + n * 242 ≤ 145346 → slots + n * 4193 ≤ 2519522 → lv_has ls 9 [(0, .ref b), (1, .ref f1), (2, .ref f2), (3, .ref f3), (4, .ref f4), (5, .int v5)] → sj_H G s w H locs → K v5 w → W p l e room_1 s m #[Value.ref b] below meth c H locs cells slots (lw_Z below #[Value.ref b] s) (F0 m 28 ls [])) (hv462 : vd_L_law_26 L xs K f1 f2 f3 f4 v5 w) : W p l e room_1 s m #[Value.ref b] below meth c H locs cells slots (lw_Z below #[Value.ref b] s) (F0 m 45 ls [.int ((xs v5.toNatClampNeg) &&& 63)]) := by
  have hx := hC.1
  have hb := hC.2.1
  have hbA : ¬ sj_F G b := by unfold sj_F; omega
  have hc1 := sj_rmc
  have hc2 := sj_rms
  refine lv_tableIn (off := 2347) (tgt := 2392) hx hb dL_law_45 (by rw [hc]; decide) (by rw [hc]; decide) (by rw [hc]; rfl) (by decide) ?_
  refine lv_aload_n hx hb dL_law_2392 rfl (lv_at hl 1 rfl) ?_
  refine lv_aload_n hx hb dL_law_2393 rfl (lv_at hl 0 rfl) ?_
  refine lv_iload hx hb dL_law_2394 (lv_at hl 5 rfl) ?_
  refine lv_iconst (v := 1) hx hb dL_law_2396 (by decide) ?_
  refine lv_iadd hx hb dL_law_2397 ?_
  refine va_sld hx hb hX hbl hbA hH.2 hv462.1 dL_law_2398 ?_
  refine lv_i2c hx hb dL_law_2399 rfl ?_
  refine lv_aload_n hx hb dL_law_2400 rfl (lv_at hl 0 rfl) ?_
  refine lv_iload hx hb dL_law_2401 (lv_at hl 5 rfl) ?_
  refine lv_iconst (v := 2) hx hb dL_law_2403 (by decide) ?_
  refine lv_iadd hx hb dL_law_2404 ?_
  refine va_sld hx hb hX hbl hbA hH.2 hv462.2.1 dL_law_2405 ?_
  refine lv_i2c hx hb dL_law_2406 rfl ?_
  refine lv_aload_n hx hb dL_law_2407 rfl (lv_at hl 0 rfl) ?_
  refine lv_iload hx hb dL_law_2408 (lv_at hl 5 rfl) ?_
  refine lv_iconst (v := 3) hx hb dL_law_2410 (by decide) ?_
  refine lv_iadd hx hb dL_law_2411 ?_
  refine va_sld hx hb hX hbl hbA hH.2 hv462.2.2.1 dL_law_2412 ?_
  refine lv_aload_n hx hb dL_law_2413 rfl (lv_at hl 3 rfl) ?_
  refine cg_L_237 hC hH hv462.2.2.2 ⟨Nat.le_of_ble_eq_true rfl, Nat.le_of_ble_eq_true rfl⟩ ⟨(by have hc1 := sj_rmc; omega), (by have hc1 := sj_rms; omega)⟩ hl.1 (Nat.le_of_ble_eq_true rfl) dL_law_2414 (fun r463 w464 H locs hH hv465 => ?_)
  refine lv_istore (lv' := [(6, .int r463), (0, .ref b), (1, .ref f1), (2, .ref f2), (3, .ref f3), (4, .ref f4), (5, .int v5)]) hx hb dL_law_2417 hl (by decide) rfl (fun ls hl => ?_)
  refine lv_aload_n hx hb dL_law_2419 rfl (lv_at hl 3 rfl) ?_
  refine lv_aload_n hx hb dL_law_2420 rfl (lv_at hl 1 rfl) ?_
  refine lv_iload hx hb dL_law_2421 (lv_at hl 6 rfl) ?_
  refine lv_iconst (v := 1) hx hb dL_law_2423 (by decide) ?_
  refine lv_iadd hx hb dL_law_2424 ?_
  refine va_sld hx hb hX hbl hbA hH.2 hv465.1 dL_law_2425 ?_
  refine lv_i2c hx hb dL_law_2426 rfl ?_
  refine lv_aload_n hx hb dL_law_2427 rfl (lv_at hl 1 rfl) ?_
  refine lv_iload hx hb dL_law_2428 (lv_at hl 6 rfl) ?_
  refine lv_iconst (v := 2) hx hb dL_law_2430 (by decide) ?_
  refine lv_iadd hx hb dL_law_2431 ?_
  refine va_sld hx hb hX hbl hbA hH.2 hv465.2.1 dL_law_2432 ?_
  refine lv_i2c hx hb dL_law_2433 rfl ?_
  refine lv_aload_n hx hb dL_law_2434 rfl (lv_at hl 1 rfl) ?_
  refine lv_iload hx hb dL_law_2435 (lv_at hl 6 rfl) ?_
  refine lv_iconst (v := 3) hx hb dL_law_2437 (by decide) ?_
  refine lv_iadd hx hb dL_law_2438 ?_
  refine va_sld hx hb hX hbl hbA hH.2 hv465.2.2.1 dL_law_2439 ?_
  refine cg_L_239 hC hH hv465.2.2.2.2 hv465.2.2.2.1 ⟨Nat.le_of_ble_eq_true rfl, Nat.le_of_ble_eq_true rfl⟩ ⟨(by have hc1 := sj_rmc; omega), (by have hc1 := sj_rms; omega)⟩ hl.1 (Nat.le_of_ble_eq_true rfl) dL_law_2440 (fun r466 w467 H locs hH hv468 => ?_)
  refine lv_istore (lv' := [(7, .int r466), (6, .int r463), (0, .ref b), (1, .ref f1), (2, .ref f2), (3, .ref f3), (4, .ref f4), (5, .int v5)]) hx hb dL_law_2443 hl (by decide) rfl (fun ls hl => ?_)
  refine lv_aload_n hx hb dL_law_2445 rfl (lv_at hl 4 rfl) ?_
  refine cg_L_146 hC hH hv468.2 hv468.1 ⟨Nat.le_of_ble_eq_true rfl, Nat.le_of_ble_eq_true rfl⟩ ⟨(by have hc1 := sj_rmc; omega), (by have hc1 := sj_rms; omega)⟩ hl.1 (Nat.le_of_ble_eq_true rfl) dL_law_2446 (fun r469 w470 H locs hH hv471 => ?_)
  refine lv_iload hx hb dL_law_2449 (lv_at hl 1 rfl) ?_
  refine lv_icmp_eq (tgt := 2456) hx hb dL_law_2451 (by decide) (fun hc => ?_) (fun hc => ?_)
  · have hv472 := hv471.1 hc
    refine lv_iload hx hb dL_law_2456 (lv_at hl 1 rfl) ?_
    refine lv_if_ne (tgt := 2473) hx hb dL_law_2458 (by decide) (fun hc => ?_) (fun hc => ?_)
    · have hv473 := hv472.1 hc
      refine lv_goto (tgt := 3021) hx hb dL_law_2473 (by decide) ?_
      refine lv_iinc (v := (v5 + 6)) (lv' := [(5, .int (v5 + 6)), (7, .int r466), (6, .int r463), (0, .ref b), (1, .ref f1), (2, .ref f2), (3, .ref f3), (4, .ref f4)]) hx hb dL_law_3021 hl (k := 7) rfl rfl (by decide) rfl (fun ls hl => ?_)
      refine lv_goto (tgt := 28) hx hb dL_law_3024 (by decide) ?_
      refine W.widen (k := cells + 242) (n := slots + 4193) (by omega) (by omega) ?_
      exact ih (v5 + 6) w470 _ _ _ _ _ (by omega) (by omega) (lv_sub hl [3, 4, 5, 6, 7, 0] rfl) hH hv473
    · have hv474 := hv472.2 hc
      refine lv_aload_n hx hb dL_law_2461 rfl (lv_at hl 5 rfl) ?_
      refine lv_iconst (v := 0) hx hb dL_law_2462 (by decide) ?_
      refine sj_lald hC hH hv474.1 hv474.2.1 dL_law_2463 ?_
      refine lv_iload hx hb dL_law_2464 (lv_at hl 0 rfl) ?_
      refine lv_i2l hx hb dL_law_2466 rfl ?_
      refine W.lcmp hx hb dL_law_2467 ?_
      refine lv_if_eq (tgt := 2473) hx hb dL_law_2468 (by decide) (fun hc => ?_) (fun hc => ?_)
      · have hv475 := hv474.2.2.1 hc
        refine lv_goto (tgt := 3021) hx hb dL_law_2473 (by decide) ?_
        refine lv_iinc (v := (v5 + 6)) (lv' := [(5, .int (v5 + 6)), (7, .int r466), (6, .int r463), (0, .ref b), (1, .ref f1), (2, .ref f2), (3, .ref f3), (4, .ref f4)]) hx hb dL_law_3021 hl (k := 7) rfl rfl (by decide) rfl (fun ls hl => ?_)
        refine lv_goto (tgt := 28) hx hb dL_law_3024 (by decide) ?_
        refine W.widen (k := cells + 242) (n := slots + 4193) (by omega) (by omega) ?_
        exact ih (v5 + 6) w470 _ _ _ _ _ (by omega) (by omega) (lv_sub hl [3, 4, 5, 6, 7, 0] rfl) hH hv475
      · have hv476 := hv474.2.2.2 hc
        refine lv_iconst (v := 0) hx hb dL_law_2471 (by decide) ?_
        exact hv476.elim
  · have hv477 := hv471.2 hc
    refine lv_iconst (v := 0) hx hb dL_law_2454 (by decide) ?_
    exact hv477.elim
set_option maxHeartbeats 4000000 in
set_option maxRecDepth 100000 in
theorem wq_L_law_27 {p : Program} {l : Launch} {e : Env} {s : State} {m : MethodId} {below : List Frame} {meth : Method} {c : Code} {G : sj_G} {L : Nat} {xs : Nat → Int32} {b : Nat} {f1 : Nat} {f2 : Nat} {f3 : Nat} {f4 : Nat} {n : Nat} {v5 : Int32} {w : sj_W} {H : Heap} {locs : List Loc} {ls : Array Slot} {cells slots : Nat} {K : Int32 → sj_W → Prop} (hC : sj_C G p l s m #[Value.ref b] c code RL 9) (hr : meth.sig.returnType = ret) (hk : meth.locks = false) (hX : va_X b L xs s s.heap) (hbl : b < s.heap.size) (hG : G.2.2 = s.heap.size) (hcc : cells + (n + 1) * 242 ≤ 145346) (hcs : slots + (n + 1) * 4193 ≤ 2519522) (hl : lv_has ls 9 [(0, .ref b), (1, .ref f1), (2, .ref f2), (3, .ref f3), (4, .ref f4), (5, .int v5)]) (hH : sj_H G s w H locs) (hc : ((xs v5.toNatClampNeg) &&& 63) = 27) (ih : ∀ (v5 : Int32) (w : sj_W) (H : Heap) (locs : List Loc) (ls : Array Slot) (cells slots : Nat), cells + n * 242 ≤ 145346 → slots + n * 4193 ≤ 2519522 → lv_has ls 9 [(0, .ref b), (1, .ref f1), (2, .ref f2), (3, .ref f3), (4, .ref f4), (5, .int v5)] → sj_H G s w H locs → K v5 w → W p l e room_1 s m #[Value.ref b] below meth c H locs cells slots (lw_Z below #[Value.ref b] s) (F0 m 28 ls [])) (hv478 : vd_L_law_27 L xs K f1 f2 f3 f4 v5 w) : W p l e room_1 s m #[Value.ref b] below meth c H locs cells slots (lw_Z below #[Value.ref b] s) (F0 m 45 ls [.int ((xs v5.toNatClampNeg) &&& 63)]) := by
  have hx := hC.1
  have hb := hC.2.1
  have hbA : ¬ sj_F G b := by unfold sj_F; omega
  have hc1 := sj_rmc
  have hc2 := sj_rms
  refine lv_tableIn (off := 2431) (tgt := 2476) hx hb dL_law_45 (by rw [hc]; decide) (by rw [hc]; decide) (by rw [hc]; rfl) (by decide) ?_
  refine lv_aload_n hx hb dL_law_2476 rfl (lv_at hl 1 rfl) ?_
  refine lv_aload_n hx hb dL_law_2477 rfl (lv_at hl 0 rfl) ?_
  refine lv_iload hx hb dL_law_2478 (lv_at hl 5 rfl) ?_
  refine lv_iconst (v := 1) hx hb dL_law_2480 (by decide) ?_
  refine lv_iadd hx hb dL_law_2481 ?_
  refine va_sld hx hb hX hbl hbA hH.2 hv478.1 dL_law_2482 ?_
  refine lv_i2c hx hb dL_law_2483 rfl ?_
  refine lv_aload_n hx hb dL_law_2484 rfl (lv_at hl 0 rfl) ?_
  refine lv_iload hx hb dL_law_2485 (lv_at hl 5 rfl) ?_
  refine lv_iconst (v := 2) hx hb dL_law_2487 (by decide) ?_
  refine lv_iadd hx hb dL_law_2488 ?_
  refine va_sld hx hb hX hbl hbA hH.2 hv478.2.1 dL_law_2489 ?_
  refine lv_i2c hx hb dL_law_2490 rfl ?_
  refine lv_aload_n hx hb dL_law_2491 rfl (lv_at hl 0 rfl) ?_
  refine lv_iload hx hb dL_law_2492 (lv_at hl 5 rfl) ?_
  refine lv_iconst (v := 3) hx hb dL_law_2494 (by decide) ?_
  refine lv_iadd hx hb dL_law_2495 ?_
  refine va_sld hx hb hX hbl hbA hH.2 hv478.2.2.1 dL_law_2496 ?_
  refine lv_aload_n hx hb dL_law_2497 rfl (lv_at hl 3 rfl) ?_
  refine cg_L_240 hC hH hv478.2.2.2 ⟨Nat.le_of_ble_eq_true rfl, Nat.le_of_ble_eq_true rfl⟩ ⟨(by have hc1 := sj_rmc; omega), (by have hc1 := sj_rms; omega)⟩ hl.1 (Nat.le_of_ble_eq_true rfl) dL_law_2498 (fun r479 w480 H locs hH hv481 => ?_)
  refine lv_istore (lv' := [(6, .int r479), (0, .ref b), (1, .ref f1), (2, .ref f2), (3, .ref f3), (4, .ref f4), (5, .int v5)]) hx hb dL_law_2501 hl (by decide) rfl (fun ls hl => ?_)
  refine lv_aload_n hx hb dL_law_2503 rfl (lv_at hl 3 rfl) ?_
  refine lv_aload_n hx hb dL_law_2504 rfl (lv_at hl 1 rfl) ?_
  refine lv_iload hx hb dL_law_2505 (lv_at hl 6 rfl) ?_
  refine lv_iconst (v := 1) hx hb dL_law_2507 (by decide) ?_
  refine lv_iadd hx hb dL_law_2508 ?_
  refine va_sld hx hb hX hbl hbA hH.2 hv481.1 dL_law_2509 ?_
  refine lv_i2c hx hb dL_law_2510 rfl ?_
  refine lv_aload_n hx hb dL_law_2511 rfl (lv_at hl 1 rfl) ?_
  refine lv_iload hx hb dL_law_2512 (lv_at hl 6 rfl) ?_
  refine lv_iconst (v := 2) hx hb dL_law_2514 (by decide) ?_
  refine lv_iadd hx hb dL_law_2515 ?_
  refine va_sld hx hb hX hbl hbA hH.2 hv481.2.1 dL_law_2516 ?_
  refine lv_i2c hx hb dL_law_2517 rfl ?_
  refine lv_aload_n hx hb dL_law_2518 rfl (lv_at hl 1 rfl) ?_
  refine lv_iload hx hb dL_law_2519 (lv_at hl 6 rfl) ?_
  refine lv_iconst (v := 3) hx hb dL_law_2521 (by decide) ?_
  refine lv_iadd hx hb dL_law_2522 ?_
  refine va_sld hx hb hX hbl hbA hH.2 hv481.2.2.1 dL_law_2523 ?_
  refine cg_L_242 hC hH hv481.2.2.2.2 hv481.2.2.2.1 ⟨Nat.le_of_ble_eq_true rfl, Nat.le_of_ble_eq_true rfl⟩ ⟨(by have hc1 := sj_rmc; omega), (by have hc1 := sj_rms; omega)⟩ hl.1 (Nat.le_of_ble_eq_true rfl) dL_law_2524 (fun r482 w483 H locs hH hv484 => ?_)
  refine lv_istore (lv' := [(7, .int r482), (6, .int r479), (0, .ref b), (1, .ref f1), (2, .ref f2), (3, .ref f3), (4, .ref f4), (5, .int v5)]) hx hb dL_law_2527 hl (by decide) rfl (fun ls hl => ?_)
  refine lv_aload_n hx hb dL_law_2529 rfl (lv_at hl 4 rfl) ?_
  refine cg_L_146 hC hH hv484.2 hv484.1 ⟨Nat.le_of_ble_eq_true rfl, Nat.le_of_ble_eq_true rfl⟩ ⟨(by have hc1 := sj_rmc; omega), (by have hc1 := sj_rms; omega)⟩ hl.1 (Nat.le_of_ble_eq_true rfl) dL_law_2530 (fun r485 w486 H locs hH hv487 => ?_)
  refine lv_iload hx hb dL_law_2533 (lv_at hl 1 rfl) ?_
  refine lv_icmp_eq (tgt := 2540) hx hb dL_law_2535 (by decide) (fun hc => ?_) (fun hc => ?_)
  · have hv488 := hv487.1 hc
    refine lv_iload hx hb dL_law_2540 (lv_at hl 1 rfl) ?_
    refine lv_if_ne (tgt := 2557) hx hb dL_law_2542 (by decide) (fun hc => ?_) (fun hc => ?_)
    · have hv489 := hv488.1 hc
      refine lv_goto (tgt := 3021) hx hb dL_law_2557 (by decide) ?_
      refine lv_iinc (v := (v5 + 6)) (lv' := [(5, .int (v5 + 6)), (7, .int r482), (6, .int r479), (0, .ref b), (1, .ref f1), (2, .ref f2), (3, .ref f3), (4, .ref f4)]) hx hb dL_law_3021 hl (k := 7) rfl rfl (by decide) rfl (fun ls hl => ?_)
      refine lv_goto (tgt := 28) hx hb dL_law_3024 (by decide) ?_
      refine W.widen (k := cells + 242) (n := slots + 4193) (by omega) (by omega) ?_
      exact ih (v5 + 6) w486 _ _ _ _ _ (by omega) (by omega) (lv_sub hl [3, 4, 5, 6, 7, 0] rfl) hH hv489
    · have hv490 := hv488.2 hc
      refine lv_aload_n hx hb dL_law_2545 rfl (lv_at hl 5 rfl) ?_
      refine lv_iconst (v := 0) hx hb dL_law_2546 (by decide) ?_
      refine sj_lald hC hH hv490.1 hv490.2.1 dL_law_2547 ?_
      refine lv_iload hx hb dL_law_2548 (lv_at hl 0 rfl) ?_
      refine lv_i2l hx hb dL_law_2550 rfl ?_
      refine W.lcmp hx hb dL_law_2551 ?_
      refine lv_if_eq (tgt := 2557) hx hb dL_law_2552 (by decide) (fun hc => ?_) (fun hc => ?_)
      · have hv491 := hv490.2.2.1 hc
        refine lv_goto (tgt := 3021) hx hb dL_law_2557 (by decide) ?_
        refine lv_iinc (v := (v5 + 6)) (lv' := [(5, .int (v5 + 6)), (7, .int r482), (6, .int r479), (0, .ref b), (1, .ref f1), (2, .ref f2), (3, .ref f3), (4, .ref f4)]) hx hb dL_law_3021 hl (k := 7) rfl rfl (by decide) rfl (fun ls hl => ?_)
        refine lv_goto (tgt := 28) hx hb dL_law_3024 (by decide) ?_
        refine W.widen (k := cells + 242) (n := slots + 4193) (by omega) (by omega) ?_
        exact ih (v5 + 6) w486 _ _ _ _ _ (by omega) (by omega) (lv_sub hl [3, 4, 5, 6, 7, 0] rfl) hH hv491
      · have hv492 := hv490.2.2.2 hc
        refine lv_iconst (v := 0) hx hb dL_law_2555 (by decide) ?_
        exact hv492.elim
  · have hv493 := hv487.2 hc
    refine lv_iconst (v := 0) hx hb dL_law_2538 (by decide) ?_
    exact hv493.elim
set_option maxHeartbeats 4000000 in
set_option maxRecDepth 100000 in
theorem wq_L_law_28 {p : Program} {l : Launch} {e : Env} {s : State} {m : MethodId} {below : List Frame} {meth : Method} {c : Code} {G : sj_G} {L : Nat} {xs : Nat → Int32} {b : Nat} {f1 : Nat} {f2 : Nat} {f3 : Nat} {f4 : Nat} {n : Nat} {v5 : Int32} {w : sj_W} {H : Heap} {locs : List Loc} {ls : Array Slot} {cells slots : Nat} {K : Int32 → sj_W → Prop} (hC : sj_C G p l s m #[Value.ref b] c code RL 9) (hr : meth.sig.returnType = ret) (hk : meth.locks = false) (hX : va_X b L xs s s.heap) (hbl : b < s.heap.size) (hG : G.2.2 = s.heap.size) (hcc : cells + (n + 1) * 242 ≤ 145346) (hcs : slots + (n + 1) * 4193 ≤ 2519522) (hl : lv_has ls 9 [(0, .ref b), (1, .ref f1), (2, .ref f2), (3, .ref f3), (4, .ref f4), (5, .int v5)]) (hH : sj_H G s w H locs) (hc : ((xs v5.toNatClampNeg) &&& 63) = 28) (ih : ∀ (v5 : Int32) (w : sj_W) (H : Heap) (locs : List Loc) (ls : Array Slot) (cells slots : Nat), cells + n * 242 ≤ 145346 → slots + n * 4193 ≤ 2519522 → lv_has ls 9 [(0, .ref b), (1, .ref f1), (2, .ref f2), (3, .ref f3), (4, .ref f4), (5, .int v5)] → sj_H G s w H locs → K v5 w → W p l e room_1 s m #[Value.ref b] below meth c H locs cells slots (lw_Z below #[Value.ref b] s) (F0 m 28 ls [])) (hv494 : vd_L_law_28 L xs K f1 f2 f3 f4 v5 w) : W p l e room_1 s m #[Value.ref b] below meth c H locs cells slots (lw_Z below #[Value.ref b] s) (F0 m 45 ls [.int ((xs v5.toNatClampNeg) &&& 63)]) := by
  have hx := hC.1
  have hb := hC.2.1
  have hbA : ¬ sj_F G b := by unfold sj_F; omega
  have hc1 := sj_rmc
  have hc2 := sj_rms
  refine lv_tableIn (off := 2515) (tgt := 2560) hx hb dL_law_45 (by rw [hc]; decide) (by rw [hc]; decide) (by rw [hc]; rfl) (by decide) ?_
  refine lv_aload_n hx hb dL_law_2560 rfl (lv_at hl 1 rfl) ?_
  refine lv_aload_n hx hb dL_law_2561 rfl (lv_at hl 0 rfl) ?_
  refine lv_iload hx hb dL_law_2562 (lv_at hl 5 rfl) ?_
  refine lv_iconst (v := 1) hx hb dL_law_2564 (by decide) ?_
  refine lv_iadd hx hb dL_law_2565 ?_
  refine va_sld hx hb hX hbl hbA hH.2 hv494.1 dL_law_2566 ?_
  refine lv_i2c hx hb dL_law_2567 rfl ?_
  refine lv_aload_n hx hb dL_law_2568 rfl (lv_at hl 0 rfl) ?_
  refine lv_iload hx hb dL_law_2569 (lv_at hl 5 rfl) ?_
  refine lv_iconst (v := 2) hx hb dL_law_2571 (by decide) ?_
  refine lv_iadd hx hb dL_law_2572 ?_
  refine va_sld hx hb hX hbl hbA hH.2 hv494.2.1 dL_law_2573 ?_
  refine lv_i2c hx hb dL_law_2574 rfl ?_
  refine lv_aload_n hx hb dL_law_2575 rfl (lv_at hl 0 rfl) ?_
  refine lv_iload hx hb dL_law_2576 (lv_at hl 5 rfl) ?_
  refine lv_iconst (v := 3) hx hb dL_law_2578 (by decide) ?_
  refine lv_iadd hx hb dL_law_2579 ?_
  refine va_sld hx hb hX hbl hbA hH.2 hv494.2.2.1 dL_law_2580 ?_
  refine lv_aload_n hx hb dL_law_2581 rfl (lv_at hl 0 rfl) ?_
  refine lv_iload hx hb dL_law_2582 (lv_at hl 5 rfl) ?_
  refine lv_iconst (v := 4) hx hb dL_law_2584 (by decide) ?_
  refine lv_iadd hx hb dL_law_2585 ?_
  refine va_sld hx hb hX hbl hbA hH.2 hv494.2.2.2.1 dL_law_2586 ?_
  refine lv_aload_n hx hb dL_law_2587 rfl (lv_at hl 3 rfl) ?_
  refine cg_L_243 hC hH hv494.2.2.2.2 ⟨Nat.le_of_ble_eq_true rfl, Nat.le_of_ble_eq_true rfl⟩ ⟨(by have hc1 := sj_rmc; omega), (by have hc1 := sj_rms; omega)⟩ hl.1 (Nat.le_of_ble_eq_true rfl) dL_law_2588 (fun r495 w496 H locs hH hv497 => ?_)
  refine lv_istore (lv' := [(6, .int r495), (0, .ref b), (1, .ref f1), (2, .ref f2), (3, .ref f3), (4, .ref f4), (5, .int v5)]) hx hb dL_law_2591 hl (by decide) rfl (fun ls hl => ?_)
  refine lv_aload_n hx hb dL_law_2593 rfl (lv_at hl 3 rfl) ?_
  refine lv_aload_n hx hb dL_law_2594 rfl (lv_at hl 1 rfl) ?_
  refine lv_iload hx hb dL_law_2595 (lv_at hl 6 rfl) ?_
  refine lv_iconst (v := 1) hx hb dL_law_2597 (by decide) ?_
  refine lv_iadd hx hb dL_law_2598 ?_
  refine va_sld hx hb hX hbl hbA hH.2 hv497.1 dL_law_2599 ?_
  refine lv_i2c hx hb dL_law_2600 rfl ?_
  refine lv_aload_n hx hb dL_law_2601 rfl (lv_at hl 1 rfl) ?_
  refine lv_iload hx hb dL_law_2602 (lv_at hl 6 rfl) ?_
  refine lv_iconst (v := 2) hx hb dL_law_2604 (by decide) ?_
  refine lv_iadd hx hb dL_law_2605 ?_
  refine va_sld hx hb hX hbl hbA hH.2 hv497.2.1 dL_law_2606 ?_
  refine lv_i2c hx hb dL_law_2607 rfl ?_
  refine lv_aload_n hx hb dL_law_2608 rfl (lv_at hl 1 rfl) ?_
  refine lv_iload hx hb dL_law_2609 (lv_at hl 6 rfl) ?_
  refine lv_iconst (v := 3) hx hb dL_law_2611 (by decide) ?_
  refine lv_iadd hx hb dL_law_2612 ?_
  refine va_sld hx hb hX hbl hbA hH.2 hv497.2.2.1 dL_law_2613 ?_
  refine lv_aload_n hx hb dL_law_2614 rfl (lv_at hl 1 rfl) ?_
  refine lv_iload hx hb dL_law_2615 (lv_at hl 6 rfl) ?_
  refine lv_iconst (v := 4) hx hb dL_law_2617 (by decide) ?_
  refine lv_iadd hx hb dL_law_2618 ?_
  refine va_sld hx hb hX hbl hbA hH.2 hv497.2.2.2.1 dL_law_2619 ?_
  refine cg_L_245 hC hH hv497.2.2.2.2.2 hv497.2.2.2.2.1 ⟨Nat.le_of_ble_eq_true rfl, Nat.le_of_ble_eq_true rfl⟩ ⟨(by have hc1 := sj_rmc; omega), (by have hc1 := sj_rms; omega)⟩ hl.1 (Nat.le_of_ble_eq_true rfl) dL_law_2620 (fun r498 w499 H locs hH hv500 => ?_)
  refine lv_istore (lv' := [(7, .int r498), (6, .int r495), (0, .ref b), (1, .ref f1), (2, .ref f2), (3, .ref f3), (4, .ref f4), (5, .int v5)]) hx hb dL_law_2623 hl (by decide) rfl (fun ls hl => ?_)
  refine lv_aload_n hx hb dL_law_2625 rfl (lv_at hl 4 rfl) ?_
  refine cg_L_146 hC hH hv500.2 hv500.1 ⟨Nat.le_of_ble_eq_true rfl, Nat.le_of_ble_eq_true rfl⟩ ⟨(by have hc1 := sj_rmc; omega), (by have hc1 := sj_rms; omega)⟩ hl.1 (Nat.le_of_ble_eq_true rfl) dL_law_2626 (fun r501 w502 H locs hH hv503 => ?_)
  refine lv_iload hx hb dL_law_2629 (lv_at hl 1 rfl) ?_
  refine lv_icmp_eq (tgt := 2636) hx hb dL_law_2631 (by decide) (fun hc => ?_) (fun hc => ?_)
  · have hv504 := hv503.1 hc
    refine lv_iload hx hb dL_law_2636 (lv_at hl 1 rfl) ?_
    refine lv_if_ne (tgt := 2653) hx hb dL_law_2638 (by decide) (fun hc => ?_) (fun hc => ?_)
    · have hv505 := hv504.1 hc
      refine lv_goto (tgt := 3021) hx hb dL_law_2653 (by decide) ?_
      refine lv_iinc (v := (v5 + 6)) (lv' := [(5, .int (v5 + 6)), (7, .int r498), (6, .int r495), (0, .ref b), (1, .ref f1), (2, .ref f2), (3, .ref f3), (4, .ref f4)]) hx hb dL_law_3021 hl (k := 7) rfl rfl (by decide) rfl (fun ls hl => ?_)
      refine lv_goto (tgt := 28) hx hb dL_law_3024 (by decide) ?_
      refine W.widen (k := cells + 242) (n := slots + 4193) (by omega) (by omega) ?_
      exact ih (v5 + 6) w502 _ _ _ _ _ (by omega) (by omega) (lv_sub hl [3, 4, 5, 6, 7, 0] rfl) hH hv505
    · have hv506 := hv504.2 hc
      refine lv_aload_n hx hb dL_law_2641 rfl (lv_at hl 5 rfl) ?_
      refine lv_iconst (v := 0) hx hb dL_law_2642 (by decide) ?_
      refine sj_lald hC hH hv506.1 hv506.2.1 dL_law_2643 ?_
      refine lv_iload hx hb dL_law_2644 (lv_at hl 0 rfl) ?_
      refine lv_i2l hx hb dL_law_2646 rfl ?_
      refine W.lcmp hx hb dL_law_2647 ?_
      refine lv_if_eq (tgt := 2653) hx hb dL_law_2648 (by decide) (fun hc => ?_) (fun hc => ?_)
      · have hv507 := hv506.2.2.1 hc
        refine lv_goto (tgt := 3021) hx hb dL_law_2653 (by decide) ?_
        refine lv_iinc (v := (v5 + 6)) (lv' := [(5, .int (v5 + 6)), (7, .int r498), (6, .int r495), (0, .ref b), (1, .ref f1), (2, .ref f2), (3, .ref f3), (4, .ref f4)]) hx hb dL_law_3021 hl (k := 7) rfl rfl (by decide) rfl (fun ls hl => ?_)
        refine lv_goto (tgt := 28) hx hb dL_law_3024 (by decide) ?_
        refine W.widen (k := cells + 242) (n := slots + 4193) (by omega) (by omega) ?_
        exact ih (v5 + 6) w502 _ _ _ _ _ (by omega) (by omega) (lv_sub hl [3, 4, 5, 6, 7, 0] rfl) hH hv507
      · have hv508 := hv506.2.2.2 hc
        refine lv_iconst (v := 0) hx hb dL_law_2651 (by decide) ?_
        exact hv508.elim
  · have hv509 := hv503.2 hc
    refine lv_iconst (v := 0) hx hb dL_law_2634 (by decide) ?_
    exact hv509.elim
set_option maxHeartbeats 4000000 in
set_option maxRecDepth 100000 in
theorem wq_L_law_29 {p : Program} {l : Launch} {e : Env} {s : State} {m : MethodId} {below : List Frame} {meth : Method} {c : Code} {G : sj_G} {L : Nat} {xs : Nat → Int32} {b : Nat} {f1 : Nat} {f2 : Nat} {f3 : Nat} {f4 : Nat} {n : Nat} {v5 : Int32} {w : sj_W} {H : Heap} {locs : List Loc} {ls : Array Slot} {cells slots : Nat} {K : Int32 → sj_W → Prop} (hC : sj_C G p l s m #[Value.ref b] c code RL 9) (hr : meth.sig.returnType = ret) (hk : meth.locks = false) (hX : va_X b L xs s s.heap) (hbl : b < s.heap.size) (hG : G.2.2 = s.heap.size) (hcc : cells + (n + 1) * 242 ≤ 145346) (hcs : slots + (n + 1) * 4193 ≤ 2519522) (hl : lv_has ls 9 [(0, .ref b), (1, .ref f1), (2, .ref f2), (3, .ref f3), (4, .ref f4), (5, .int v5)]) (hH : sj_H G s w H locs) (hc : ((xs v5.toNatClampNeg) &&& 63) = 29) (ih : ∀ (v5 : Int32) (w : sj_W) (H : Heap) (locs : List Loc) (ls : Array Slot) (cells slots : Nat), cells + n * 242 ≤ 145346 → slots + n * 4193 ≤ 2519522 → lv_has ls 9 [(0, .ref b), (1, .ref f1), (2, .ref f2), (3, .ref f3), (4, .ref f4), (5, .int v5)] → sj_H G s w H locs → K v5 w → W p l e room_1 s m #[Value.ref b] below meth c H locs cells slots (lw_Z below #[Value.ref b] s) (F0 m 28 ls [])) (hv510 : vd_L_law_29 L xs K f1 f2 f3 f4 v5 w) : W p l e room_1 s m #[Value.ref b] below meth c H locs cells slots (lw_Z below #[Value.ref b] s) (F0 m 45 ls [.int ((xs v5.toNatClampNeg) &&& 63)]) := by
  have hx := hC.1
  have hb := hC.2.1
  have hbA : ¬ sj_F G b := by unfold sj_F; omega
  have hc1 := sj_rmc
  have hc2 := sj_rms
  refine lv_tableIn (off := 2611) (tgt := 2656) hx hb dL_law_45 (by rw [hc]; decide) (by rw [hc]; decide) (by rw [hc]; rfl) (by decide) ?_
  refine lv_aload_n hx hb dL_law_2656 rfl (lv_at hl 1 rfl) ?_
  refine lv_aload_n hx hb dL_law_2657 rfl (lv_at hl 0 rfl) ?_
  refine lv_iload hx hb dL_law_2658 (lv_at hl 5 rfl) ?_
  refine lv_iconst (v := 1) hx hb dL_law_2660 (by decide) ?_
  refine lv_iadd hx hb dL_law_2661 ?_
  refine va_sld hx hb hX hbl hbA hH.2 hv510.1 dL_law_2662 ?_
  refine lv_i2c hx hb dL_law_2663 rfl ?_
  refine lv_aload hx hb dL_law_2664 (lv_at hl 4 rfl) ?_
  refine cg_L_246 hC hH hv510.2 ⟨Nat.le_of_ble_eq_true rfl, Nat.le_of_ble_eq_true rfl⟩ ⟨(by have hc1 := sj_rmc; omega), (by have hc1 := sj_rms; omega)⟩ hl.1 (Nat.le_of_ble_eq_true rfl) dL_law_2666 (fun r511 w512 H locs hH hv513 => ?_)
  refine lv_istore (lv' := [(6, .int r511), (0, .ref b), (1, .ref f1), (2, .ref f2), (3, .ref f3), (4, .ref f4), (5, .int v5)]) hx hb dL_law_2669 hl (by decide) rfl (fun ls hl => ?_)
  refine lv_aload_n hx hb dL_law_2671 rfl (lv_at hl 3 rfl) ?_
  refine lv_aload_n hx hb dL_law_2672 rfl (lv_at hl 1 rfl) ?_
  refine lv_iload hx hb dL_law_2673 (lv_at hl 6 rfl) ?_
  refine lv_iconst (v := 1) hx hb dL_law_2675 (by decide) ?_
  refine lv_iadd hx hb dL_law_2676 ?_
  refine va_sld hx hb hX hbl hbA hH.2 hv513.1 dL_law_2677 ?_
  refine lv_i2c hx hb dL_law_2678 rfl ?_
  refine cg_L_249 hC hH hv513.2.2 hv513.2.1 ⟨Nat.le_of_ble_eq_true rfl, Nat.le_of_ble_eq_true rfl⟩ ⟨(by have hc1 := sj_rmc; omega), (by have hc1 := sj_rms; omega)⟩ hl.1 (Nat.le_of_ble_eq_true rfl) dL_law_2679 (fun r514 w515 H locs hH hv516 => ?_)
  refine lv_fstore (lv' := [(7, .float r514), (6, .int r511), (0, .ref b), (1, .ref f1), (2, .ref f2), (3, .ref f3), (4, .ref f4), (5, .int v5)]) hx hb dL_law_2682 hl (by decide) rfl (fun ls hl => ?_)
  refine lv_aload_n hx hb dL_law_2684 rfl (lv_at hl 4 rfl) ?_
  refine cg_L_146 hC hH hv516.2 hv516.1 ⟨Nat.le_of_ble_eq_true rfl, Nat.le_of_ble_eq_true rfl⟩ ⟨(by have hc1 := sj_rmc; omega), (by have hc1 := sj_rms; omega)⟩ hl.1 (Nat.le_of_ble_eq_true rfl) dL_law_2685 (fun r517 w518 H locs hH hv519 => ?_)
  refine lv_iload hx hb dL_law_2688 (lv_at hl 1 rfl) ?_
  refine lv_icmp_eq (tgt := 2695) hx hb dL_law_2690 (by decide) (fun hc => ?_) (fun hc => ?_)
  · have hv520 := hv519.1 hc
    refine lv_iload hx hb dL_law_2695 (lv_at hl 1 rfl) ?_
    refine lv_if_ne (tgt := 2733) hx hb dL_law_2697 (by decide) (fun hc => ?_) (fun hc => ?_)
    · have hv521 := hv520.1 hc
      refine lv_goto (tgt := 3021) hx hb dL_law_2733 (by decide) ?_
      refine lv_iinc (v := (v5 + 6)) (lv' := [(5, .int (v5 + 6)), (7, .float r514), (6, .int r511), (0, .ref b), (1, .ref f1), (2, .ref f2), (3, .ref f3), (4, .ref f4)]) hx hb dL_law_3021 hl (k := 7) rfl rfl (by decide) rfl (fun ls hl => ?_)
      refine lv_goto (tgt := 28) hx hb dL_law_3024 (by decide) ?_
      refine W.widen (k := cells + 242) (n := slots + 4193) (by omega) (by omega) ?_
      exact ih (v5 + 6) w518 _ _ _ _ _ (by omega) (by omega) (lv_sub hl [3, 4, 5, 6, 7, 0] rfl) hH hv521
    · have hv522 := hv520.2 hc
      refine lv_aload hx hb dL_law_2700 (lv_at hl 6 rfl) ?_
      refine lv_iconst (v := 0) hx hb dL_law_2702 (by decide) ?_
      refine sj_dald hC hH hv522.1 hv522.2.1 dL_law_2703 ?_
      refine lv_fload hx hb dL_law_2704 (lv_at hl 0 rfl) ?_
      refine lv_f2d hx hb dL_law_2706 hv522.2.2.1 ?_
      refine lv_dcmp hx hb dL_law_2707 ?_
      refine lv_if_eq (tgt := 2733) hx hb dL_law_2708 (by decide) (fun hc => ?_) (fun hc => ?_)
      · have hv523 := hv522.2.2.2.1 hc
        refine lv_goto (tgt := 3021) hx hb dL_law_2733 (by decide) ?_
        refine lv_iinc (v := (v5 + 6)) (lv' := [(5, .int (v5 + 6)), (7, .float r514), (6, .int r511), (0, .ref b), (1, .ref f1), (2, .ref f2), (3, .ref f3), (4, .ref f4)]) hx hb dL_law_3021 hl (k := 7) rfl rfl (by decide) rfl (fun ls hl => ?_)
        refine lv_goto (tgt := 28) hx hb dL_law_3024 (by decide) ?_
        refine W.widen (k := cells + 242) (n := slots + 4193) (by omega) (by omega) ?_
        exact ih (v5 + 6) w518 _ _ _ _ _ (by omega) (by omega) (lv_sub hl [3, 4, 5, 6, 7, 0] rfl) hH hv523
      · have hv524 := hv522.2.2.2.2 hc
        refine lv_aload hx hb dL_law_2711 (lv_at hl 6 rfl) ?_
        refine lv_iconst (v := 0) hx hb dL_law_2713 (by decide) ?_
        refine sj_dald hC hH hv524.1 hv524.2.1 dL_law_2714 ?_
        refine lv_aload hx hb dL_law_2715 (lv_at hl 6 rfl) ?_
        refine lv_iconst (v := 0) hx hb dL_law_2717 (by decide) ?_
        refine sj_dald hC hH hv524.2.2.1 hv524.2.2.2.1 dL_law_2718 ?_
        refine lv_dcmp hx hb dL_law_2719 ?_
        refine lv_if_eq (tgt := 2731) hx hb dL_law_2720 (by decide) (fun hc => ?_) (fun hc => ?_)
        · have hv525 := hv524.2.2.2.2.1 hc
          refine lv_iconst (v := 0) hx hb dL_law_2731 (by decide) ?_
          exact hv525.elim
        · have hv526 := hv524.2.2.2.2.2 hc
          refine lv_fload hx hb dL_law_2723 (lv_at hl 0 rfl) ?_
          refine lv_fload hx hb dL_law_2725 (lv_at hl 0 rfl) ?_
          refine lv_fcmp hx hb dL_law_2727 ?_
          refine lv_if_ne (tgt := 2733) hx hb dL_law_2728 (by decide) (fun hc => ?_) (fun hc => ?_)
          · have hv527 := hv526.1 hc
            refine lv_goto (tgt := 3021) hx hb dL_law_2733 (by decide) ?_
            refine lv_iinc (v := (v5 + 6)) (lv' := [(5, .int (v5 + 6)), (7, .float r514), (6, .int r511), (0, .ref b), (1, .ref f1), (2, .ref f2), (3, .ref f3), (4, .ref f4)]) hx hb dL_law_3021 hl (k := 7) rfl rfl (by decide) rfl (fun ls hl => ?_)
            refine lv_goto (tgt := 28) hx hb dL_law_3024 (by decide) ?_
            refine W.widen (k := cells + 242) (n := slots + 4193) (by omega) (by omega) ?_
            exact ih (v5 + 6) w518 _ _ _ _ _ (by omega) (by omega) (lv_sub hl [3, 4, 5, 6, 7, 0] rfl) hH hv527
          · have hv528 := hv526.2 hc
            refine lv_iconst (v := 0) hx hb dL_law_2731 (by decide) ?_
            exact hv528.elim
  · have hv529 := hv519.2 hc
    refine lv_iconst (v := 0) hx hb dL_law_2693 (by decide) ?_
    exact hv529.elim
set_option maxHeartbeats 4000000 in
set_option maxRecDepth 100000 in
theorem wq_L_law_30 {p : Program} {l : Launch} {e : Env} {s : State} {m : MethodId} {below : List Frame} {meth : Method} {c : Code} {G : sj_G} {L : Nat} {xs : Nat → Int32} {b : Nat} {f1 : Nat} {f2 : Nat} {f3 : Nat} {f4 : Nat} {n : Nat} {v5 : Int32} {w : sj_W} {H : Heap} {locs : List Loc} {ls : Array Slot} {cells slots : Nat} {K : Int32 → sj_W → Prop} (hC : sj_C G p l s m #[Value.ref b] c code RL 9) (hr : meth.sig.returnType = ret) (hk : meth.locks = false) (hX : va_X b L xs s s.heap) (hbl : b < s.heap.size) (hG : G.2.2 = s.heap.size) (hcc : cells + (n + 1) * 242 ≤ 145346) (hcs : slots + (n + 1) * 4193 ≤ 2519522) (hl : lv_has ls 9 [(0, .ref b), (1, .ref f1), (2, .ref f2), (3, .ref f3), (4, .ref f4), (5, .int v5)]) (hH : sj_H G s w H locs) (hc : ((xs v5.toNatClampNeg) &&& 63) = 30) (ih : ∀ (v5 : Int32) (w : sj_W) (H : Heap) (locs : List Loc) (ls : Array Slot) (cells slots : Nat), cells + n * 242 ≤ 145346 → slots + n * 4193 ≤ 2519522 → lv_has ls 9 [(0, .ref b), (1, .ref f1), (2, .ref f2), (3, .ref f3), (4, .ref f4), (5, .int v5)] → sj_H G s w H locs → K v5 w → W p l e room_1 s m #[Value.ref b] below meth c H locs cells slots (lw_Z below #[Value.ref b] s) (F0 m 28 ls [])) (hv530 : vd_L_law_30 L xs K f1 f2 f3 f4 v5 w) : W p l e room_1 s m #[Value.ref b] below meth c H locs cells slots (lw_Z below #[Value.ref b] s) (F0 m 45 ls [.int ((xs v5.toNatClampNeg) &&& 63)]) := by
  have hx := hC.1
  have hb := hC.2.1
  have hbA : ¬ sj_F G b := by unfold sj_F; omega
  have hc1 := sj_rmc
  have hc2 := sj_rms
  refine lv_tableIn (off := 2691) (tgt := 2736) hx hb dL_law_45 (by rw [hc]; decide) (by rw [hc]; decide) (by rw [hc]; rfl) (by decide) ?_
  refine lv_aload_n hx hb dL_law_2736 rfl (lv_at hl 1 rfl) ?_
  refine lv_aload_n hx hb dL_law_2737 rfl (lv_at hl 0 rfl) ?_
  refine lv_iload hx hb dL_law_2738 (lv_at hl 5 rfl) ?_
  refine lv_iconst (v := 1) hx hb dL_law_2740 (by decide) ?_
  refine lv_iadd hx hb dL_law_2741 ?_
  refine va_sld hx hb hX hbl hbA hH.2 hv530.1 dL_law_2742 ?_
  refine lv_i2c hx hb dL_law_2743 rfl ?_
  refine lv_aload hx hb dL_law_2744 (lv_at hl 4 rfl) ?_
  refine cg_L_250 hC hH hv530.2 ⟨Nat.le_of_ble_eq_true rfl, Nat.le_of_ble_eq_true rfl⟩ ⟨(by have hc1 := sj_rmc; omega), (by have hc1 := sj_rms; omega)⟩ hl.1 (Nat.le_of_ble_eq_true rfl) dL_law_2746 (fun r531 w532 H locs hH hv533 => ?_)
  refine lv_istore (lv' := [(6, .int r531), (0, .ref b), (1, .ref f1), (2, .ref f2), (3, .ref f3), (4, .ref f4), (5, .int v5)]) hx hb dL_law_2749 hl (by decide) rfl (fun ls hl => ?_)
  refine lv_aload_n hx hb dL_law_2751 rfl (lv_at hl 3 rfl) ?_
  refine lv_aload_n hx hb dL_law_2752 rfl (lv_at hl 1 rfl) ?_
  refine lv_iload hx hb dL_law_2753 (lv_at hl 6 rfl) ?_
  refine lv_iconst (v := 1) hx hb dL_law_2755 (by decide) ?_
  refine lv_iadd hx hb dL_law_2756 ?_
  refine va_sld hx hb hX hbl hbA hH.2 hv533.1 dL_law_2757 ?_
  refine lv_i2c hx hb dL_law_2758 rfl ?_
  refine cg_L_252 hC hH hv533.2.2 hv533.2.1 ⟨Nat.le_of_ble_eq_true rfl, Nat.le_of_ble_eq_true rfl⟩ ⟨(by have hc1 := sj_rmc; omega), (by have hc1 := sj_rms; omega)⟩ hl.1 (Nat.le_of_ble_eq_true rfl) dL_law_2759 (fun r534 w535 H locs hH hv536 => ?_)
  refine lv_dstore (lv' := [(7, .double r534), (6, .int r531), (0, .ref b), (1, .ref f1), (2, .ref f2), (3, .ref f3), (4, .ref f4), (5, .int v5)]) hx hb dL_law_2762 hl (by decide) rfl (fun ls hl => ?_)
  refine lv_aload_n hx hb dL_law_2764 rfl (lv_at hl 4 rfl) ?_
  refine cg_L_146 hC hH hv536.2 hv536.1 ⟨Nat.le_of_ble_eq_true rfl, Nat.le_of_ble_eq_true rfl⟩ ⟨(by have hc1 := sj_rmc; omega), (by have hc1 := sj_rms; omega)⟩ hl.1 (Nat.le_of_ble_eq_true rfl) dL_law_2765 (fun r537 w538 H locs hH hv539 => ?_)
  refine lv_iload hx hb dL_law_2768 (lv_at hl 1 rfl) ?_
  refine lv_icmp_eq (tgt := 2775) hx hb dL_law_2770 (by decide) (fun hc => ?_) (fun hc => ?_)
  · have hv540 := hv539.1 hc
    refine lv_iload hx hb dL_law_2775 (lv_at hl 1 rfl) ?_
    refine lv_if_ne (tgt := 2812) hx hb dL_law_2777 (by decide) (fun hc => ?_) (fun hc => ?_)
    · have hv541 := hv540.1 hc
      refine lv_goto (tgt := 3021) hx hb dL_law_2812 (by decide) ?_
      refine lv_iinc (v := (v5 + 6)) (lv' := [(5, .int (v5 + 6)), (7, .double r534), (6, .int r531), (0, .ref b), (1, .ref f1), (2, .ref f2), (3, .ref f3), (4, .ref f4)]) hx hb dL_law_3021 hl (k := 7) rfl rfl (by decide) rfl (fun ls hl => ?_)
      refine lv_goto (tgt := 28) hx hb dL_law_3024 (by decide) ?_
      refine W.widen (k := cells + 242) (n := slots + 4193) (by omega) (by omega) ?_
      exact ih (v5 + 6) w538 _ _ _ _ _ (by omega) (by omega) (lv_sub hl [3, 4, 5, 6, 7, 0] rfl) hH hv541
    · have hv542 := hv540.2 hc
      refine lv_aload hx hb dL_law_2780 (lv_at hl 6 rfl) ?_
      refine lv_iconst (v := 0) hx hb dL_law_2782 (by decide) ?_
      refine sj_dald hC hH hv542.1 hv542.2.1 dL_law_2783 ?_
      refine lv_dload hx hb dL_law_2784 (lv_at hl 0 rfl) ?_
      refine lv_dcmp hx hb dL_law_2786 ?_
      refine lv_if_eq (tgt := 2812) hx hb dL_law_2787 (by decide) (fun hc => ?_) (fun hc => ?_)
      · have hv543 := hv542.2.2.1 hc
        refine lv_goto (tgt := 3021) hx hb dL_law_2812 (by decide) ?_
        refine lv_iinc (v := (v5 + 6)) (lv' := [(5, .int (v5 + 6)), (7, .double r534), (6, .int r531), (0, .ref b), (1, .ref f1), (2, .ref f2), (3, .ref f3), (4, .ref f4)]) hx hb dL_law_3021 hl (k := 7) rfl rfl (by decide) rfl (fun ls hl => ?_)
        refine lv_goto (tgt := 28) hx hb dL_law_3024 (by decide) ?_
        refine W.widen (k := cells + 242) (n := slots + 4193) (by omega) (by omega) ?_
        exact ih (v5 + 6) w538 _ _ _ _ _ (by omega) (by omega) (lv_sub hl [3, 4, 5, 6, 7, 0] rfl) hH hv543
      · have hv544 := hv542.2.2.2 hc
        refine lv_aload hx hb dL_law_2790 (lv_at hl 6 rfl) ?_
        refine lv_iconst (v := 0) hx hb dL_law_2792 (by decide) ?_
        refine sj_dald hC hH hv544.1 hv544.2.1 dL_law_2793 ?_
        refine lv_aload hx hb dL_law_2794 (lv_at hl 6 rfl) ?_
        refine lv_iconst (v := 0) hx hb dL_law_2796 (by decide) ?_
        refine sj_dald hC hH hv544.2.2.1 hv544.2.2.2.1 dL_law_2797 ?_
        refine lv_dcmp hx hb dL_law_2798 ?_
        refine lv_if_eq (tgt := 2810) hx hb dL_law_2799 (by decide) (fun hc => ?_) (fun hc => ?_)
        · have hv545 := hv544.2.2.2.2.1 hc
          refine lv_iconst (v := 0) hx hb dL_law_2810 (by decide) ?_
          exact hv545.elim
        · have hv546 := hv544.2.2.2.2.2 hc
          refine lv_dload hx hb dL_law_2802 (lv_at hl 0 rfl) ?_
          refine lv_dload hx hb dL_law_2804 (lv_at hl 0 rfl) ?_
          refine lv_dcmp hx hb dL_law_2806 ?_
          refine lv_if_ne (tgt := 2812) hx hb dL_law_2807 (by decide) (fun hc => ?_) (fun hc => ?_)
          · have hv547 := hv546.1 hc
            refine lv_goto (tgt := 3021) hx hb dL_law_2812 (by decide) ?_
            refine lv_iinc (v := (v5 + 6)) (lv' := [(5, .int (v5 + 6)), (7, .double r534), (6, .int r531), (0, .ref b), (1, .ref f1), (2, .ref f2), (3, .ref f3), (4, .ref f4)]) hx hb dL_law_3021 hl (k := 7) rfl rfl (by decide) rfl (fun ls hl => ?_)
            refine lv_goto (tgt := 28) hx hb dL_law_3024 (by decide) ?_
            refine W.widen (k := cells + 242) (n := slots + 4193) (by omega) (by omega) ?_
            exact ih (v5 + 6) w538 _ _ _ _ _ (by omega) (by omega) (lv_sub hl [3, 4, 5, 6, 7, 0] rfl) hH hv547
          · have hv548 := hv546.2 hc
            refine lv_iconst (v := 0) hx hb dL_law_2810 (by decide) ?_
            exact hv548.elim
  · have hv549 := hv539.2 hc
    refine lv_iconst (v := 0) hx hb dL_law_2773 (by decide) ?_
    exact hv549.elim
set_option maxHeartbeats 4000000 in
set_option maxRecDepth 100000 in
theorem wq_L_law_31 {p : Program} {l : Launch} {e : Env} {s : State} {m : MethodId} {below : List Frame} {meth : Method} {c : Code} {G : sj_G} {L : Nat} {xs : Nat → Int32} {b : Nat} {f1 : Nat} {f2 : Nat} {f3 : Nat} {f4 : Nat} {n : Nat} {v5 : Int32} {w : sj_W} {H : Heap} {locs : List Loc} {ls : Array Slot} {cells slots : Nat} {K : Int32 → sj_W → Prop} (hC : sj_C G p l s m #[Value.ref b] c code RL 9) (hr : meth.sig.returnType = ret) (hk : meth.locks = false) (hX : va_X b L xs s s.heap) (hbl : b < s.heap.size) (hG : G.2.2 = s.heap.size) (hcc : cells + (n + 1) * 242 ≤ 145346) (hcs : slots + (n + 1) * 4193 ≤ 2519522) (hl : lv_has ls 9 [(0, .ref b), (1, .ref f1), (2, .ref f2), (3, .ref f3), (4, .ref f4), (5, .int v5)]) (hH : sj_H G s w H locs) (hc : ((xs v5.toNatClampNeg) &&& 63) = 31) (ih : ∀ (v5 : Int32) (w : sj_W) (H : Heap) (locs : List Loc) (ls : Array Slot) (cells slots : Nat), cells + n * 242 ≤ 145346 → slots + n * 4193 ≤ 2519522 → lv_has ls 9 [(0, .ref b), (1, .ref f1), (2, .ref f2), (3, .ref f3), (4, .ref f4), (5, .int v5)] → sj_H G s w H locs → K v5 w → W p l e room_1 s m #[Value.ref b] below meth c H locs cells slots (lw_Z below #[Value.ref b] s) (F0 m 28 ls [])) (hv550 : vd_L_law_31 L xs K f1 f2 f3 f4 v5 w) : W p l e room_1 s m #[Value.ref b] below meth c H locs cells slots (lw_Z below #[Value.ref b] s) (F0 m 45 ls [.int ((xs v5.toNatClampNeg) &&& 63)]) := by
  have hx := hC.1
  have hb := hC.2.1
  have hbA : ¬ sj_F G b := by unfold sj_F; omega
  have hc1 := sj_rmc
  have hc2 := sj_rms
  refine lv_tableIn (off := 2770) (tgt := 2815) hx hb dL_law_45 (by rw [hc]; decide) (by rw [hc]; decide) (by rw [hc]; rfl) (by decide) ?_
  refine lv_aload_n hx hb dL_law_2815 rfl (lv_at hl 1 rfl) ?_
  refine cg_L_253 hC hH hv550.2 hv550.1 ⟨Nat.le_of_ble_eq_true rfl, Nat.le_of_ble_eq_true rfl⟩ ⟨(by have hc1 := sj_rmc; omega), (by have hc1 := sj_rms; omega)⟩ hl.1 (Nat.le_of_ble_eq_true rfl) dL_law_2816 (fun r551 w552 H locs hH hv553 => ?_)
  refine lv_aload_n hx hb dL_law_2819 rfl (lv_at hl 2 rfl) ?_
  refine cg_L_257 hC hH hv553.2 hv553.1 ⟨Nat.le_of_ble_eq_true rfl, Nat.le_of_ble_eq_true rfl⟩ ⟨(by have hc1 := sj_rmc; omega), (by have hc1 := sj_rms; omega)⟩ hl.1 (Nat.le_of_ble_eq_true rfl) dL_law_2820 (fun r554 w555 H locs hH hv556 => ?_)
  refine W.lcmp hx hb dL_law_2823 ?_
  refine lv_if_eq (tgt := 3021) hx hb dL_law_2824 (by decide) (fun hc => ?_) (fun hc => ?_)
  · have hv557 := hv556.1 hc
    refine lv_iinc (v := (v5 + 6)) (lv' := [(5, .int (v5 + 6)), (0, .ref b), (1, .ref f1), (2, .ref f2), (3, .ref f3), (4, .ref f4)]) hx hb dL_law_3021 hl (k := 5) rfl rfl (by decide) rfl (fun ls hl => ?_)
    refine lv_goto (tgt := 28) hx hb dL_law_3024 (by decide) ?_
    refine W.widen (k := cells + 242) (n := slots + 4193) (by omega) (by omega) ?_
    exact ih (v5 + 6) w555 _ _ _ _ _ (by omega) (by omega) (lv_sub hl [1, 2, 3, 4, 5, 0] rfl) hH hv557
  · have hv558 := hv556.2 hc
    refine lv_iconst (v := 0) hx hb dL_law_2827 (by decide) ?_
    exact hv558.elim
set_option maxHeartbeats 4000000 in
set_option maxRecDepth 100000 in
theorem wq_L_law_32 {p : Program} {l : Launch} {e : Env} {s : State} {m : MethodId} {below : List Frame} {meth : Method} {c : Code} {G : sj_G} {L : Nat} {xs : Nat → Int32} {b : Nat} {f1 : Nat} {f2 : Nat} {f3 : Nat} {f4 : Nat} {n : Nat} {v5 : Int32} {w : sj_W} {H : Heap} {locs : List Loc} {ls : Array Slot} {cells slots : Nat} {K : Int32 → sj_W → Prop} (hC : sj_C G p l s m #[Value.ref b] c code RL 9) (hr : meth.sig.returnType = ret) (hk : meth.locks = false) (hX : va_X b L xs s s.heap) (hbl : b < s.heap.size) (hG : G.2.2 = s.heap.size) (hcc : cells + (n + 1) * 242 ≤ 145346) (hcs : slots + (n + 1) * 4193 ≤ 2519522) (hl : lv_has ls 9 [(0, .ref b), (1, .ref f1), (2, .ref f2), (3, .ref f3), (4, .ref f4), (5, .int v5)]) (hH : sj_H G s w H locs) (hc : ((xs v5.toNatClampNeg) &&& 63) = 32) (ih : ∀ (v5 : Int32) (w : sj_W) (H : Heap) (locs : List Loc) (ls : Array Slot) (cells slots : Nat), cells + n * 242 ≤ 145346 → slots + n * 4193 ≤ 2519522 → lv_has ls 9 [(0, .ref b), (1, .ref f1), (2, .ref f2), (3, .ref f3), (4, .ref f4), (5, .int v5)] → sj_H G s w H locs → K v5 w → W p l e room_1 s m #[Value.ref b] below meth c H locs cells slots (lw_Z below #[Value.ref b] s) (F0 m 28 ls [])) (hv559 : vd_L_law_32 L xs K f1 f2 f3 f4 v5 w) : W p l e room_1 s m #[Value.ref b] below meth c H locs cells slots (lw_Z below #[Value.ref b] s) (F0 m 45 ls [.int ((xs v5.toNatClampNeg) &&& 63)]) := by
  have hx := hC.1
  have hb := hC.2.1
  have hbA : ¬ sj_F G b := by unfold sj_F; omega
  have hc1 := sj_rmc
  have hc2 := sj_rms
  refine lv_tableIn (off := 2784) (tgt := 2829) hx hb dL_law_45 (by rw [hc]; decide) (by rw [hc]; decide) (by rw [hc]; rfl) (by decide) ?_
  refine lv_aload_n hx hb dL_law_2829 rfl (lv_at hl 1 rfl) ?_
  refine lv_aload_n hx hb dL_law_2830 rfl (lv_at hl 0 rfl) ?_
  refine lv_iload hx hb dL_law_2831 (lv_at hl 5 rfl) ?_
  refine lv_iconst (v := 1) hx hb dL_law_2833 (by decide) ?_
  refine lv_iadd hx hb dL_law_2834 ?_
  refine va_sld hx hb hX hbl hbA hH.2 hv559.1 dL_law_2835 ?_
  refine lv_i2c hx hb dL_law_2836 rfl ?_
  refine lv_aload_n hx hb dL_law_2837 rfl (lv_at hl 0 rfl) ?_
  refine lv_iload hx hb dL_law_2838 (lv_at hl 5 rfl) ?_
  refine lv_iconst (v := 2) hx hb dL_law_2840 (by decide) ?_
  refine lv_iadd hx hb dL_law_2841 ?_
  refine va_sld hx hb hX hbl hbA hH.2 hv559.2.1 dL_law_2842 ?_
  refine lv_aload_n hx hb dL_law_2843 rfl (lv_at hl 0 rfl) ?_
  refine lv_iload hx hb dL_law_2844 (lv_at hl 5 rfl) ?_
  refine lv_iconst (v := 3) hx hb dL_law_2846 (by decide) ?_
  refine lv_iadd hx hb dL_law_2847 ?_
  refine va_sld hx hb hX hbl hbA hH.2 hv559.2.2.1 dL_law_2848 ?_
  refine lv_aload_n hx hb dL_law_2849 rfl (lv_at hl 0 rfl) ?_
  refine lv_iload hx hb dL_law_2850 (lv_at hl 5 rfl) ?_
  refine lv_iconst (v := 4) hx hb dL_law_2852 (by decide) ?_
  refine lv_iadd hx hb dL_law_2853 ?_
  refine va_sld hx hb hX hbl hbA hH.2 hv559.2.2.2.1 dL_law_2854 ?_
  refine lv_aload_n hx hb dL_law_2855 rfl (lv_at hl 3 rfl) ?_
  refine cg_L_258 hC hH hv559.2.2.2.2 ⟨Nat.le_of_ble_eq_true rfl, Nat.le_of_ble_eq_true rfl⟩ ⟨(by have hc1 := sj_rmc; omega), (by have hc1 := sj_rms; omega)⟩ hl.1 (Nat.le_of_ble_eq_true rfl) dL_law_2856 (fun r560 w561 H locs hH hv562 => ?_)
  refine lv_istore (lv' := [(6, .int r560), (0, .ref b), (1, .ref f1), (2, .ref f2), (3, .ref f3), (4, .ref f4), (5, .int v5)]) hx hb dL_law_2859 hl (by decide) rfl (fun ls hl => ?_)
  refine lv_aload_n hx hb dL_law_2861 rfl (lv_at hl 3 rfl) ?_
  refine lv_aload_n hx hb dL_law_2862 rfl (lv_at hl 1 rfl) ?_
  refine lv_iload hx hb dL_law_2863 (lv_at hl 6 rfl) ?_
  refine lv_iconst (v := 1) hx hb dL_law_2865 (by decide) ?_
  refine lv_iadd hx hb dL_law_2866 ?_
  refine va_sld hx hb hX hbl hbA hH.2 hv562.1 dL_law_2867 ?_
  refine lv_i2c hx hb dL_law_2868 rfl ?_
  refine lv_aload_n hx hb dL_law_2869 rfl (lv_at hl 1 rfl) ?_
  refine lv_iload hx hb dL_law_2870 (lv_at hl 6 rfl) ?_
  refine lv_iconst (v := 2) hx hb dL_law_2872 (by decide) ?_
  refine lv_iadd hx hb dL_law_2873 ?_
  refine va_sld hx hb hX hbl hbA hH.2 hv562.2.1 dL_law_2874 ?_
  refine lv_aload_n hx hb dL_law_2875 rfl (lv_at hl 1 rfl) ?_
  refine lv_iload hx hb dL_law_2876 (lv_at hl 6 rfl) ?_
  refine lv_iconst (v := 3) hx hb dL_law_2878 (by decide) ?_
  refine lv_iadd hx hb dL_law_2879 ?_
  refine va_sld hx hb hX hbl hbA hH.2 hv562.2.2.1 dL_law_2880 ?_
  refine lv_aload_n hx hb dL_law_2881 rfl (lv_at hl 1 rfl) ?_
  refine lv_iload hx hb dL_law_2882 (lv_at hl 6 rfl) ?_
  refine lv_iconst (v := 4) hx hb dL_law_2884 (by decide) ?_
  refine lv_iadd hx hb dL_law_2885 ?_
  refine va_sld hx hb hX hbl hbA hH.2 hv562.2.2.2.1 dL_law_2886 ?_
  refine cg_L_260 hC hH hv562.2.2.2.2.2 hv562.2.2.2.2.1 ⟨Nat.le_of_ble_eq_true rfl, Nat.le_of_ble_eq_true rfl⟩ ⟨(by have hc1 := sj_rmc; omega), (by have hc1 := sj_rms; omega)⟩ hl.1 (Nat.le_of_ble_eq_true rfl) dL_law_2887 (fun r563 w564 H locs hH hv565 => ?_)
  refine lv_istore (lv' := [(7, .int r563), (6, .int r560), (0, .ref b), (1, .ref f1), (2, .ref f2), (3, .ref f3), (4, .ref f4), (5, .int v5)]) hx hb dL_law_2890 hl (by decide) rfl (fun ls hl => ?_)
  refine lv_aload_n hx hb dL_law_2892 rfl (lv_at hl 4 rfl) ?_
  refine cg_L_146 hC hH hv565.2 hv565.1 ⟨Nat.le_of_ble_eq_true rfl, Nat.le_of_ble_eq_true rfl⟩ ⟨(by have hc1 := sj_rmc; omega), (by have hc1 := sj_rms; omega)⟩ hl.1 (Nat.le_of_ble_eq_true rfl) dL_law_2893 (fun r566 w567 H locs hH hv568 => ?_)
  refine lv_iload hx hb dL_law_2896 (lv_at hl 1 rfl) ?_
  refine lv_icmp_eq (tgt := 2903) hx hb dL_law_2898 (by decide) (fun hc => ?_) (fun hc => ?_)
  · have hv569 := hv568.1 hc
    refine lv_iload hx hb dL_law_2903 (lv_at hl 1 rfl) ?_
    refine lv_if_ne (tgt := 2927) hx hb dL_law_2905 (by decide) (fun hc => ?_) (fun hc => ?_)
    · have hv570 := hv569.1 hc
      refine lv_goto (tgt := 3021) hx hb dL_law_2927 (by decide) ?_
      refine lv_iinc (v := (v5 + 6)) (lv' := [(5, .int (v5 + 6)), (7, .int r563), (6, .int r560), (0, .ref b), (1, .ref f1), (2, .ref f2), (3, .ref f3), (4, .ref f4)]) hx hb dL_law_3021 hl (k := 7) rfl rfl (by decide) rfl (fun ls hl => ?_)
      refine lv_goto (tgt := 28) hx hb dL_law_3024 (by decide) ?_
      refine W.widen (k := cells + 242) (n := slots + 4193) (by omega) (by omega) ?_
      exact ih (v5 + 6) w567 _ _ _ _ _ (by omega) (by omega) (lv_sub hl [3, 4, 5, 6, 7, 0] rfl) hH hv570
    · have hv571 := hv569.2 hc
      refine lv_aload_n hx hb dL_law_2908 rfl (lv_at hl 5 rfl) ?_
      refine lv_iconst (v := 0) hx hb dL_law_2909 (by decide) ?_
      refine sj_lald hC hH hv571.1 hv571.2.1 dL_law_2910 ?_
      refine lv_iload hx hb dL_law_2911 (lv_at hl 0 rfl) ?_
      obtain ⟨E572, hE573, hv576⟩ := sj_jn2_e hv571.2.2
      have hJ574 : ∀ (y0_2921 : Int64) (y1_2921 : Int64) (w_2921 : sj_W) (H : Heap) (locs : List Loc) (ls : Array Slot), lv_has ls 9 [(0, .ref b), (1, .ref f1), (2, .ref f2), (3, .ref f3), (4, .ref f4), (5, .int v5)] → sj_H G s w_2921 H locs → E572 y0_2921 y1_2921 w_2921 → W p l e room_1 s m #[Value.ref b] below meth c H locs (cells + 180) (slots + 4193) (lw_Z below #[Value.ref b] s) (F0 m 2921 ls [.long y0_2921, .long y1_2921]) := by
        intro y0_2921 y1_2921 w_2921 H locs ls hl hH hv577
        rw [hE573] at hv577
        refine W.lcmp hx hb dL_law_2921 ?_
        refine lv_if_eq (tgt := 2927) hx hb dL_law_2922 (by decide) (fun hc => ?_) (fun hc => ?_)
        · have hv580 := hv577.1 hc
          refine lv_goto (tgt := 3021) hx hb dL_law_2927 (by decide) ?_
          refine lv_iinc (v := (v5 + 6)) (lv' := [(5, .int (v5 + 6)), (0, .ref b), (1, .ref f1), (2, .ref f2), (3, .ref f3), (4, .ref f4)]) hx hb dL_law_3021 hl (k := 5) rfl rfl (by decide) rfl (fun ls hl => ?_)
          refine lv_goto (tgt := 28) hx hb dL_law_3024 (by decide) ?_
          refine W.widen (k := cells + 242) (n := slots + 4193) (by omega) (by omega) ?_
          exact ih (v5 + 6) w_2921 _ _ _ _ _ (by omega) (by omega) (lv_sub hl [1, 2, 3, 4, 5, 0] rfl) hH hv580
        · have hv581 := hv577.2 hc
          refine lv_iconst (v := 0) hx hb dL_law_2925 (by decide) ?_
          exact hv581.elim
      clear hE573
      refine lv_if_eq (tgt := 2920) hx hb dL_law_2913 (by decide) (fun hc => ?_) (fun hc => ?_)
      · have hv578 := hv576.1 hc
        refine lv_lconst (v := 0) hx hb dL_law_2920 (by decide) ?_
        refine W.widen (k := cells + 180) (n := slots + 4193) (by omega) (by omega) ?_
        exact hJ574 0 (sj_l w567 f3 (0 : Int32).toNatClampNeg) w567 _ _ _ (lv_sub hl [2, 3, 4, 5, 6, 7] rfl) hH hv578
      · have hv579 := hv576.2 hc
        refine lv_lconst (v := 1) hx hb dL_law_2916 (by decide) ?_
        refine lv_goto (tgt := 2921) hx hb dL_law_2917 (by decide) ?_
        refine W.widen (k := cells + 180) (n := slots + 4193) (by omega) (by omega) ?_
        exact hJ574 1 (sj_l w567 f3 (0 : Int32).toNatClampNeg) w567 _ _ _ (lv_sub hl [2, 3, 4, 5, 6, 7] rfl) hH hv579
  · have hv582 := hv568.2 hc
    refine lv_iconst (v := 0) hx hb dL_law_2901 (by decide) ?_
    exact hv582.elim
set_option maxHeartbeats 4000000 in
set_option maxRecDepth 100000 in
theorem wq_L_law_33 {p : Program} {l : Launch} {e : Env} {s : State} {m : MethodId} {below : List Frame} {meth : Method} {c : Code} {G : sj_G} {L : Nat} {xs : Nat → Int32} {b : Nat} {f1 : Nat} {f2 : Nat} {f3 : Nat} {f4 : Nat} {n : Nat} {v5 : Int32} {w : sj_W} {H : Heap} {locs : List Loc} {ls : Array Slot} {cells slots : Nat} {K : Int32 → sj_W → Prop} (hC : sj_C G p l s m #[Value.ref b] c code RL 9) (hr : meth.sig.returnType = ret) (hk : meth.locks = false) (hX : va_X b L xs s s.heap) (hbl : b < s.heap.size) (hG : G.2.2 = s.heap.size) (hcc : cells + (n + 1) * 242 ≤ 145346) (hcs : slots + (n + 1) * 4193 ≤ 2519522) (hl : lv_has ls 9 [(0, .ref b), (1, .ref f1), (2, .ref f2), (3, .ref f3), (4, .ref f4), (5, .int v5)]) (hH : sj_H G s w H locs) (hc : ((xs v5.toNatClampNeg) &&& 63) = 33) (ih : ∀ (v5 : Int32) (w : sj_W) (H : Heap) (locs : List Loc) (ls : Array Slot) (cells slots : Nat), cells + n * 242 ≤ 145346 → slots + n * 4193 ≤ 2519522 → lv_has ls 9 [(0, .ref b), (1, .ref f1), (2, .ref f2), (3, .ref f3), (4, .ref f4), (5, .int v5)] → sj_H G s w H locs → K v5 w → W p l e room_1 s m #[Value.ref b] below meth c H locs cells slots (lw_Z below #[Value.ref b] s) (F0 m 28 ls [])) (hv583 : vd_L_law_33 L xs K f1 f2 f3 f4 v5 w) : W p l e room_1 s m #[Value.ref b] below meth c H locs cells slots (lw_Z below #[Value.ref b] s) (F0 m 45 ls [.int ((xs v5.toNatClampNeg) &&& 63)]) := by
  have hx := hC.1
  have hb := hC.2.1
  have hbA : ¬ sj_F G b := by unfold sj_F; omega
  have hc1 := sj_rmc
  have hc2 := sj_rms
  refine lv_tableIn (off := 2885) (tgt := 2930) hx hb dL_law_45 (by rw [hc]; decide) (by rw [hc]; decide) (by rw [hc]; rfl) (by decide) ?_
  refine lv_aload_n hx hb dL_law_2930 rfl (lv_at hl 1 rfl) ?_
  refine lv_aload_n hx hb dL_law_2931 rfl (lv_at hl 0 rfl) ?_
  refine lv_iload hx hb dL_law_2932 (lv_at hl 5 rfl) ?_
  refine lv_iconst (v := 1) hx hb dL_law_2934 (by decide) ?_
  refine lv_iadd hx hb dL_law_2935 ?_
  refine va_sld hx hb hX hbl hbA hH.2 hv583.1 dL_law_2936 ?_
  refine lv_i2c hx hb dL_law_2937 rfl ?_
  refine lv_aload_n hx hb dL_law_2938 rfl (lv_at hl 0 rfl) ?_
  refine lv_iload hx hb dL_law_2939 (lv_at hl 5 rfl) ?_
  refine lv_iconst (v := 2) hx hb dL_law_2941 (by decide) ?_
  refine lv_iadd hx hb dL_law_2942 ?_
  refine va_sld hx hb hX hbl hbA hH.2 hv583.2.1 dL_law_2943 ?_
  refine lv_i2c hx hb dL_law_2944 rfl ?_
  refine lv_aload_n hx hb dL_law_2945 rfl (lv_at hl 0 rfl) ?_
  refine lv_iload hx hb dL_law_2946 (lv_at hl 5 rfl) ?_
  refine lv_iconst (v := 3) hx hb dL_law_2948 (by decide) ?_
  refine lv_iadd hx hb dL_law_2949 ?_
  refine va_sld hx hb hX hbl hbA hH.2 hv583.2.2.1 dL_law_2950 ?_
  refine lv_aload_n hx hb dL_law_2951 rfl (lv_at hl 3 rfl) ?_
  refine cg_L_261 hC hH hv583.2.2.2 ⟨Nat.le_of_ble_eq_true rfl, Nat.le_of_ble_eq_true rfl⟩ ⟨(by have hc1 := sj_rmc; omega), (by have hc1 := sj_rms; omega)⟩ hl.1 (Nat.le_of_ble_eq_true rfl) dL_law_2952 (fun r584 w585 H locs hH hv586 => ?_)
  refine lv_istore (lv' := [(6, .int r584), (0, .ref b), (1, .ref f1), (2, .ref f2), (3, .ref f3), (4, .ref f4), (5, .int v5)]) hx hb dL_law_2955 hl (by decide) rfl (fun ls hl => ?_)
  refine lv_aload_n hx hb dL_law_2957 rfl (lv_at hl 3 rfl) ?_
  refine lv_aload_n hx hb dL_law_2958 rfl (lv_at hl 1 rfl) ?_
  refine lv_iload hx hb dL_law_2959 (lv_at hl 6 rfl) ?_
  refine lv_iconst (v := 1) hx hb dL_law_2961 (by decide) ?_
  refine lv_iadd hx hb dL_law_2962 ?_
  refine va_sld hx hb hX hbl hbA hH.2 hv586.1 dL_law_2963 ?_
  refine lv_i2c hx hb dL_law_2964 rfl ?_
  refine lv_aload_n hx hb dL_law_2965 rfl (lv_at hl 1 rfl) ?_
  refine lv_iload hx hb dL_law_2966 (lv_at hl 6 rfl) ?_
  refine lv_iconst (v := 2) hx hb dL_law_2968 (by decide) ?_
  refine lv_iadd hx hb dL_law_2969 ?_
  refine va_sld hx hb hX hbl hbA hH.2 hv586.2.1 dL_law_2970 ?_
  refine lv_i2c hx hb dL_law_2971 rfl ?_
  refine lv_aload_n hx hb dL_law_2972 rfl (lv_at hl 1 rfl) ?_
  refine lv_iload hx hb dL_law_2973 (lv_at hl 6 rfl) ?_
  refine lv_iconst (v := 3) hx hb dL_law_2975 (by decide) ?_
  refine lv_iadd hx hb dL_law_2976 ?_
  refine va_sld hx hb hX hbl hbA hH.2 hv586.2.2.1 dL_law_2977 ?_
  refine cg_L_263 hC hH hv586.2.2.2.2 hv586.2.2.2.1 ⟨Nat.le_of_ble_eq_true rfl, Nat.le_of_ble_eq_true rfl⟩ ⟨(by have hc1 := sj_rmc; omega), (by have hc1 := sj_rms; omega)⟩ hl.1 (Nat.le_of_ble_eq_true rfl) dL_law_2978 (fun r587 w588 H locs hH hv589 => ?_)
  refine lv_istore (lv' := [(7, .int r587), (6, .int r584), (0, .ref b), (1, .ref f1), (2, .ref f2), (3, .ref f3), (4, .ref f4), (5, .int v5)]) hx hb dL_law_2981 hl (by decide) rfl (fun ls hl => ?_)
  refine lv_aload_n hx hb dL_law_2983 rfl (lv_at hl 4 rfl) ?_
  refine cg_L_146 hC hH hv589.2 hv589.1 ⟨Nat.le_of_ble_eq_true rfl, Nat.le_of_ble_eq_true rfl⟩ ⟨(by have hc1 := sj_rmc; omega), (by have hc1 := sj_rms; omega)⟩ hl.1 (Nat.le_of_ble_eq_true rfl) dL_law_2984 (fun r590 w591 H locs hH hv592 => ?_)
  refine lv_iload hx hb dL_law_2987 (lv_at hl 1 rfl) ?_
  refine lv_icmp_eq (tgt := 2994) hx hb dL_law_2989 (by decide) (fun hc => ?_) (fun hc => ?_)
  · have hv593 := hv592.1 hc
    refine lv_iload hx hb dL_law_2994 (lv_at hl 1 rfl) ?_
    refine lv_if_ne (tgt := 3018) hx hb dL_law_2996 (by decide) (fun hc => ?_) (fun hc => ?_)
    · have hv594 := hv593.1 hc
      refine lv_goto (tgt := 3021) hx hb dL_law_3018 (by decide) ?_
      refine lv_iinc (v := (v5 + 6)) (lv' := [(5, .int (v5 + 6)), (7, .int r587), (6, .int r584), (0, .ref b), (1, .ref f1), (2, .ref f2), (3, .ref f3), (4, .ref f4)]) hx hb dL_law_3021 hl (k := 7) rfl rfl (by decide) rfl (fun ls hl => ?_)
      refine lv_goto (tgt := 28) hx hb dL_law_3024 (by decide) ?_
      refine W.widen (k := cells + 242) (n := slots + 4193) (by omega) (by omega) ?_
      exact ih (v5 + 6) w591 _ _ _ _ _ (by omega) (by omega) (lv_sub hl [3, 4, 5, 6, 7, 0] rfl) hH hv594
    · have hv595 := hv593.2 hc
      refine lv_aload_n hx hb dL_law_2999 rfl (lv_at hl 5 rfl) ?_
      refine lv_iconst (v := 0) hx hb dL_law_3000 (by decide) ?_
      refine sj_lald hC hH hv595.1 hv595.2.1 dL_law_3001 ?_
      refine lv_iload hx hb dL_law_3002 (lv_at hl 0 rfl) ?_
      obtain ⟨E596, hE597, hv600⟩ := sj_jn2_e hv595.2.2
      have hJ598 : ∀ (y0_3012 : Int64) (y1_3012 : Int64) (w_3012 : sj_W) (H : Heap) (locs : List Loc) (ls : Array Slot), lv_has ls 9 [(0, .ref b), (1, .ref f1), (2, .ref f2), (3, .ref f3), (4, .ref f4), (5, .int v5)] → sj_H G s w_3012 H locs → E596 y0_3012 y1_3012 w_3012 → W p l e room_1 s m #[Value.ref b] below meth c H locs (cells + 149) (slots + 3740) (lw_Z below #[Value.ref b] s) (F0 m 3012 ls [.long y0_3012, .long y1_3012]) := by
        intro y0_3012 y1_3012 w_3012 H locs ls hl hH hv601
        rw [hE597] at hv601
        refine W.lcmp hx hb dL_law_3012 ?_
        refine lv_if_eq (tgt := 3018) hx hb dL_law_3013 (by decide) (fun hc => ?_) (fun hc => ?_)
        · have hv604 := hv601.1 hc
          refine lv_goto (tgt := 3021) hx hb dL_law_3018 (by decide) ?_
          refine lv_iinc (v := (v5 + 6)) (lv' := [(5, .int (v5 + 6)), (0, .ref b), (1, .ref f1), (2, .ref f2), (3, .ref f3), (4, .ref f4)]) hx hb dL_law_3021 hl (k := 5) rfl rfl (by decide) rfl (fun ls hl => ?_)
          refine lv_goto (tgt := 28) hx hb dL_law_3024 (by decide) ?_
          refine W.widen (k := cells + 242) (n := slots + 4193) (by omega) (by omega) ?_
          exact ih (v5 + 6) w_3012 _ _ _ _ _ (by omega) (by omega) (lv_sub hl [1, 2, 3, 4, 5, 0] rfl) hH hv604
        · have hv605 := hv601.2 hc
          refine lv_iconst (v := 0) hx hb dL_law_3016 (by decide) ?_
          exact hv605.elim
      clear hE597
      refine lv_if_eq (tgt := 3011) hx hb dL_law_3004 (by decide) (fun hc => ?_) (fun hc => ?_)
      · have hv602 := hv600.1 hc
        refine lv_lconst (v := 0) hx hb dL_law_3011 (by decide) ?_
        refine W.widen (k := cells + 149) (n := slots + 3740) (by omega) (by omega) ?_
        exact hJ598 0 (sj_l w591 f3 (0 : Int32).toNatClampNeg) w591 _ _ _ (lv_sub hl [2, 3, 4, 5, 6, 7] rfl) hH hv602
      · have hv603 := hv600.2 hc
        refine lv_lconst (v := 1) hx hb dL_law_3007 (by decide) ?_
        refine lv_goto (tgt := 3012) hx hb dL_law_3008 (by decide) ?_
        refine W.widen (k := cells + 149) (n := slots + 3740) (by omega) (by omega) ?_
        exact hJ598 1 (sj_l w591 f3 (0 : Int32).toNatClampNeg) w591 _ _ _ (lv_sub hl [2, 3, 4, 5, 6, 7] rfl) hH hv603
  · have hv606 := hv592.2 hc
    refine lv_iconst (v := 0) hx hb dL_law_2992 (by decide) ?_
    exact hv606.elim
set_option maxHeartbeats 4000000 in
set_option maxRecDepth 100000 in
theorem wl_L_law_28 {p : Program} {l : Launch} {e : Env} {s : State} {m : MethodId} {below : List Frame} {meth : Method} {c : Code} {G : sj_G} {L : Nat} {xs : Nat → Int32} {b : Nat} {f1 : Nat} {f2 : Nat} {f3 : Nat} {f4 : Nat} {E : sj_W → Prop} (hC : sj_C G p l s m #[Value.ref b] c code RL 9) (hr : meth.sig.returnType = ret) (hk : meth.locks = false) (hX : va_X b L xs s s.heap) (hbl : b < s.heap.size) (hG : G.2.2 = s.heap.size) (hE : ∀ (w : sj_W) (H : Heap) (locs : List Loc) (ls : Array Slot), lv_has ls 9 [] → sj_H G s w H locs → E w → W p l e room_1 s m #[Value.ref b] below meth c H locs 145346 2519522 (lw_Z below #[Value.ref b] s) (F0 m 3027 ls [])) : ∀ (n : Nat) (v5 : Int32) (w : sj_W) (H : Heap) (locs : List Loc) (ls : Array Slot) (cells slots : Nat), cells + n * 242 ≤ 145346 → slots + n * 4193 ≤ 2519522 → lv_has ls 9 [(0, .ref b), (1, .ref f1), (2, .ref f2), (3, .ref f3), (4, .ref f4), (5, .int v5)] → sj_H G s w H locs → sj_lp1 (vb_L_law_28 L xs f1 f2 f3 f4 E) n v5 w → W p l e room_1 s m #[Value.ref b] below meth c H locs cells slots (lw_Z below #[Value.ref b] s) (F0 m 28 ls []) := by
  have hx := hC.1
  have hb := hC.2.1
  have hbA : ¬ sj_F G b := by unfold sj_F; omega
  intro n
  induction n with
  | zero =>
    intro v5 w H locs ls cells slots _ _ _ _ hv
    exact hv.elim
  | succ n ih =>
    intro v5 w H locs ls cells slots hcc hcs hl hH hv
    have hv : vb_L_law_28 L xs f1 f2 f3 f4 E (sj_lp1 (vb_L_law_28 L xs f1 f2 f3 f4 E) n) v5 w := hv
    have hc1 := sj_rmc
    have hc2 := sj_rms
    refine lv_iload hx hb dL_law_28 (lv_at hl 5 rfl) ?_
    refine lv_aload_n hx hb dL_law_30 rfl (lv_at hl 0 rfl) ?_
    refine va_slen hx hb hX hbl hbA hH.2 dL_law_31 ?_
    refine lv_bipush (v := 6) hx hb dL_law_32 (by decide) ?_
    refine lv_isub hx hb dL_law_34 ?_
    refine lv_icmp_gt (tgt := 3027) hx hb dL_law_35 (by decide) (fun hc => ?_) (fun hc => ?_)
    · have hv27 := hv.1 hc
      refine W.widen (k := 145346) (n := 2519522) (by omega) (by omega) ?_
      exact hE  w _ _ _ (lv_sub hl [] rfl) hH hv27
    · have hv28 := hv.2 hc
      refine lv_aload_n hx hb dL_law_38 rfl (lv_at hl 0 rfl) ?_
      refine lv_iload hx hb dL_law_39 (lv_at hl 5 rfl) ?_
      refine va_sld hx hb hX hbl hbA hH.2 hv28.1 dL_law_41 ?_
      refine lv_bipush (v := 63) hx hb dL_law_42 (by decide) ?_
      refine lv_iand hx hb dL_law_44 ?_
      by_cases hcd : ((xs v5.toNatClampNeg) &&& 63).toInt < 0 ∨ 33 < ((xs v5.toNatClampNeg) &&& 63).toInt
      · have hv29 := hv28.2.1 hcd
        refine lv_tableOut (tgt := 3021) hx hb dL_law_45 hcd (by decide) ?_
        refine lv_iinc (v := (v5 + 6)) (lv' := [(5, .int (v5 + 6)), (0, .ref b), (1, .ref f1), (2, .ref f2), (3, .ref f3), (4, .ref f4)]) hx hb dL_law_3021 hl (k := 5) rfl rfl (by decide) rfl (fun ls hl => ?_)
        refine lv_goto (tgt := 28) hx hb dL_law_3024 (by decide) ?_
        refine W.widen (k := cells + 242) (n := slots + 4193) (by omega) (by omega) ?_
        exact ih (v5 + 6) w _ _ _ _ _ (by omega) (by omega) (lv_sub hl [1, 2, 3, 4, 5, 0] rfl) hH hv29
      have hcn : ((xs v5.toNatClampNeg) &&& 63) = 0 ∨ ((xs v5.toNatClampNeg) &&& 63) = 1 ∨ ((xs v5.toNatClampNeg) &&& 63) = 2 ∨ ((xs v5.toNatClampNeg) &&& 63) = 3 ∨ ((xs v5.toNatClampNeg) &&& 63) = 4 ∨ ((xs v5.toNatClampNeg) &&& 63) = 5 ∨ ((xs v5.toNatClampNeg) &&& 63) = 6 ∨ ((xs v5.toNatClampNeg) &&& 63) = 7 ∨ ((xs v5.toNatClampNeg) &&& 63) = 8 ∨ ((xs v5.toNatClampNeg) &&& 63) = 9 ∨ ((xs v5.toNatClampNeg) &&& 63) = 10 ∨ ((xs v5.toNatClampNeg) &&& 63) = 11 ∨ ((xs v5.toNatClampNeg) &&& 63) = 12 ∨ ((xs v5.toNatClampNeg) &&& 63) = 13 ∨ ((xs v5.toNatClampNeg) &&& 63) = 14 ∨ ((xs v5.toNatClampNeg) &&& 63) = 15 ∨ ((xs v5.toNatClampNeg) &&& 63) = 16 ∨ ((xs v5.toNatClampNeg) &&& 63) = 17 ∨ ((xs v5.toNatClampNeg) &&& 63) = 18 ∨ ((xs v5.toNatClampNeg) &&& 63) = 19 ∨ ((xs v5.toNatClampNeg) &&& 63) = 20 ∨ ((xs v5.toNatClampNeg) &&& 63) = 21 ∨ ((xs v5.toNatClampNeg) &&& 63) = 22 ∨ ((xs v5.toNatClampNeg) &&& 63) = 23 ∨ ((xs v5.toNatClampNeg) &&& 63) = 24 ∨ ((xs v5.toNatClampNeg) &&& 63) = 25 ∨ ((xs v5.toNatClampNeg) &&& 63) = 26 ∨ ((xs v5.toNatClampNeg) &&& 63) = 27 ∨ ((xs v5.toNatClampNeg) &&& 63) = 28 ∨ ((xs v5.toNatClampNeg) &&& 63) = 29 ∨ ((xs v5.toNatClampNeg) &&& 63) = 30 ∨ ((xs v5.toNatClampNeg) &&& 63) = 31 ∨ ((xs v5.toNatClampNeg) &&& 63) = 32 ∨ ((xs v5.toNatClampNeg) &&& 63) = 33 := sj_tab34 hcd
      clear hcd
      rcases hcn with hc | hc | hc | hc | hc | hc | hc | hc | hc | hc | hc | hc | hc | hc | hc | hc | hc | hc | hc | hc | hc | hc | hc | hc | hc | hc | hc | hc | hc | hc | hc | hc | hc | hc
      · exact wq_L_law_0 hC hr hk hX hbl hG hcc hcs hl hH hc ih (hv28.2.2.1 hc)
      · exact wq_L_law_1 hC hr hk hX hbl hG hcc hcs hl hH hc ih (hv28.2.2.2.1 hc)
      · exact wq_L_law_2 hC hr hk hX hbl hG hcc hcs hl hH hc ih (hv28.2.2.2.2.1 hc)
      · exact wq_L_law_3 hC hr hk hX hbl hG hcc hcs hl hH hc ih (hv28.2.2.2.2.2.1 hc)
      · exact wq_L_law_4 hC hr hk hX hbl hG hcc hcs hl hH hc ih (hv28.2.2.2.2.2.2.1 hc)
      · exact wq_L_law_5 hC hr hk hX hbl hG hcc hcs hl hH hc ih (hv28.2.2.2.2.2.2.2.1 hc)
      · exact wq_L_law_6 hC hr hk hX hbl hG hcc hcs hl hH hc ih (hv28.2.2.2.2.2.2.2.2.1 hc)
      · exact wq_L_law_7 hC hr hk hX hbl hG hcc hcs hl hH hc ih (hv28.2.2.2.2.2.2.2.2.2.1 hc)
      · exact wq_L_law_8 hC hr hk hX hbl hG hcc hcs hl hH hc ih (hv28.2.2.2.2.2.2.2.2.2.2.1 hc)
      · exact wq_L_law_9 hC hr hk hX hbl hG hcc hcs hl hH hc ih (hv28.2.2.2.2.2.2.2.2.2.2.2.1 hc)
      · exact wq_L_law_10 hC hr hk hX hbl hG hcc hcs hl hH hc ih (hv28.2.2.2.2.2.2.2.2.2.2.2.2.1 hc)
      · exact wq_L_law_11 hC hr hk hX hbl hG hcc hcs hl hH hc ih (hv28.2.2.2.2.2.2.2.2.2.2.2.2.2.1 hc)
      · exact wq_L_law_12 hC hr hk hX hbl hG hcc hcs hl hH hc ih (hv28.2.2.2.2.2.2.2.2.2.2.2.2.2.2.1 hc)
      · exact wq_L_law_13 hC hr hk hX hbl hG hcc hcs hl hH hc ih (hv28.2.2.2.2.2.2.2.2.2.2.2.2.2.2.2.1 hc)
      · exact wq_L_law_14 hC hr hk hX hbl hG hcc hcs hl hH hc ih (hv28.2.2.2.2.2.2.2.2.2.2.2.2.2.2.2.2.1 hc)
      · exact wq_L_law_15 hC hr hk hX hbl hG hcc hcs hl hH hc ih (hv28.2.2.2.2.2.2.2.2.2.2.2.2.2.2.2.2.2.1 hc)
      · exact wq_L_law_16 hC hr hk hX hbl hG hcc hcs hl hH hc ih (hv28.2.2.2.2.2.2.2.2.2.2.2.2.2.2.2.2.2.2.1 hc)
      · exact wq_L_law_17 hC hr hk hX hbl hG hcc hcs hl hH hc ih (hv28.2.2.2.2.2.2.2.2.2.2.2.2.2.2.2.2.2.2.2.1 hc)
      · exact wq_L_law_18 hC hr hk hX hbl hG hcc hcs hl hH hc ih (hv28.2.2.2.2.2.2.2.2.2.2.2.2.2.2.2.2.2.2.2.2.1 hc)
      · exact wq_L_law_19 hC hr hk hX hbl hG hcc hcs hl hH hc ih (hv28.2.2.2.2.2.2.2.2.2.2.2.2.2.2.2.2.2.2.2.2.2.1 hc)
      · exact wq_L_law_20 hC hr hk hX hbl hG hcc hcs hl hH hc ih (hv28.2.2.2.2.2.2.2.2.2.2.2.2.2.2.2.2.2.2.2.2.2.2.1 hc)
      · exact wq_L_law_21 hC hr hk hX hbl hG hcc hcs hl hH hc ih (hv28.2.2.2.2.2.2.2.2.2.2.2.2.2.2.2.2.2.2.2.2.2.2.2.1 hc)
      · exact wq_L_law_22 hC hr hk hX hbl hG hcc hcs hl hH hc ih (hv28.2.2.2.2.2.2.2.2.2.2.2.2.2.2.2.2.2.2.2.2.2.2.2.2.1 hc)
      · exact wq_L_law_23 hC hr hk hX hbl hG hcc hcs hl hH hc ih (hv28.2.2.2.2.2.2.2.2.2.2.2.2.2.2.2.2.2.2.2.2.2.2.2.2.2.1 hc)
      · exact wq_L_law_24 hC hr hk hX hbl hG hcc hcs hl hH hc ih (hv28.2.2.2.2.2.2.2.2.2.2.2.2.2.2.2.2.2.2.2.2.2.2.2.2.2.2.1 hc)
      · exact wq_L_law_25 hC hr hk hX hbl hG hcc hcs hl hH hc ih (hv28.2.2.2.2.2.2.2.2.2.2.2.2.2.2.2.2.2.2.2.2.2.2.2.2.2.2.2.1 hc)
      · exact wq_L_law_26 hC hr hk hX hbl hG hcc hcs hl hH hc ih (hv28.2.2.2.2.2.2.2.2.2.2.2.2.2.2.2.2.2.2.2.2.2.2.2.2.2.2.2.2.1 hc)
      · exact wq_L_law_27 hC hr hk hX hbl hG hcc hcs hl hH hc ih (hv28.2.2.2.2.2.2.2.2.2.2.2.2.2.2.2.2.2.2.2.2.2.2.2.2.2.2.2.2.2.1 hc)
      · exact wq_L_law_28 hC hr hk hX hbl hG hcc hcs hl hH hc ih (hv28.2.2.2.2.2.2.2.2.2.2.2.2.2.2.2.2.2.2.2.2.2.2.2.2.2.2.2.2.2.2.1 hc)
      · exact wq_L_law_29 hC hr hk hX hbl hG hcc hcs hl hH hc ih (hv28.2.2.2.2.2.2.2.2.2.2.2.2.2.2.2.2.2.2.2.2.2.2.2.2.2.2.2.2.2.2.2.1 hc)
      · exact wq_L_law_30 hC hr hk hX hbl hG hcc hcs hl hH hc ih (hv28.2.2.2.2.2.2.2.2.2.2.2.2.2.2.2.2.2.2.2.2.2.2.2.2.2.2.2.2.2.2.2.2.1 hc)
      · exact wq_L_law_31 hC hr hk hX hbl hG hcc hcs hl hH hc ih (hv28.2.2.2.2.2.2.2.2.2.2.2.2.2.2.2.2.2.2.2.2.2.2.2.2.2.2.2.2.2.2.2.2.2.1 hc)
      · exact wq_L_law_32 hC hr hk hX hbl hG hcc hcs hl hH hc ih (hv28.2.2.2.2.2.2.2.2.2.2.2.2.2.2.2.2.2.2.2.2.2.2.2.2.2.2.2.2.2.2.2.2.2.2.1 hc)
      · exact wq_L_law_33 hC hr hk hX hbl hG hcc hcs hl hH hc ih (hv28.2.2.2.2.2.2.2.2.2.2.2.2.2.2.2.2.2.2.2.2.2.2.2.2.2.2.2.2.2.2.2.2.2.2.2 hc)
set_option maxHeartbeats 4000000 in
set_option maxRecDepth 100000 in
theorem wk_L_law {p : Program} {l : Launch} {e : Env} {s : State} {m : MethodId} {below : List Frame} {meth : Method} {c : Code} {G : sj_G} {b L : Nat} {xs : Nat → Int32} {w : sj_W} {ls : Array Slot} (hC : sj_C G p l s m #[Value.ref b] c code RL 9) (hr : meth.sig.returnType = ret) (hk : meth.locks = false) (hX : va_X b L xs s s.heap) (hbl : b < s.heap.size) (hG : G.2.2 = s.heap.size) (hH : sj_H G s w s.heap []) (hl : lv_has ls 9 [(0, .ref b)]) (hv : vc_L_law L xs w) : W p l e room_1 s m #[Value.ref b] below meth c s.heap [] 0 0 (lw_Z below #[Value.ref b] s) (F0 m 0 ls []) := by
  have hx := hC.1
  have hb := hC.2.1
  have hbA : ¬ sj_F G b := by unfold sj_F; omega
  refine nw_L_8 hC hH (Nat.le_of_ble_eq_true rfl) (Nat.le_of_ble_eq_true rfl) dL_law_0 (fun q1 w2 H h4 h5 e3 hH => ?_)
  refine lv_dup hx hb dL_law_3 rfl ?_
  refine cg_L_134 hC hH (hv q1 h4 h5 w2 e3) ⟨Nat.le_of_ble_eq_true rfl, Nat.le_of_ble_eq_true rfl⟩ ⟨(Nat.le_of_ble_eq_true rfl), (Nat.le_of_ble_eq_true rfl)⟩ hl.1 (Nat.le_of_ble_eq_true rfl) dL_law_4 (fun w7 H locs hH hv8 => ?_)
  refine lv_astore_n (lv' := [(1, .ref q1), (0, .ref b)]) hx hb dL_law_7 rfl hl (by decide) rfl (fun ls hl => ?_)
  refine nw_L_135 hC hH (Nat.le_of_ble_eq_true rfl) (Nat.le_of_ble_eq_true rfl) dL_law_8 (fun q9 w10 H h12 h13 e11 hH => ?_)
  refine lv_dup hx hb dL_law_11 rfl ?_
  refine cg_L_137 hC hH (hv8 q9 h12 h13 w10 e11) ⟨Nat.le_of_ble_eq_true rfl, Nat.le_of_ble_eq_true rfl⟩ ⟨(Nat.le_of_ble_eq_true rfl), (Nat.le_of_ble_eq_true rfl)⟩ hl.1 (Nat.le_of_ble_eq_true rfl) dL_law_12 (fun w15 H locs hH hv16 => ?_)
  refine lv_astore_n (lv' := [(2, .ref q9), (1, .ref q1), (0, .ref b)]) hx hb dL_law_15 rfl hl (by decide) rfl (fun ls hl => ?_)
  refine lv_iconst (v := 1) hx hb dL_law_16 (by decide) ?_
  refine sj_newJ hC hH mb_70 (by decide) rfl (by decide) (Nat.le_of_ble_eq_true rfl) (Nat.le_of_ble_eq_true rfl) dL_law_17 (fun q17 w18 H h20 h21 e19 hH => ?_)
  refine lv_astore_n (lv' := [(3, .ref q17), (2, .ref q9), (1, .ref q1), (0, .ref b)]) hx hb dL_law_19 rfl hl (by decide) rfl (fun ls hl => ?_)
  refine lv_iconst (v := 1) hx hb dL_law_20 (by decide) ?_
  refine sj_newD hC hH mb_996 (by decide) rfl (by decide) (Nat.le_of_ble_eq_true rfl) (Nat.le_of_ble_eq_true rfl) dL_law_21 (fun q22 w23 H h25 h26 e24 hH => ?_)
  refine lv_astore (lv' := [(4, .ref q22), (3, .ref q17), (2, .ref q9), (1, .ref q1), (0, .ref b)]) hx hb dL_law_23 hl (by decide) rfl (fun ls hl => ?_)
  refine lv_iconst (v := 0) hx hb dL_law_25 (by decide) ?_
  refine lv_istore (lv' := [(5, .int 0), (4, .ref q22), (3, .ref q17), (2, .ref q9), (1, .ref q1), (0, .ref b)]) hx hb dL_law_26 hl (by decide) rfl (fun ls hl => ?_)
  refine wl_L_law_28 hC hr hk hX hbl hG (fun w_28 H locs ls hl hH hv607 => ?_) 600 0 w23 _ _ _ 146 3722 (Nat.le_of_ble_eq_true rfl) (Nat.le_of_ble_eq_true rfl) (lv_sub hl [5, 4, 3, 2, 1, 0] rfl) hH ((hv16 q17 h20 h21 w18 e19) q22 h25 h26 w23 e24)
  refine lv_iconst (v := 1) hx hb dL_law_3027 (by decide) ?_
  refine va_forget (fun q hq => by have h9 : G.2.2 ≤ q.base := hH.2.2.2 q hq; omega) ?_
  refine W.widen (k := room_1.cells) (n := room_1.slots) (Nat.le_of_ble_eq_true rfl) (Nat.le_of_ble_eq_true rfl) ?_
  exact lw_ret (d0 := s.drawn) (Drawn.sameBut.refl s.drawn lw_cs) hx hb hr hk dL_law_3028

/-! THE WORLD: what every cell that the run has made holds, by its address. A reference is a number, 0 is null. Tags: 1 Endings, 2 Row, 3 Span, 4 Word, 5 Spanjudge, 6 SpanjudgeModel; 7 int[], 8 long[], 9 double[], 10 Row[], 11 Span[], 12 Word[], 13 int[][]. A field's number: 8 times its class's place in vwCl, and its slot. -/
abbrev sj_W : Type := (Nat → Nat) × (Nat → Nat) × (Nat → Nat → Int32) × (Nat → Nat → Nat) × (Nat → Nat → Int32) × (Nat → Nat → Int64) × (Nat → Nat → Nat) × (Nat → Nat → UInt64)
def sj_T (w : sj_W) : Nat → Nat := w.1
def sj_N (w : sj_W) : Nat → Nat := w.2.1
def sj_I (w : sj_W) : Nat → Nat → Int32 := w.2.2.1
def sj_A (w : sj_W) : Nat → Nat → Nat := w.2.2.2.1
def sj_i (w : sj_W) : Nat → Nat → Int32 := w.2.2.2.2.1
def sj_l (w : sj_W) : Nat → Nat → Int64 := w.2.2.2.2.2.1
def sj_r (w : sj_W) : Nat → Nat → Nat := w.2.2.2.2.2.2.1
def sj_d (w : sj_W) : Nat → Nat → UInt64 := w.2.2.2.2.2.2.2
def sj_u {α : Type} (f : Nat → Nat → α) (x y : Nat) (v : α) : Nat → Nat → α := fun a b => if a = x ∧ b = y then v else f a b
def sj_sI (w : sj_W) (x y : Nat) (v : Int32) : sj_W := (sj_T w, sj_N w, sj_u (sj_I w) x y v, sj_A w, sj_i w, sj_l w, sj_r w, sj_d w)
def sj_sA (w : sj_W) (x y : Nat) (v : Nat) : sj_W := (sj_T w, sj_N w, sj_I w, sj_u (sj_A w) x y v, sj_i w, sj_l w, sj_r w, sj_d w)
def sj_si (w : sj_W) (x y : Nat) (v : Int32) : sj_W := (sj_T w, sj_N w, sj_I w, sj_A w, sj_u (sj_i w) x y v, sj_l w, sj_r w, sj_d w)
def sj_sl (w : sj_W) (x y : Nat) (v : Int64) : sj_W := (sj_T w, sj_N w, sj_I w, sj_A w, sj_i w, sj_u (sj_l w) x y v, sj_r w, sj_d w)
def sj_sr (w : sj_W) (x y : Nat) (v : Nat) : sj_W := (sj_T w, sj_N w, sj_I w, sj_A w, sj_i w, sj_l w, sj_u (sj_r w) x y v, sj_d w)
def sj_sd (w : sj_W) (x y : Nat) (v : UInt64) : sj_W := (sj_T w, sj_N w, sj_I w, sj_A w, sj_i w, sj_l w, sj_r w, sj_u (sj_d w) x y v)
/-- a new object or array q of this tag and length, all 0 -/
def sj_nw (w : sj_W) (q t n : Nat) : sj_W := (fun a => if a = q then t else sj_T w a, fun a => if a = q then n else sj_N w a, fun f a => if a = q then 0 else sj_I w f a, fun f a => if a = q then 0 else sj_A w f a, fun a j => if a = q then 0 else sj_i w a j, fun a j => if a = q then 0 else sj_l w a j, fun a j => if a = q then 0 else sj_r w a j, fun a j => if a = q then 0 else sj_d w a j)
/-- new int[n][k]: the outer one q, the inner ones r 0, r 1 .. -/
def sj_nm (w : sj_W) (q : Nat) (r : Nat → Nat) (n k : Nat) : sj_W := (fun a => if a = q then 13 else if a ∈ (List.range n).map r then 7 else sj_T w a, fun a => if a = q then n else if a ∈ (List.range n).map r then k else sj_N w a, sj_I w, sj_A w, fun a j => if a ∈ (List.range n).map r then 0 else sj_i w a j, sj_l w, fun a j => if a = q then (if j < n then r j else 0) else sj_r w a j, sj_d w)
/-- how the world reads behind a writing -/
theorem sj_rd : ((∀ w x y v, sj_T (sj_sI w x y v) = sj_T w) ∧ (∀ w x y v, sj_N (sj_sI w x y v) = sj_N w) ∧ (∀ w x y v a b, sj_I (sj_sI w x y v) a b = if a = x ∧ b = y then v else sj_I w a b) ∧ (∀ w x y v, sj_A (sj_sI w x y v) = sj_A w) ∧ (∀ w x y v, sj_i (sj_sI w x y v) = sj_i w) ∧ (∀ w x y v, sj_l (sj_sI w x y v) = sj_l w) ∧ (∀ w x y v, sj_r (sj_sI w x y v) = sj_r w) ∧ (∀ w x y v, sj_d (sj_sI w x y v) = sj_d w)) ∧
    ((∀ w x y v, sj_T (sj_sA w x y v) = sj_T w) ∧ (∀ w x y v, sj_N (sj_sA w x y v) = sj_N w) ∧ (∀ w x y v a b, sj_A (sj_sA w x y v) a b = if a = x ∧ b = y then v else sj_A w a b) ∧ (∀ w x y v, sj_I (sj_sA w x y v) = sj_I w) ∧ (∀ w x y v, sj_i (sj_sA w x y v) = sj_i w) ∧ (∀ w x y v, sj_l (sj_sA w x y v) = sj_l w) ∧ (∀ w x y v, sj_r (sj_sA w x y v) = sj_r w) ∧ (∀ w x y v, sj_d (sj_sA w x y v) = sj_d w)) ∧
    ((∀ w x y v, sj_T (sj_si w x y v) = sj_T w) ∧ (∀ w x y v, sj_N (sj_si w x y v) = sj_N w) ∧ (∀ w x y v a b, sj_i (sj_si w x y v) a b = if a = x ∧ b = y then v else sj_i w a b) ∧ (∀ w x y v, sj_A (sj_si w x y v) = sj_A w) ∧ (∀ w x y v, sj_I (sj_si w x y v) = sj_I w) ∧ (∀ w x y v, sj_l (sj_si w x y v) = sj_l w) ∧ (∀ w x y v, sj_r (sj_si w x y v) = sj_r w) ∧ (∀ w x y v, sj_d (sj_si w x y v) = sj_d w)) ∧
    ((∀ w x y v, sj_T (sj_sl w x y v) = sj_T w) ∧ (∀ w x y v, sj_N (sj_sl w x y v) = sj_N w) ∧ (∀ w x y v a b, sj_l (sj_sl w x y v) a b = if a = x ∧ b = y then v else sj_l w a b) ∧ (∀ w x y v, sj_A (sj_sl w x y v) = sj_A w) ∧ (∀ w x y v, sj_I (sj_sl w x y v) = sj_I w) ∧ (∀ w x y v, sj_i (sj_sl w x y v) = sj_i w) ∧ (∀ w x y v, sj_r (sj_sl w x y v) = sj_r w) ∧ (∀ w x y v, sj_d (sj_sl w x y v) = sj_d w)) ∧
    ((∀ w x y v, sj_T (sj_sr w x y v) = sj_T w) ∧ (∀ w x y v, sj_N (sj_sr w x y v) = sj_N w) ∧ (∀ w x y v a b, sj_r (sj_sr w x y v) a b = if a = x ∧ b = y then v else sj_r w a b) ∧ (∀ w x y v, sj_A (sj_sr w x y v) = sj_A w) ∧ (∀ w x y v, sj_I (sj_sr w x y v) = sj_I w) ∧ (∀ w x y v, sj_l (sj_sr w x y v) = sj_l w) ∧ (∀ w x y v, sj_i (sj_sr w x y v) = sj_i w) ∧ (∀ w x y v, sj_d (sj_sr w x y v) = sj_d w)) ∧
    ((∀ w x y v, sj_T (sj_sd w x y v) = sj_T w) ∧ (∀ w x y v, sj_N (sj_sd w x y v) = sj_N w) ∧ (∀ w x y v a b, sj_d (sj_sd w x y v) a b = if a = x ∧ b = y then v else sj_d w a b) ∧ (∀ w x y v, sj_A (sj_sd w x y v) = sj_A w) ∧ (∀ w x y v, sj_I (sj_sd w x y v) = sj_I w) ∧ (∀ w x y v, sj_l (sj_sd w x y v) = sj_l w) ∧ (∀ w x y v, sj_i (sj_sd w x y v) = sj_i w) ∧ (∀ w x y v, sj_r (sj_sd w x y v) = sj_r w)) ∧
    ((∀ w q t n a, sj_T (sj_nw w q t n) a = if a = q then t else sj_T w a) ∧ (∀ w q t n a, sj_N (sj_nw w q t n) a = if a = q then n else sj_N w a) ∧ (∀ w q t n f a, sj_I (sj_nw w q t n) f a = if a = q then 0 else sj_I w f a) ∧ (∀ w q t n f a, sj_A (sj_nw w q t n) f a = if a = q then 0 else sj_A w f a) ∧ (∀ w q t n a j, sj_i (sj_nw w q t n) a j = if a = q then 0 else sj_i w a j) ∧ (∀ w q t n a j, sj_l (sj_nw w q t n) a j = if a = q then 0 else sj_l w a j) ∧ (∀ w q t n a j, sj_r (sj_nw w q t n) a j = if a = q then 0 else sj_r w a j) ∧ (∀ w q t n a j, sj_d (sj_nw w q t n) a j = if a = q then 0 else sj_d w a j)) := by
  refine ⟨⟨?_, ?_, ?_, ?_, ?_, ?_, ?_, ?_⟩, ⟨?_, ?_, ?_, ?_, ?_, ?_, ?_, ?_⟩, ⟨?_, ?_, ?_, ?_, ?_, ?_, ?_, ?_⟩, ⟨?_, ?_, ?_, ?_, ?_, ?_, ?_, ?_⟩, ⟨?_, ?_, ?_, ?_, ?_, ?_, ?_, ?_⟩, ⟨?_, ?_, ?_, ?_, ?_, ?_, ?_, ?_⟩, ⟨?_, ?_, ?_, ?_, ?_, ?_, ?_, ?_⟩⟩ <;> intros <;> rfl
def sj_rf (f : Nat) : Bool := f == 0 || f == 1 || f == 2 || f == 3 || f == 5 || f == 8 || f == 24 || f == 32 || f == 33 || f == 34 || f == 35 || f == 40 || f == 41 || f == 42 || f == 43 || f == 44 || f == 45
def sj_nf (c : Nat) : Nat := if c = 0 then 8 else if c = 1 then 2 else if c = 2 then 3 else if c = 3 then 3 else if c = 4 then 5 else 8
def sj_o (n : Nat) : Option Nat := if n = 0 then none else some n
def sj_fv (w : sj_W) (c a k : Nat) : Value := if sj_rf (8 * c + k) = true then va_rf (sj_o (sj_A w (8 * c + k) a)) else .int (sj_I w (8 * c + k) a)
def sj_fs (w : sj_W) (c a : Nat) : List Value := (List.range (sj_nf c)).map (sj_fv w c a)
/-- an array's contents -/
def sj_pl (t : Nat) (w : sj_W) (a : Nat) : (Nat → Int32) ⊕ (Nat → Int64) ⊕ (Nat → UInt32) ⊕ (Nat → UInt64) ⊕ (Nat → Option Nat) := if t = 7 then .inl (sj_i w a) else if t = 8 then .inr (.inl (sj_l w a)) else if t = 9 then .inr (.inr (.inr (.inl (sj_d w a)))) else .inr (.inr (.inr (.inr (fun j => sj_o (sj_r w a j)))))
def sj_e (cA : Nat → ClassId) (w : sj_W) (a : Nat) : va_E := if sj_T w a ≤ 6 then .inr (sj_T w a - 1, sj_fs w (sj_T w a - 1) a) else .inl (cA (sj_T w a - 7), sj_N w a, sj_pl (sj_T w a) w a)
def sj_tys (cA : Nat → ClassId) : List (ClassId × FieldType) := [(cA 0, .int), (cA 1, .long), (cA 2, .double), (cA 3, .object RX1), (cA 4, .object RX3), (cA 5, .object RX4), (cA 6, .array .int)]
/-- the tables' numbers of classes and slots, of array classes, and the address from which on all cells are the run's -/
abbrev sj_G : Type := va_G × (Nat → ClassId) × Nat
def sj_F (G : sj_G) : Nat → Prop := fun q => G.2.2 ≤ q
/-- the heap holds the world -/
def sj_M (G : sj_G) (w : sj_W) (H : Heap) : Prop := ∃ L : List Nat, (∀ a, sj_T w a ≠ 0 ↔ a ∈ L) ∧ va_P G.1 vwCl ([] ++ va_pl L (sj_e G.2.1 w)) H ∧ va_D (sj_F G) ([] ++ va_pl L (sj_e G.2.1 w))
/-- the words that hold in every state of the run -/
def sj_Big : List Cond := lw_tbl.filter goodWord
def sj_nok (w : Cond) : Bool := match w with
  | .castable _ _ => true
  | .declares _ => true
  | .fieldLinkNest .. => true
  | .methodLinkNest .. => true
  | _ => false
def sj_Nws : List Cond := lw_tbl.filter sj_nok
theorem sj_big {w : Cond} (h : w ∈ lw_tbl) (g : goodWord w = true) : w ∈ sj_Big := List.mem_filter.mpr ⟨h, g⟩
theorem sj_nws {w : Cond} (h : w ∈ lw_tbl) (g : sj_nok w = true) : w ∈ sj_Nws := List.mem_filter.mpr ⟨h, g⟩
theorem sj_Nw_use {w : Cond} (g : sj_nok w = true) {A : Array Value} {U : State} (h : va_Nw w U) : w.before A U = true := by
  cases w <;> first | exact va_Nw.use rfl h | (cases g)
theorem sj_Nw_warm {w : Cond} (g : sj_nok w = true) {s U : State} (hW : s.WarmedH U.vm) (h : va_Nw w s) : va_Nw w U := by
  cases w <;> first | exact va_Nw.warmC hW h | exact va_Nw.warmD hW h | exact va_Nw.warmF hW h | exact va_Nw.warmM hW h | (cases g)
theorem sj_goodIn {big : List Cond} (hb : ∀ w ∈ sj_Big, w ∈ big) {x : Cond} (hx : x ∈ sj_Big) : GoodIn big (x :: sj_Big) := by
  have key : ∀ w ∈ sj_Big, w ∈ big ∧ ((w.onTables && w.keeps) = true ∨ ∃ ty, w = .arrayClass ty) := fun w h => ⟨hb w h, good_of_word (List.mem_filter.mp h).2⟩
  intro w hw
  rcases List.mem_cons.mp hw with h | h
  · exact key w (h ▸ hx)
  · exact key w h
def sj_least (j : Nat) : Int64 := if j = 0 then -128 else if j = 1 then -32768 else if j = 2 then -2147483648 else -9223372036854775808
/-- the class's texts: the owner, the constant's place, the text -/
def sj_strs : List (String × Nat × String) := lw_tbl.filterMap (fun w => match w with
  | .stringRef o k t => some (o, k, t)
  | _ => none)
def sj_AO : List String := [RX1, RX3, RX4]
def sj_Ncs : List (String × String) := [("java/lang/IndexOutOfBoundsException", "java/lang/IllegalArgumentException"), ("java/lang/IllegalStateException", "java/lang/IllegalArgumentException"), ("java/lang/IllegalStateException", "java/lang/IndexOutOfBoundsException"), ("java/lang/IllegalArgumentException", "java/lang/IndexOutOfBoundsException")]
/-- what holds of the machine at every method's entry -/
def sj_K (G : sj_G) (U : State) : Prop := va_K G.1 vwCl (sj_tys G.2.1) U ∧ vx_Zq Bundle.tN "UNASSIGNED_STACK" Bundle.steD (sj_F G) U U.heap ∧ vx_Zq Bundle.tN "SUPPRESSED_SENTINEL" Bundle.listD (sj_F G) U U.heap ∧
  (∃ t : Nat, va_Z RX6 "LEAST" "[J" (.ref t) (sj_F G) U U.heap ∧ va_T .long t 4 (fun j => .long (sj_least j)) (sj_F G) U U.heap) ∧ (∀ x ∈ sj_strs, ∃ sa : Nat, vk_R x.1 x.2.1 x.2.2 sa U) ∧ (∀ z ∈ sj_Nws, va_Nw z U) ∧ (∀ C ∈ sj_AO, va_AO C U) ∧ va_AOA .int U ∧ (∀ x ∈ sj_Ncs, va_Nc x.1 x.2 U) ∧ 0 < G.2.2 ∧ G.2.2 ≤ U.heap.size
theorem sj_K.go {G : sj_G} {s U : State} {H : Heap} {locs : List Loc} (h : sj_K G s) (hS : va_S (sj_F G) s.heap H locs) (hU : U.heap = H) (hW : s.WarmedH U.vm) : sj_K G U := by
  obtain ⟨h1, h2, h3, ⟨t, h4, h5⟩, h6, h7, h8, h9, h10, h11, h12⟩ := h
  subst hU
  exact ⟨va_K.moved hW.alike h1, vx_Zq.moved hW.alike (h2.kept hS.2.1), vx_Zq.moved hW.alike (h3.kept hS.2.1), ⟨t, va_Z.moved hW.alike (h4.kept hS.2.1), va_T.moved hW.alike (h5.kept hS.2.1)⟩,
    fun x hx => (h6 x hx).elim fun sa q => ⟨sa, vk_R.warm hW q⟩, fun z hz => sj_Nw_warm (List.mem_filter.mp hz).2 hW (h7 z hz), fun C hC => va_AO.moved hW.alike (h8 C hC), va_AOA.moved hW.alike h9, fun x hx => va_Nc.moved hW.alike (h10 x hx), h11, Nat.le_trans h12 hS.1⟩
theorem sj_K.blind {G : sj_G} {U : State} {g : JFrame} {mk : MethodId} {a : Array Value} (h : sj_K G U) : sj_K G (U.calling g mk a) := sj_K.go (U := U.calling g mk a) h (va_S.rf (A := sj_F G)) rfl (State.WarmedH.refl U)
/-- a method's frame: the machine, its code, its class, the words, what holds -/
def sj_C (G : sj_G) (p : Program) (l : Launch) (s : State) (m : MethodId) (args : Array Value) (c : Code) (cc : ByteArray) (own : String) (nL : Nat) : Prop := p.tables.exec = Jvm.exec ∧ c.code = cc ∧ c.maxLocals = nL ∧ s.vm.findClass own = some m.cls ∧ (∀ w ∈ sj_Big, w.before args s = true) ∧ sj_K G s ∧ l.stackTraces = false
/-- the heap now, and what has been written since the method's start -/
def sj_H (G : sj_G) (s : State) (w : sj_W) (H : Heap) (locs : List Loc) : Prop := sj_M G w H ∧ va_S (sj_F G) s.heap H locs
theorem sj_hA {G : sj_G} {s : State} (h : sj_K G s) : ∀ q : Nat, s.heap.size ≤ q → sj_F G q := fun q hq => Nat.le_trans h.2.2.2.2.2.2.2.2.2.2 hq
theorem sj_pos {G : sj_G} {s : State} (h : sj_K G s) : 0 < G.2.2 := h.2.2.2.2.2.2.2.2.2.1
theorem sj_eO {cA : Nat → ClassId} {w : sj_W} {a c : Nat} (hT : sj_T w a = c + 1) (h : c < 6) : sj_e cA w a = .inr (c, sj_fs w c a) := by
  unfold sj_e
  rw [hT, if_pos (by omega), Nat.add_sub_cancel]
theorem sj_eA {cA : Nat → ClassId} {w : sj_W} {a t : Nat} (hT : sj_T w a = t + 7) : sj_e cA w a = .inl (cA t, sj_N w a, sj_pl (t + 7) w a) := by
  unfold sj_e
  rw [hT, if_neg (by omega), Nat.add_sub_cancel]
theorem sj_fsg {w : sj_W} {c a k : Nat} (h : k < sj_nf c) : (sj_fs w c a)[k]? = some (sj_fv w c a k) := by
  unfold sj_fs
  rw [List.getElem?_map, List.getElem?_range h]
  rfl
theorem sj_fvI {w : sj_W} {c a k f : Nat} (hr : sj_rf f = false) (hf : f = 8 * c + k) : sj_fv w c a k = .int (sj_I w f a) := by
  subst hf
  unfold sj_fv
  rw [hr, if_neg (by decide)]
theorem sj_fvA {w : sj_W} {c a k f : Nat} (hr : sj_rf f = true) (hf : f = 8 * c + k) (hn : sj_A w f a ≠ 0) : sj_fv w c a k = .ref (sj_A w f a) := by
  subst hf
  unfold sj_fv sj_o
  rw [hr, if_pos rfl, if_neg hn]
  rfl
/-- the world of cells, with one cell changed, is the changed world's -/
theorem sj_M.set {G : sj_G} {w w' : sj_W} {H1 : Heap} {L : List Nat} {a k : Nat} {e : va_E} (hL : ∀ a, sj_T w a ≠ 0 ↔ a ∈ L) (hD : va_D (sj_F G) ([] ++ va_pl L (sj_e G.2.1 w))) (ha : a ∈ L) (hk : ([] ++ va_pl L (sj_e G.2.1 w))[k]? = some (a, sj_e G.2.1 w a))
    (hT : sj_T w' = sj_T w) (he : sj_e G.2.1 w' a = e) (ho : ∀ b, b ≠ a → sj_e G.2.1 w' b = sj_e G.2.1 w b) (hP1 : va_P G.1 vwCl (([] ++ va_pl L (sj_e G.2.1 w)).set k (a, e)) H1) (hD1 : va_D (sj_F G) (([] ++ va_pl L (sj_e G.2.1 w)).set k (a, e))) : sj_M G w' H1 := by
  rw [va_pl_set hD ha hk] at hP1 hD1
  have hf : va_up (sj_e G.2.1 w) a e = sj_e G.2.1 w' := by
    funext b
    by_cases hb : b = a
    · rw [hb, va_up_self, he]
    · rw [va_up_ne _ _ hb, ho b hb]
  rw [hf] at hP1 hD1
  exact ⟨L, fun b => by rw [hT]; exact hL b, hP1, hD1⟩
theorem sj_M.push {G : sj_G} {w w' : sj_W} {H1 : Heap} {L : List Nat} {q t : Nat} {e : va_E} (hL : ∀ a, sj_T w a ≠ 0 ↔ a ∈ L) (hP1 : va_P G.1 vwCl (([] ++ va_pl L (sj_e G.2.1 w)) ++ [(q, e)]) H1) (hD1 : va_D (sj_F G) (([] ++ va_pl L (sj_e G.2.1 w)) ++ [(q, e)])) (ht : t ≠ 0)
    (hT : ∀ a, sj_T w' a = if a = q then t else sj_T w a) (he : sj_e G.2.1 w' q = e) (ho : ∀ b, b ≠ q → sj_e G.2.1 w' b = sj_e G.2.1 w b) : sj_T w q = 0 ∧ G.2.2 ≤ q ∧ sj_M G w' H1 := by
  have hq : q ∉ L := by
    intro h
    obtain ⟨k, hk⟩ := va_pl_get (X := []) (f := sj_e G.2.1 w) h
    have hkl := (List.getElem?_eq_some_iff.mp hk).1
    have h1 : (([] ++ va_pl L (sj_e G.2.1 w)) ++ [(q, e)])[k]? = some (q, sj_e G.2.1 w q) := by rw [List.getElem?_append_left hkl]; exact hk
    have h2 : (([] ++ va_pl L (sj_e G.2.1 w)) ++ [(q, e)])[([] ++ va_pl L (sj_e G.2.1 w)).length]? = some (q, e) := by rw [List.getElem?_append_right (Nat.le_refl _), Nat.sub_self]; rfl
    have := hD1.1 k _ _ _ h1 h2 rfl
    omega
  have hq2 : G.2.2 ≤ q := hD1.2 _ (q, e) (by rw [List.getElem?_append_right (Nat.le_refl _), Nat.sub_self]; rfl)
  have e2 : ([] ++ va_pl L (sj_e G.2.1 w)) ++ [(q, e)] = [] ++ va_pl (L ++ [q]) (va_up (sj_e G.2.1 w) q e) := by
    rw [List.nil_append, List.nil_append]
    exact va_pl_push hq
  have hf : va_up (sj_e G.2.1 w) q e = sj_e G.2.1 w' := by
    funext b
    by_cases hb : b = q
    · rw [hb, va_up_self, he]
    · rw [va_up_ne _ _ hb, ho b hb]
  rw [e2, hf] at hP1 hD1
  refine ⟨Classical.byContradiction fun h => hq ((hL q).mp h), hq2, L ++ [q], fun b => ?_, hP1, hD1⟩
  rw [hT, List.mem_append, List.mem_singleton]
  by_cases hb : b = q
  · rw [if_pos hb]; exact ⟨fun _ => Or.inr hb, fun _ => ht⟩
  · rw [if_neg hb]; exact ⟨fun h => Or.inl ((hL b).mp h), fun h => (hL b).mpr (h.elim id (fun h => absurd h hb))⟩
/-- fewer cells are told -/
theorem sj_M.kept {G : sj_G} {w : sj_W} {H H1 : Heap} (h : sj_M G w H) (hk : ∀ q : Nat, q < H.size → H1[q]? = H[q]?) : sj_M G w H1 := by
  obtain ⟨L, hL, hP, hD⟩ := h
  exact ⟨L, hL, hP.kept (fun k x hx => hk x.1 ((hP k x hx).lt)), hD⟩

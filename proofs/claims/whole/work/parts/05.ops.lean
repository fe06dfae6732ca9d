section
variable {X : zX} {g : Bool} {l : Launch} {d bc bs : Nat} {y : zMt} {pc pc' : Nat} {ls ls' : List (Option zV)} {st st' : List zV} {μ : zM} {Q : Option zV → zM → Prop}
theorem zE_stk (hw : ∀ (p : Program) (e : Env) (R : Room) (s : State) (m : MethodId) (args : Array Value) (below : List Frame) (meth : Method) (c : Code) (H : Heap) (locs : List Loc) (la : Array Slot) (cells slots : Nat) (Z : State → Prop), p.tables.exec = Jvm.exec → c.code = y.2.1 → s.vm.findClass y.1.cls = some m.cls → zKn X s → zLs X μ y.2.2.1 la ls → (∀ v ∈ st, zok μ v) →
      W p l e R s m args below meth c H locs cells slots Z (F0 m pc' la (st'.map (zrv X))) → W p l e R s m args below meth c H locs cells slots Z (F0 m pc la (st.map (zrv X))))
    (hk : zLs X μ y.2.2.1 #[] ls ∨ True) (hs : (∀ v ∈ st, zok μ v) → (∀ (i : Nat) (v : zV), ls[i]? = some (some v) → zok μ v) → ∀ v ∈ st', zok μ v) (k : zE X g l d bc bs y pc' ls st' μ Q) : zE X g l d bc bs y pc ls st μ Q := by
  intro p e R s m args below meth c H locs la cells slots hE hR hS hM hL hst
  exact hw p e R s m args below meth c H locs la cells slots _ hE.1 hE.2.1 hE.2.2.2.2.1 hE.2.2.2.2.2.2.2.2.1 hL hst (k p e R s m args below meth c H locs la cells slots hE hR hS hM hL (hs hst fun i v h => (hL.2.2 i v h).2))
theorem zcons {v : zV} {st : List zV} (h : ∀ w ∈ v :: st, zok μ w) : zok μ v ∧ ∀ w ∈ st, zok μ w := ⟨h v List.mem_cons_self, fun w hw => h w (List.mem_cons_of_mem _ hw)⟩
theorem zmk {v : zV} {st : List zV} (h1 : zok μ v) (h2 : ∀ w ∈ st, zok μ w) : ∀ w ∈ v :: st, zok μ w := fun w hw => by
  rcases List.mem_cons.mp hw with rfl | h
  · exact h1
  · exact h2 w h
theorem zE_iconst {n : Int} (hd : zI y.2.1 pc (.iconst n) 1 pc') (h1 : -2147483648 ≤ n) (h2 : n < 2147483648) (k : zE X g l d bc bs y pc' ls ((0, 0, n) :: st) μ Q) : zE X g l d bc bs y pc ls st μ Q := by
  obtain ⟨hd, rfl⟩ := hd
  exact zE_stk (fun p e R s m args below meth c H locs la cells slots Z hx hb _ _ _ _ kk => lv_iconst hx hb hd rfl kk) (Or.inr trivial) (fun h _ => zmk (zok_i h1 h2) h) k
theorem zE_bipush {n : Int} (hd : zI y.2.1 pc (.bipush n) 2 pc') (hn : (Int8.ofInt n).toInt32 = Int32.ofInt n) (h1 : -2147483648 ≤ n) (h2 : n < 2147483648) (k : zE X g l d bc bs y pc' ls ((0, 0, n) :: st) μ Q) : zE X g l d bc bs y pc ls st μ Q := by
  obtain ⟨hd, rfl⟩ := hd
  exact zE_stk (fun p e R s m args below meth c H locs la cells slots Z hx hb _ _ _ _ kk => lv_bipush hx hb hd hn kk) (Or.inr trivial) (fun h _ => zmk (zok_i h1 h2) h) k
theorem zE_sipush {n : Int} (hd : zI y.2.1 pc (.sipush n) 3 pc') (hn : (Int16.ofInt n).toInt32 = Int32.ofInt n) (h1 : -2147483648 ≤ n) (h2 : n < 2147483648) (k : zE X g l d bc bs y pc' ls ((0, 0, n) :: st) μ Q) : zE X g l d bc bs y pc ls st μ Q := by
  obtain ⟨hd, rfl⟩ := hd
  exact zE_stk (fun p e R s m args below meth c H locs la cells slots Z hx hb _ _ _ _ kk => lv_sipush hx hb hd hn kk) (Or.inr trivial) (fun h _ => zmk (zok_i h1 h2) h) k
theorem zE_lconst0 (hd : zI y.2.1 pc (.lconst 0) 1 pc') (k : zE X g l d bc bs y pc' ls ((1, 0, 0) :: st) μ Q) : zE X g l d bc bs y pc ls st μ Q := by
  obtain ⟨hd, rfl⟩ := hd
  exact zE_stk (fun p e R s m args below meth c H locs la cells slots Z hx hb _ _ _ _ kk => lv_lconst hx hb hd rfl kk) (Or.inr trivial) (fun h _ => zmk (zok_l (by omega) (by omega)) h) k
theorem zE_lconst1 (hd : zI y.2.1 pc (.lconst 1) 1 pc') (k : zE X g l d bc bs y pc' ls ((1, 0, 1) :: st) μ Q) : zE X g l d bc bs y pc ls st μ Q := by
  obtain ⟨hd, rfl⟩ := hd
  exact zE_stk (fun p e R s m args below meth c H locs la cells slots Z hx hb _ _ _ _ kk => lv_lconst hx hb hd rfl kk) (Or.inr trivial) (fun h _ => zmk (zok_l (by omega) (by omega)) h) k
theorem zE_iload_n {k : Fin 4} {x : Int} (hd : zI y.2.1 pc (.iload_n k) 1 pc') (hl : ls[(k : Nat)]? = some (some (0, 0, x))) (kk : zE X g l d bc bs y pc' ls ((0, 0, x) :: st) μ Q) : zE X g l d bc bs y pc ls st μ Q := by
  obtain ⟨hd, rfl⟩ := hd
  exact zE_stk (fun p e R s m args below meth c H locs la cells slots Z hx hb _ _ hL _ kk => lv_iload_n hx hb hd rfl (hL.2.2 _ _ hl).1 kk) (Or.inr trivial) (fun h h2 => zmk (h2 _ _ hl) h) kk
theorem zE_iload {i : Nat} {x : Int} (hd : zI y.2.1 pc (.iload i) 2 pc') (hl : ls[i]? = some (some (0, 0, x))) (kk : zE X g l d bc bs y pc' ls ((0, 0, x) :: st) μ Q) : zE X g l d bc bs y pc ls st μ Q := by
  obtain ⟨hd, rfl⟩ := hd
  exact zE_stk (fun p e R s m args below meth c H locs la cells slots Z hx hb _ _ hL _ kk => lv_iload hx hb hd (hL.2.2 _ _ hl).1 kk) (Or.inr trivial) (fun h h2 => zmk (h2 _ _ hl) h) kk
theorem zE_lload_n {k : Fin 4} {x : Int} (hd : zI y.2.1 pc (.lload_n k) 1 pc') (hl : ls[(k : Nat)]? = some (some (1, 0, x))) (kk : zE X g l d bc bs y pc' ls ((1, 0, x) :: st) μ Q) : zE X g l d bc bs y pc ls st μ Q := by
  obtain ⟨hd, rfl⟩ := hd
  exact zE_stk (fun p e R s m args below meth c H locs la cells slots Z hx hb _ _ hL _ kk => lv_lload_n hx hb hd rfl (hL.2.2 _ _ hl).1 kk) (Or.inr trivial) (fun h h2 => zmk (h2 _ _ hl) h) kk
theorem zE_lload {i : Nat} {x : Int} (hd : zI y.2.1 pc (.lload i) 2 pc') (hl : ls[i]? = some (some (1, 0, x))) (kk : zE X g l d bc bs y pc' ls ((1, 0, x) :: st) μ Q) : zE X g l d bc bs y pc ls st μ Q := by
  obtain ⟨hd, rfl⟩ := hd
  exact zE_stk (fun p e R s m args below meth c H locs la cells slots Z hx hb _ _ hL _ kk => lv_lload hx hb hd (hL.2.2 _ _ hl).1 kk) (Or.inr trivial) (fun h h2 => zmk (h2 _ _ hl) h) kk
theorem zrv_ref {k L : Nat} {a : Int} (h : 0 ≤ a) : zrv X (k + 2, L, a) = .ref (zad X (k + 2) a) := by
  show (if a < 0 then Value.null else .ref (zad X (k + 2) a)) = _
  rw [if_neg (by omega)]
theorem zok_pos {k L : Nat} {a : Int} (h : zok μ (k + 2, L, a)) (hk : k + 2 < 100) : 0 ≤ a := h.2.2.1 (by simp) hk
theorem zE_aload_n {k : Fin 4} {t L : Nat} {x : Int} (hd : zI y.2.1 pc (.aload_n k) 1 pc') (hl : ls[(k : Nat)]? = some (some (t + 2, L, x))) (kk : zE X g l d bc bs y pc' ls ((t + 2, L, x) :: st) μ Q) (ht : t + 2 < 100 := by decide) : zE X g l d bc bs y pc ls st μ Q := by
  obtain ⟨hd, rfl⟩ := hd
  refine zE_stk (fun p e R s m args below meth c H locs la cells slots Z hx hb _ _ hL _ kk => ?_) (Or.inr trivial) (fun h h2 => zmk (h2 _ _ hl) h) kk
  have h0 := hL.2.2 _ _ hl
  rw [zrv_ref (zok_pos h0.2 ht)] at h0
  refine lv_aload_n hx hb hd rfl h0.1 ?_
  rw [← zrv_ref (zok_pos h0.2 ht)]
  exact kk
theorem zE_aload {i : Nat} {t L : Nat} {x : Int} (hd : zI y.2.1 pc (.aload i) 2 pc') (hl : ls[i]? = some (some (t + 2, L, x))) (kk : zE X g l d bc bs y pc' ls ((t + 2, L, x) :: st) μ Q) (ht : t + 2 < 100 := by decide) : zE X g l d bc bs y pc ls st μ Q := by
  obtain ⟨hd, rfl⟩ := hd
  refine zE_stk (fun p e R s m args below meth c H locs la cells slots Z hx hb _ _ hL _ kk => ?_) (Or.inr trivial) (fun h h2 => zmk (h2 _ _ hl) h) kk
  have h0 := hL.2.2 _ _ hl
  rw [zrv_ref (zok_pos h0.2 ht)] at h0
  refine lv_aload hx hb hd h0.1 ?_
  rw [← zrv_ref (zok_pos h0.2 ht)]
  exact kk
/-! arithmetic -/
def zand (a b : Int) : Int := (Int32.ofInt a &&& Int32.ofInt b).toInt
def zor (a b : Int) : Int := (Int32.ofInt a ||| Int32.ofInt b).toInt
def zxor (a b : Int) : Int := (Int32.ofInt a ^^^ Int32.ofInt b).toInt
def zshl (a b : Int) : Int := (Int32.ofInt a <<< (Int32.ofInt b &&& 31)).toInt
def zshr (a b : Int) : Int := (Int32.ofInt a >>> (Int32.ofInt b &&& 31)).toInt
def zushr (a b : Int) : Int := ((Int32.ofInt a).toUInt32 >>> ((Int32.ofInt b).toUInt32 &&& Int32.toUInt32 31)).toInt32.toInt
theorem zE_op2 {a b r : Int} {i : Instr} (hd : zI y.2.1 pc i 1 pc') (h : ∃ v : Int32, r = v.toInt ∧ ∀ (p : Program) (e : Env) (R : Room) (s : State) (m : MethodId) (args : Array Value) (below : List Frame) (meth : Method) (c : Code) (H : Heap) (locs : List Loc) (la : Array Slot) (cells slots : Nat) (Z : State → Prop) (rest : List Value), p.tables.exec = Jvm.exec → c.code = y.2.1 →
      W p l e R s m args below meth c H locs cells slots Z (F0 m (pc + 1) la (.int v :: rest)) → W p l e R s m args below meth c H locs cells slots Z (F0 m pc la (.int (Int32.ofInt b) :: .int (Int32.ofInt a) :: rest)))
    (k : zE X g l d bc bs y pc' ls ((0, 0, r) :: st) μ Q) : zE X g l d bc bs y pc ls ((0, 0, b) :: (0, 0, a) :: st) μ Q := by
  obtain ⟨hd, rfl⟩ := hd
  obtain ⟨v, rfl, h⟩ := h
  refine zE_stk (fun p e R s m args below meth c H locs la cells slots Z hx hb _ _ _ _ kk => h p e R s m args below meth c H locs la cells slots Z _ hx hb ?_) (Or.inr trivial) (fun h _ => zmk (zok_i' v) (zcons (zcons h).2).2) k
  have e : zrv X (0, 0, v.toInt) = .int v := by
    show Value.int (Int32.ofInt v.toInt) = _
    rw [Int32.ofInt_toInt]
  rw [List.map_cons, e] at kk
  exact kk
theorem zE_iadd {a b : Int} (hd : zI y.2.1 pc .iadd 1 pc') (k : zE X g l d bc bs y pc' ls ((0, 0, zw (a + b)) :: st) μ Q) : zE X g l d bc bs y pc ls ((0, 0, b) :: (0, 0, a) :: st) μ Q :=
  zE_op2 hd ⟨Int32.ofInt a + Int32.ofInt b, by rw [zw, Int32.ofInt_add], fun p e R s m args below meth c H locs la cells slots Z rest hx hb kk => lv_iadd hx hb hd.1 kk⟩ k
theorem zE_isub {a b : Int} (hd : zI y.2.1 pc .isub 1 pc') (k : zE X g l d bc bs y pc' ls ((0, 0, zw (a - b)) :: st) μ Q) : zE X g l d bc bs y pc ls ((0, 0, b) :: (0, 0, a) :: st) μ Q :=
  zE_op2 hd ⟨Int32.ofInt a - Int32.ofInt b, by rw [zw, Int32.ofInt_sub], fun p e R s m args below meth c H locs la cells slots Z rest hx hb kk => lv_isub hx hb hd.1 kk⟩ k
theorem zE_imul {a b : Int} (hd : zI y.2.1 pc .imul 1 pc') (k : zE X g l d bc bs y pc' ls ((0, 0, zw (a * b)) :: st) μ Q) : zE X g l d bc bs y pc ls ((0, 0, b) :: (0, 0, a) :: st) μ Q :=
  zE_op2 hd ⟨Int32.ofInt a * Int32.ofInt b, by rw [zw, Int32.ofInt_mul], fun p e R s m args below meth c H locs la cells slots Z rest hx hb kk => lv_imul hx hb hd.1 kk⟩ k
theorem zE_iand {a b : Int} (hd : zI y.2.1 pc .iand 1 pc') (k : zE X g l d bc bs y pc' ls ((0, 0, zand a b) :: st) μ Q) : zE X g l d bc bs y pc ls ((0, 0, b) :: (0, 0, a) :: st) μ Q :=
  zE_op2 hd ⟨_, rfl, fun p e R s m args below meth c H locs la cells slots Z rest hx hb kk => lv_iand hx hb hd.1 kk⟩ k
theorem zE_ior {a b : Int} (hd : zI y.2.1 pc .ior 1 pc') (k : zE X g l d bc bs y pc' ls ((0, 0, zor a b) :: st) μ Q) : zE X g l d bc bs y pc ls ((0, 0, b) :: (0, 0, a) :: st) μ Q :=
  zE_op2 hd ⟨_, rfl, fun p e R s m args below meth c H locs la cells slots Z rest hx hb kk => lv_ior hx hb hd.1 kk⟩ k
theorem zE_ixor {a b : Int} (hd : zI y.2.1 pc .ixor 1 pc') (k : zE X g l d bc bs y pc' ls ((0, 0, zxor a b) :: st) μ Q) : zE X g l d bc bs y pc ls ((0, 0, b) :: (0, 0, a) :: st) μ Q :=
  zE_op2 hd ⟨_, rfl, fun p e R s m args below meth c H locs la cells slots Z rest hx hb kk => lv_ixor hx hb hd.1 kk⟩ k
theorem zE_ishl {a b : Int} (hd : zI y.2.1 pc .ishl 1 pc') (k : zE X g l d bc bs y pc' ls ((0, 0, zshl a b) :: st) μ Q) : zE X g l d bc bs y pc ls ((0, 0, b) :: (0, 0, a) :: st) μ Q :=
  zE_op2 hd ⟨_, rfl, fun p e R s m args below meth c H locs la cells slots Z rest hx hb kk => lv_ishl hx hb hd.1 kk⟩ k
theorem zE_ishr {a b : Int} (hd : zI y.2.1 pc .ishr 1 pc') (k : zE X g l d bc bs y pc' ls ((0, 0, zshr a b) :: st) μ Q) : zE X g l d bc bs y pc ls ((0, 0, b) :: (0, 0, a) :: st) μ Q :=
  zE_op2 hd ⟨_, rfl, fun p e R s m args below meth c H locs la cells slots Z rest hx hb kk => lv_ishr hx hb hd.1 kk⟩ k
theorem zE_iushr {a b : Int} (hd : zI y.2.1 pc .iushr 1 pc') (k : zE X g l d bc bs y pc' ls ((0, 0, zushr a b) :: st) μ Q) : zE X g l d bc bs y pc ls ((0, 0, b) :: (0, 0, a) :: st) μ Q :=
  zE_op2 hd ⟨_, rfl, fun p e R s m args below meth c H locs la cells slots Z rest hx hb kk => lv_iushr hx hb hd.1 rfl kk⟩ k
end

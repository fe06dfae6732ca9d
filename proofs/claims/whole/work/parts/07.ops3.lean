section
variable {X : zX} {g : Bool} {l : Launch} {d bc bs : Nat} {y : zMt} {pc pc' : Nat} {ls ls' : List (Option zV)} {st st' : List zV} {μ : zM} {Q : Option zV → zM → Prop}
theorem zE_op1 {v : Value} {w r : zV} {i : Instr} (hd : zI y.2.1 pc i 1 pc') (hr : zrv X r = v) (hok : zok μ w → zok μ r) (h : ∀ (p : Program) (e : Env) (R : Room) (s : State) (m : MethodId) (args : Array Value) (below : List Frame) (meth : Method) (c : Code) (H : Heap) (locs : List Loc) (la : Array Slot) (cells slots : Nat) (Z : State → Prop) (rest : List Value), p.tables.exec = Jvm.exec → c.code = y.2.1 → zok μ w →
      W p l e R s m args below meth c H locs cells slots Z (F0 m (pc + 1) la (v :: rest)) → W p l e R s m args below meth c H locs cells slots Z (F0 m pc la (zrv X w :: rest)))
    (k : zE X g l d bc bs y pc' ls (r :: st) μ Q) : zE X g l d bc bs y pc ls (w :: st) μ Q := by
  obtain ⟨hd, rfl⟩ := hd
  subst hr
  exact zE_stk (fun p e R s m args below meth c H locs la cells slots Z hx hb _ _ _ ho kk => h p e R s m args below meth c H locs la cells slots Z _ hx hb (zcons ho).1 kk) (Or.inr trivial) (fun h _ => zmk (hok (zcons h).1) (zcons h).2) k
theorem zE_ineg {a : Int} (hd : zI y.2.1 pc .ineg 1 pc') (k : zE X g l d bc bs y pc' ls ((0, 0, zw (-a)) :: st) μ Q) : zE X g l d bc bs y pc ls ((0, 0, a) :: st) μ Q :=
  zE_op1 (v := .int (-Int32.ofInt a)) hd (by show Value.int (Int32.ofInt (zw (-a))) = _; rw [zw_i, Int32.ofInt_neg]) (fun _ => zok_i' _) (fun p e R s m args below meth c H locs la cells slots Z rest hx hb _ kk => lv_ineg hx hb hd.1 kk) k
theorem zE_i2l {a : Int} (hd : zI y.2.1 pc .i2l 1 pc') (k : zE X g l d bc bs y pc' ls ((1, 0, a) :: st) μ Q) : zE X g l d bc bs y pc ls ((0, 0, a) :: st) μ Q := by
  refine zE_op1 (v := .long (Int64.ofInt a)) hd rfl (fun h => zok_l (by have := zok_ir h; omega) (by have := zok_ir h; omega)) (fun p e R s m args below meth c H locs la cells slots Z rest hx hb h kk => lv_i2l hx hb hd.1 ?_ kk) k
  have := zok_ir h
  exact Int32.toInt64_ofInt (show (-2147483648 : Int) ≤ a by omega) (show a ≤ (2147483647 : Int) by omega)
theorem zE_l2i {a : Int} (hd : zI y.2.1 pc .l2i 1 pc') (k : zE X g l d bc bs y pc' ls ((0, 0, zw a) :: st) μ Q) : zE X g l d bc bs y pc ls ((1, 0, a) :: st) μ Q :=
  zE_op1 (v := .int (Int32.ofInt a)) hd (by show Value.int (Int32.ofInt (zw a)) = _; rw [zw_i]) (fun _ => zok_i' _) (fun p e R s m args below meth c H locs la cells slots Z rest hx hb h kk => lv_l2i hx hb hd.1 (Int64.toInt32_ofInt) kk) k
theorem zE_i2c {a : Int} (hd : zI y.2.1 pc .i2c 1 pc') (h0 : 0 ≤ a) (h1 : a < 65536) (k : zE X g l d bc bs y pc' ls ((0, 0, a) :: st) μ Q) : zE X g l d bc bs y pc ls ((0, 0, a) :: st) μ Q :=
  zE_op1 (v := .int (Int32.ofInt a)) hd rfl (fun h => h) (fun p e R s m args below meth c H locs la cells slots Z rest hx hb h kk => lv_i2c hx hb hd.1 (have e : (Int32.ofInt a).toInt = a := zi_of (by omega) (by omega); lg_i2c_word (v := Int32.ofInt a) (by rw [e]; exact h0) (by rw [e]; exact h1)) kk) k
def zcmp (a b : Int) : Int := if b < a then 1 else if a = b then 0 else -1
theorem zE_lcmp {a b : Int} (hd : zI y.2.1 pc .lcmp 1 pc') (k : zE X g l d bc bs y pc' ls ((0, 0, zcmp a b) :: st) μ Q) : zE X g l d bc bs y pc ls ((1, 0, b) :: (1, 0, a) :: st) μ Q := by
  obtain ⟨hd, rfl⟩ := hd
  refine zE_stk (fun p e R s m args below meth c H locs la cells slots Z hx hb _ _ _ ho kk => W.lcmp hx hb hd ?_) (Or.inr trivial) (fun h _ => zmk (zok_i (by unfold zcmp; split <;> (try split) <;> omega) (by unfold zcmp; split <;> (try split) <;> omega)) (zcons (zcons h).2).2) k
  have hb1 := zok_lr (zcons ho).1
  have ha1 := zok_lr (zcons (zcons ho).2).1
  have e : lg_cmp (Int64.ofInt a) (Int64.ofInt b) = Int32.ofInt (zcmp a b) := by
    unfold lg_cmp zcmp
    simp only [zl_lt hb1 ha1, zl_eq ha1 hb1]
    split
    · rfl
    · split <;> rfl
  rw [e]
  exact kk
theorem zE_dup {v : zV} (hd : zI y.2.1 pc .dup 1 pc') (hv : v.1 ≠ 1) (k : zE X g l d bc bs y pc' ls (v :: v :: st) μ Q) : zE X g l d bc bs y pc ls (v :: st) μ Q := by
  obtain ⟨hd, rfl⟩ := hd
  exact zE_stk (fun p e R s m args below meth c H locs la cells slots Z hx hb _ _ _ ho kk => lv_dup hx hb hd (by rw [zrv_cat, if_neg hv]) kk) (Or.inr trivial) (fun h _ => zmk (zcons h).1 h) k
theorem zE_dup2 {v w : zV} (hd : zI y.2.1 pc .dup2 1 pc') (hv : v.1 ≠ 1) (hw : w.1 ≠ 1) (k : zE X g l d bc bs y pc' ls (v :: w :: v :: w :: st) μ Q) : zE X g l d bc bs y pc ls (v :: w :: st) μ Q := by
  obtain ⟨hd, rfl⟩ := hd
  exact zE_stk (fun p e R s m args below meth c H locs la cells slots Z hx hb _ _ _ ho kk => lv_dup2_11 hx hb hd (by rw [zrv_cat, if_neg hv]) (by rw [zrv_cat, if_neg hw]) kk) (Or.inr trivial) (fun h _ => zmk (zcons h).1 (zmk (zcons (zcons h).2).1 h)) k
theorem zE_pop {v : zV} (hd : zI y.2.1 pc .pop 1 pc') (hv : v.1 ≠ 1) (k : zE X g l d bc bs y pc' ls st μ Q) : zE X g l d bc bs y pc ls (v :: st) μ Q := by
  obtain ⟨hd, rfl⟩ := hd
  exact zE_stk (fun p e R s m args below meth c H locs la cells slots Z hx hb _ _ _ ho kk => lv_pop hx hb hd (by rw [zrv_cat, if_neg hv]) kk) (Or.inr trivial) (fun h _ => (zcons h).2) k
theorem zE_goto {o : Int} {n : Nat} (hd : zI y.2.1 pc (.goto o) 3 n) (ht : (pc : Int) + o = (pc' : Int)) (k : zE X g l d bc bs y pc' ls st μ Q) : zE X g l d bc bs y pc ls st μ Q :=
  zE_stk (fun p e R s m args below meth c H locs la cells slots Z hx hb _ _ _ _ kk => lv_goto hx hb hd.1 ht kk) (Or.inr trivial) (fun h _ => h) k
/-! branches -/
theorem zE_br {pt pf : Nat} {P : Prop} {pre : List zV} (h : ∀ (p : Program) (e : Env) (R : Room) (s : State) (m : MethodId) (args : Array Value) (below : List Frame) (meth : Method) (c : Code) (H : Heap) (locs : List Loc) (la : Array Slot) (cells slots : Nat) (Z : State → Prop), p.tables.exec = Jvm.exec → c.code = y.2.1 → (∀ v ∈ pre ++ st, zok μ v) →
      (P → W p l e R s m args below meth c H locs cells slots Z (F0 m pt la (st.map (zrv X)))) → (¬ P → W p l e R s m args below meth c H locs cells slots Z (F0 m pf la (st.map (zrv X)))) → W p l e R s m args below meth c H locs cells slots Z (F0 m pc la ((pre ++ st).map (zrv X))))
    (kt : P → zE X g l d bc bs y pt ls st μ Q) (kf : ¬ P → zE X g l d bc bs y pf ls st μ Q) : zE X g l d bc bs y pc ls (pre ++ st) μ Q := by
  intro p e R s m args below meth c H locs la cells slots hE hR hS hM hL hst
  have h2 : ∀ v ∈ st, zok μ v := fun v hv => hst v (List.mem_append_right _ hv)
  exact h p e R s m args below meth c H locs la cells slots _ hE.1 hE.2.1 hst (fun hp => kt hp p e R s m args below meth c H locs la cells slots hE hR hS hM hL h2) (fun hp => kf hp p e R s m args below meth c H locs la cells slots hE hR hS hM hL h2)
theorem zE_ifeq {a o : Int} {pt : Nat} (hd : zI y.2.1 pc (.ifCond .eq o) 3 pc') (ht : (pc : Int) + o = (pt : Int)) (kt : a = 0 → zE X g l d bc bs y pt ls st μ Q) (kf : ¬ a = 0 → zE X g l d bc bs y pc' ls st μ Q) : zE X g l d bc bs y pc ls ((0, 0, a) :: st) μ Q := by
  obtain ⟨hd, rfl⟩ := hd
  refine zE_br (pre := [(0, 0, a)]) (fun p e R s m args below meth c H locs la cells slots Z hx hb ho k1 k2 => ?_) kt kf
  have hz := z_eq (zok_ir (zcons ho).1) (b := 0) (by omega)
  exact lv_if_eq hx hb hd ht (fun q => k1 (hz.mp q)) (fun q => k2 (fun q2 => q (hz.mpr q2)))
theorem zE_ifne {a o : Int} {pt : Nat} (hd : zI y.2.1 pc (.ifCond .ne o) 3 pc') (ht : (pc : Int) + o = (pt : Int)) (kt : ¬ a = 0 → zE X g l d bc bs y pt ls st μ Q) (kf : a = 0 → zE X g l d bc bs y pc' ls st μ Q) : zE X g l d bc bs y pc ls ((0, 0, a) :: st) μ Q := by
  obtain ⟨hd, rfl⟩ := hd
  refine zE_br (pre := [(0, 0, a)]) (P := ¬ a = 0) (fun p e R s m args below meth c H locs la cells slots Z hx hb ho k1 k2 => ?_) kt (fun q => kf (Decidable.of_not_not q))
  have hz := z_eq (zok_ir (zcons ho).1) (b := 0) (by omega)
  exact lv_if_ne hx hb hd ht (fun q => k1 (fun q2 => q (hz.mpr q2))) (fun q => k2 (fun q2 => q2 (hz.mp q)))
theorem zE_iflt {a o : Int} {pt : Nat} (hd : zI y.2.1 pc (.ifCond .lt o) 3 pc') (ht : (pc : Int) + o = (pt : Int)) (kt : a < 0 → zE X g l d bc bs y pt ls st μ Q) (kf : ¬ a < 0 → zE X g l d bc bs y pc' ls st μ Q) : zE X g l d bc bs y pc ls ((0, 0, a) :: st) μ Q := by
  obtain ⟨hd, rfl⟩ := hd
  refine zE_br (pre := [(0, 0, a)]) (fun p e R s m args below meth c H locs la cells slots Z hx hb ho k1 k2 => ?_) kt kf
  have hz := z_lt (zok_ir (zcons ho).1) (b := 0) (by omega)
  exact lv_if_lt hx hb hd ht (fun q => k1 (hz.mp q)) (fun q => k2 (fun q2 => q (hz.mpr q2)))
theorem zE_ifge {a o : Int} {pt : Nat} (hd : zI y.2.1 pc (.ifCond .ge o) 3 pc') (ht : (pc : Int) + o = (pt : Int)) (kt : 0 ≤ a → zE X g l d bc bs y pt ls st μ Q) (kf : ¬ 0 ≤ a → zE X g l d bc bs y pc' ls st μ Q) : zE X g l d bc bs y pc ls ((0, 0, a) :: st) μ Q := by
  obtain ⟨hd, rfl⟩ := hd
  refine zE_br (pre := [(0, 0, a)]) (fun p e R s m args below meth c H locs la cells slots Z hx hb ho k1 k2 => ?_) kt kf
  have hz := z_le (a := 0) (by omega) (zok_ir (zcons ho).1)
  exact lv_if_ge hx hb hd ht (fun q => k1 (hz.mp q)) (fun q => k2 (fun q2 => q (hz.mpr q2)))
theorem zE_ifgt {a o : Int} {pt : Nat} (hd : zI y.2.1 pc (.ifCond .gt o) 3 pc') (ht : (pc : Int) + o = (pt : Int)) (kt : 0 < a → zE X g l d bc bs y pt ls st μ Q) (kf : ¬ 0 < a → zE X g l d bc bs y pc' ls st μ Q) : zE X g l d bc bs y pc ls ((0, 0, a) :: st) μ Q := by
  obtain ⟨hd, rfl⟩ := hd
  refine zE_br (pre := [(0, 0, a)]) (fun p e R s m args below meth c H locs la cells slots Z hx hb ho k1 k2 => ?_) kt kf
  have hz := z_lt (a := 0) (by omega) (zok_ir (zcons ho).1)
  exact lv_if_gt hx hb hd ht (fun q => k1 (hz.mp q)) (fun q => k2 (fun q2 => q (hz.mpr q2)))
theorem zE_ifle {a o : Int} {pt : Nat} (hd : zI y.2.1 pc (.ifCond .le o) 3 pc') (ht : (pc : Int) + o = (pt : Int)) (kt : a ≤ 0 → zE X g l d bc bs y pt ls st μ Q) (kf : ¬ a ≤ 0 → zE X g l d bc bs y pc' ls st μ Q) : zE X g l d bc bs y pc ls ((0, 0, a) :: st) μ Q := by
  obtain ⟨hd, rfl⟩ := hd
  refine zE_br (pre := [(0, 0, a)]) (fun p e R s m args below meth c H locs la cells slots Z hx hb ho k1 k2 => ?_) kt kf
  have hz := z_le (zok_ir (zcons ho).1) (b := 0) (by omega)
  exact lv_if_le hx hb hd ht (fun q => k1 (hz.mp q)) (fun q => k2 (fun q2 => q (hz.mpr q2)))
theorem zE_icmpeq {a b o : Int} {pt : Nat} (hd : zI y.2.1 pc (.if_icmp .eq o) 3 pc') (ht : (pc : Int) + o = (pt : Int)) (kt : a = b → zE X g l d bc bs y pt ls st μ Q) (kf : ¬ a = b → zE X g l d bc bs y pc' ls st μ Q) : zE X g l d bc bs y pc ls ((0, 0, b) :: (0, 0, a) :: st) μ Q := by
  obtain ⟨hd, rfl⟩ := hd
  refine zE_br (pre := [(0, 0, b), (0, 0, a)]) (fun p e R s m args below meth c H locs la cells slots Z hx hb ho k1 k2 => ?_) kt kf
  have hz := z_eq (zok_ir (zcons (zcons ho).2).1) (zok_ir (zcons ho).1)
  exact lv_icmp_eq hx hb hd ht (fun q => k1 (hz.mp q)) (fun q => k2 (fun q2 => q (hz.mpr q2)))
theorem zE_icmpne {a b o : Int} {pt : Nat} (hd : zI y.2.1 pc (.if_icmp .ne o) 3 pc') (ht : (pc : Int) + o = (pt : Int)) (kt : ¬ a = b → zE X g l d bc bs y pt ls st μ Q) (kf : a = b → zE X g l d bc bs y pc' ls st μ Q) : zE X g l d bc bs y pc ls ((0, 0, b) :: (0, 0, a) :: st) μ Q := by
  obtain ⟨hd, rfl⟩ := hd
  refine zE_br (pre := [(0, 0, b), (0, 0, a)]) (P := ¬ a = b) (fun p e R s m args below meth c H locs la cells slots Z hx hb ho k1 k2 => ?_) kt (fun q => kf (Decidable.of_not_not q))
  have hz := z_eq (zok_ir (zcons (zcons ho).2).1) (zok_ir (zcons ho).1)
  exact lv_icmp_ne hx hb hd ht (fun q => k1 (fun q2 => q (hz.mpr q2))) (fun q => k2 (fun q2 => q2 (hz.mp q)))
theorem zE_icmplt {a b o : Int} {pt : Nat} (hd : zI y.2.1 pc (.if_icmp .lt o) 3 pc') (ht : (pc : Int) + o = (pt : Int)) (kt : a < b → zE X g l d bc bs y pt ls st μ Q) (kf : ¬ a < b → zE X g l d bc bs y pc' ls st μ Q) : zE X g l d bc bs y pc ls ((0, 0, b) :: (0, 0, a) :: st) μ Q := by
  obtain ⟨hd, rfl⟩ := hd
  refine zE_br (pre := [(0, 0, b), (0, 0, a)]) (fun p e R s m args below meth c H locs la cells slots Z hx hb ho k1 k2 => ?_) kt kf
  have hz := z_lt (zok_ir (zcons (zcons ho).2).1) (zok_ir (zcons ho).1)
  exact lv_icmp_lt hx hb hd ht (fun q => k1 (hz.mp q)) (fun q => k2 (fun q2 => q (hz.mpr q2)))
theorem zE_icmpge {a b o : Int} {pt : Nat} (hd : zI y.2.1 pc (.if_icmp .ge o) 3 pc') (ht : (pc : Int) + o = (pt : Int)) (kt : b ≤ a → zE X g l d bc bs y pt ls st μ Q) (kf : ¬ b ≤ a → zE X g l d bc bs y pc' ls st μ Q) : zE X g l d bc bs y pc ls ((0, 0, b) :: (0, 0, a) :: st) μ Q := by
  obtain ⟨hd, rfl⟩ := hd
  refine zE_br (pre := [(0, 0, b), (0, 0, a)]) (fun p e R s m args below meth c H locs la cells slots Z hx hb ho k1 k2 => ?_) kt kf
  have hz := z_le (zok_ir (zcons ho).1) (zok_ir (zcons (zcons ho).2).1)
  exact lv_icmp_ge hx hb hd ht (fun q => k1 (hz.mp q)) (fun q => k2 (fun q2 => q (hz.mpr q2)))
theorem zE_icmpgt {a b o : Int} {pt : Nat} (hd : zI y.2.1 pc (.if_icmp .gt o) 3 pc') (ht : (pc : Int) + o = (pt : Int)) (kt : b < a → zE X g l d bc bs y pt ls st μ Q) (kf : ¬ b < a → zE X g l d bc bs y pc' ls st μ Q) : zE X g l d bc bs y pc ls ((0, 0, b) :: (0, 0, a) :: st) μ Q := by
  obtain ⟨hd, rfl⟩ := hd
  refine zE_br (pre := [(0, 0, b), (0, 0, a)]) (fun p e R s m args below meth c H locs la cells slots Z hx hb ho k1 k2 => ?_) kt kf
  have hz := z_lt (zok_ir (zcons ho).1) (zok_ir (zcons (zcons ho).2).1)
  exact lv_icmp_gt hx hb hd ht (fun q => k1 (hz.mp q)) (fun q => k2 (fun q2 => q (hz.mpr q2)))
theorem zE_icmple {a b o : Int} {pt : Nat} (hd : zI y.2.1 pc (.if_icmp .le o) 3 pc') (ht : (pc : Int) + o = (pt : Int)) (kt : a ≤ b → zE X g l d bc bs y pt ls st μ Q) (kf : ¬ a ≤ b → zE X g l d bc bs y pc' ls st μ Q) : zE X g l d bc bs y pc ls ((0, 0, b) :: (0, 0, a) :: st) μ Q := by
  obtain ⟨hd, rfl⟩ := hd
  refine zE_br (pre := [(0, 0, b), (0, 0, a)]) (fun p e R s m args below meth c H locs la cells slots Z hx hb ho k1 k2 => ?_) kt kf
  have hz := z_le (zok_ir (zcons (zcons ho).2).1) (zok_ir (zcons ho).1)
  exact lv_icmp_le hx hb hd ht (fun q => k1 (hz.mp q)) (fun q => k2 (fun q2 => q (hz.mpr q2)))
theorem zE_tableOut {df lo hi x : Int} {offs : Array Int} {n pt : Nat} (hd : zI y.2.1 pc (.tableswitch df lo hi offs) n pc') (h : x < lo ∨ hi < x) (ht : (pc : Int) + df = (pt : Int)) (k : zE X g l d bc bs y pt ls st μ Q) : zE X g l d bc bs y pc ls ((0, 0, x) :: st) μ Q :=
  zE_stk (fun p e R s m args below meth c H locs la cells slots Z hx hb _ _ _ ho kk => lv_tableOut hx hb hd.1 (by rw [zi_of (zok_ir (zcons ho).1).1 (zok_ir (zcons ho).1).2]; exact h) ht kk) (Or.inr trivial) (fun h _ => (zcons h).2) k
theorem zE_tableIn {df lo hi x off : Int} {offs : Array Int} {n pt : Nat} (hd : zI y.2.1 pc (.tableswitch df lo hi offs) n pc') (h1 : ¬ x < lo) (h2 : ¬ hi < x) (ho : offs[(x - lo).toNat]? = some off) (ht : (pc : Int) + off = (pt : Int)) (k : zE X g l d bc bs y pt ls st μ Q) : zE X g l d bc bs y pc ls ((0, 0, x) :: st) μ Q :=
  zE_stk (fun p e R s m args below meth c H locs la cells slots Z hx hb _ _ _ hk kk => lv_tableIn hx hb hd.1 (by rw [zi_of (zok_ir (zcons hk).1).1 (zok_ir (zcons hk).1).2]; exact h1) (by rw [zi_of (zok_ir (zcons hk).1).1 (zok_ir (zcons hk).1).2]; exact h2) (by rw [zi_of (zok_ir (zcons hk).1).1 (zok_ir (zcons hk).1).2]; exact ho) ht kk) (Or.inr trivial) (fun h _ => (zcons h).2) k
/-! constants -/
theorem zKn.word {X : zX} {U : State} (h : zKn X U) {w : Cond} (hw : w ∈ lw_tbl) (hg : zgd w = true) (ho : w.onTables = true) {A : Array Value} : w.before A U = true := va_Nw.use ho (h.1 w hw hg)
theorem zE_ldc {n : Nat} {x : Int} (hd : zI y.2.1 pc (.ldc n) 2 pc') (hw : Cond.constant y.1.cls n (Int32.ofInt x) ∈ lw_tbl) (h1 : -2147483648 ≤ x) (h2 : x < 2147483648) (k : zE X g l d bc bs y pc' ls ((0, 0, x) :: st) μ Q) : zE X g l d bc bs y pc ls st μ Q := by
  obtain ⟨hd, rfl⟩ := hd
  exact zE_stk (fun p e R s m args below meth c H locs la cells slots Z hx hb ho hK _ _ kk => lv_ldc hx hb ho (hK.word hw rfl rfl) hd kk) (Or.inr trivial) (fun h _ => zmk (zok_i h1 h2) h) k
theorem zE_ldcw {n : Nat} {x : Int} (hd : zI y.2.1 pc (.ldc_w n) 3 pc') (hw : Cond.constant y.1.cls n (Int32.ofInt x) ∈ lw_tbl) (h1 : -2147483648 ≤ x) (h2 : x < 2147483648) (k : zE X g l d bc bs y pc' ls ((0, 0, x) :: st) μ Q) : zE X g l d bc bs y pc ls st μ Q := by
  obtain ⟨hd, rfl⟩ := hd
  exact zE_stk (fun p e R s m args below meth c H locs la cells slots Z hx hb ho hK _ _ kk => lv_ldcw hx hb ho (hK.word hw rfl rfl) hd kk) (Or.inr trivial) (fun h _ => zmk (zok_i h1 h2) h) k
theorem zE_ldc2 {n : Nat} {x : Int} (hd : zI y.2.1 pc (.ldc2_w n) 3 pc') (hw : Cond.constantLong y.1.cls n (Int64.ofInt x) ∈ lw_tbl) (h1 : -9223372036854775808 ≤ x) (h2 : x < 9223372036854775808) (k : zE X g l d bc bs y pc' ls ((1, 0, x) :: st) μ Q) : zE X g l d bc bs y pc ls st μ Q := by
  obtain ⟨hd, rfl⟩ := hd
  exact zE_stk (fun p e R s m args below meth c H locs la cells slots Z hx hb ho hK _ _ kk => lv_ldc2 hx hb ho (hK.word hw rfl rfl) hd kk) (Or.inr trivial) (fun h _ => zmk (zok_l h1 h2) h) k
/-- a text: kind 33 (shape 31), its number -/
theorem zE_ldcS {n : Nat} (j : Nat) (hj : j < 18) (hn : zsi j = n) (hd : zI y.2.1 pc (.ldc n) 2 pc') (ho : y.1.cls = "SmokeRoom$Reader") (k : zE X g l d bc bs y pc' ls ((33, j, 10 + (j : Int)) :: st) μ Q) : zE X g l d bc bs y pc ls st μ Q := by
  obtain ⟨hd, rfl⟩ := hd
  subst hn
  refine zE_stk (fun p e R s m args below meth c H locs la cells slots Z hx hb hc hK _ _ kk => va_ldcS hx hb (own := "SmokeRoom$Reader") (by rw [← ho]; exact hc) (hK.2.2.2.2 j hj) hd ?_) (Or.inr trivial) (fun h _ => zmk ⟨fun h => by simp at h, fun h => by simp at h, fun _ _ => by show (0 : Int) ≤ 10 + j; omega, fun _ h => by simp at h, fun h => by simp at h⟩ h) k
  have e : zrv X (33, j, 10 + (j : Int)) = .ref (X.2.1 (10 + j)) := by
    show (if (10 + (j : Int)) < 0 then Value.null else .ref (zad X 33 (10 + (j : Int)))) = _
    rw [if_neg (by omega)]
    simp [zad, show (10 + (j : Int)).toNat = 10 + j by omega]
  rw [List.map_cons, e] at kk
  exact kk
end

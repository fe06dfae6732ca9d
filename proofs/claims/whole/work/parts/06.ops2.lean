def zdr : Nat → Option zV → Option zV
  | 0, some w => (match w.1 with | 1 => none | _ => some w)
  | _, a => a
def zset1 : Nat → zV → List (Option zV) → List (Option zV)
  | _, _, [] => []
  | 0, v, _ :: r => some v :: r
  | i + 1, v, a :: r => zdr i a :: zset1 i v r
def zset2 : Nat → zV → List (Option zV) → List (Option zV)
  | _, _, [] => []
  | 0, v, _ :: [] => [some v]
  | 0, v, _ :: _ :: r => some v :: none :: r
  | i + 1, v, a :: r => zdr i a :: zset2 i v r
def zmask : List Bool → List (Option zV) → List (Option zV)
  | true :: bs, a :: r => a :: zmask bs r
  | false :: bs, _ :: r => none :: zmask bs r
  | _, _ => []
theorem zdr_some {i : Nat} {a : Option zV} {w : zV} (h : zdr i a = some w) : a = some w ∧ ¬ (i = 0 ∧ w.1 = 1) := by
  unfold zdr at h
  split at h
  · rename_i w'
    split at h
    · cases h
    · cases h
      rename_i hne
      exact ⟨rfl, fun q => hne q.2⟩
  · rename_i hx
    subst h
    exact ⟨rfl, fun q => hx w q.1 rfl⟩
theorem zset1_at (v : zV) : ∀ (ls : List (Option zV)) (i j : Nat) (w : zV), (zset1 i v ls)[j]? = some (some w) → (j = i ∧ w = v) ∨ (j ≠ i ∧ ls[j]? = some (some w) ∧ ¬ (j + 1 = i ∧ w.1 = 1)) := by
  intro ls
  induction ls with
  | nil => intro i j w h; simp [zset1] at h
  | cons a r ih =>
    intro i j w h
    cases i with
    | zero =>
      cases j with
      | zero => simp [zset1] at h; exact Or.inl ⟨rfl, h.symm⟩
      | succ j => simp [zset1] at h; exact Or.inr ⟨by omega, by simpa using h, by omega⟩
    | succ i =>
      cases j with
      | zero =>
        simp only [zset1, List.getElem?_cons_zero, Option.some.injEq] at h
        obtain ⟨h1, h2⟩ := zdr_some h
        exact Or.inr ⟨by omega, by simp [h1], fun q => h2 ⟨by omega, q.2⟩⟩
      | succ j =>
        simp only [zset1, List.getElem?_cons_succ] at h
        rcases ih i j w h with ⟨h1, h2⟩ | ⟨h1, h2, h3⟩
        · exact Or.inl ⟨by omega, h2⟩
        · exact Or.inr ⟨by omega, by simpa using h2, fun q => h3 ⟨by omega, q.2⟩⟩
theorem zset2_at (v : zV) : ∀ (ls : List (Option zV)) (i j : Nat) (w : zV), (zset2 i v ls)[j]? = some (some w) → (j = i ∧ w = v) ∨ (j ≠ i ∧ j ≠ i + 1 ∧ ls[j]? = some (some w) ∧ ¬ (j + 1 = i ∧ w.1 = 1)) := by
  intro ls
  induction ls with
  | nil => intro i j w h; simp [zset2] at h
  | cons a r ih =>
    intro i j w h
    cases i with
    | zero =>
      cases r with
      | nil =>
        cases j with
        | zero => simp [zset2] at h; exact Or.inl ⟨rfl, h.symm⟩
        | succ j => simp [zset2] at h
      | cons b r =>
        cases j with
        | zero => simp [zset2] at h; exact Or.inl ⟨rfl, h.symm⟩
        | succ j =>
          cases j with
          | zero => simp [zset2] at h
          | succ j => simp [zset2] at h; exact Or.inr ⟨by omega, by omega, by simpa using h, by omega⟩
    | succ i =>
      have e : zset2 (i + 1) v (a :: r) = zdr i a :: zset2 i v r := by
        cases r <;> simp [zset2]
      rw [e] at h
      cases j with
      | zero =>
        simp only [List.getElem?_cons_zero, Option.some.injEq] at h
        obtain ⟨h1, h2⟩ := zdr_some h
        exact Or.inr ⟨by omega, by omega, by simp [h1], fun q => h2 ⟨by omega, q.2⟩⟩
      | succ j =>
        simp only [List.getElem?_cons_succ] at h
        rcases ih i j w h with ⟨h1, h2⟩ | ⟨h1, h2, h3, h4⟩
        · exact Or.inl ⟨by omega, h2⟩
        · exact Or.inr ⟨by omega, by omega, by simpa using h3, fun q => h4 ⟨by omega, q.2⟩⟩
theorem zmask_at : ∀ (bs : List Bool) (ls : List (Option zV)) (j : Nat) (w : zV), (zmask bs ls)[j]? = some (some w) → ls[j]? = some (some w) := by
  intro bs
  induction bs with
  | nil => intro ls j w h; simp [zmask] at h
  | cons b bs ih =>
    intro ls j w h
    cases ls with
    | nil => cases b <;> simp [zmask] at h
    | cons a r =>
      cases b <;> cases j <;> simp [zmask] at h ⊢
      · exact ih r _ w h
      · exact h
      · exact ih r _ w h
def zprs (X : zX) (ls : List (Option zV)) : List (Nat × Value) := (List.range ls.length).filterMap fun i => (ls[i]?).join.map fun v => (i, zrv X v)
theorem zprs_mem {X : zX} {ls : List (Option zV)} {i : Nat} {v : zV} (h : ls[i]? = some (some v)) : (i, zrv X v) ∈ zprs X ls := by
  refine List.mem_filterMap.mpr ⟨i, List.mem_range.mpr (List.getElem?_eq_some_iff.mp h).1, ?_⟩
  rw [h]
  rfl
theorem zprs_of {X : zX} {ls : List (Option zV)} {q : Nat × Value} (h : q ∈ zprs X ls) : ∃ v : zV, ls[q.1]? = some (some v) ∧ q.2 = zrv X v := by
  obtain ⟨i, -, hi⟩ := List.mem_filterMap.mp h
  cases hc : ls[i]? with
  | none => simp [hc] at hi
  | some o =>
    cases o with
    | none => simp [hc] at hi
    | some v =>
      simp [hc] at hi
      subst hi
      exact ⟨v, hc, rfl⟩
theorem zrv_cat {X : zX} (v : zV) : (zrv X v).category = if v.1 = 1 then 2 else 1 := by
  obtain ⟨k, L, x⟩ := v
  match k with
  | 0 => rfl
  | 1 => rfl
  | k + 2 =>
    show (if x < 0 then Value.null else .ref (zad X (k + 2) x)).category = _
    simp only [Nat.add_eq_right, show ¬ k + 2 = 1 by omega, if_false]
    split <;> rfl
theorem zLs.has {X : zX} {μ : zM} {n : Nat} {la : Array Slot} {ls : List (Option zV)} (h : zLs X μ n la ls) : lv_has la n (zprs X ls) := by
  refine ⟨h.1, h.2.1, fun q hq => ?_⟩
  obtain ⟨v, h1, h2⟩ := zprs_of hq
  rw [h2]
  exact (h.2.2 q.1 v h1).1
theorem zLs.set1 {X : zX} {μ : zM} {n : Nat} {la la' : Array Slot} {ls : List (Option zV)} {i : Nat} {v : zV} (h : zLs X μ n la ls) (hv : zok μ v) (h' : lv_has la' n ((i, zrv X v) :: (zprs X ls).filter (fun q => !(q.1 == i) && !(q.1 + 1 == i && q.2.category == 2)))) : zLs X μ n la' (zset1 i v ls) := by
  refine ⟨h'.1, h'.2.1, fun j w hj => ?_⟩
  rcases zset1_at v ls i j w hj with ⟨rfl, rfl⟩ | ⟨h1, h2, h3⟩
  · exact ⟨h'.2.2 _ List.mem_cons_self, hv⟩
  · refine ⟨h'.2.2 (j, zrv X w) (List.mem_cons_of_mem _ (List.mem_filter.mpr ⟨zprs_mem h2, ?_⟩)), (h.2.2 j w h2).2⟩
    rw [zrv_cat]
    by_cases e : w.1 = 1
    · have : ¬ j + 1 = i := fun q => h3 ⟨q, e⟩
      simp [h1, this]
    · simp [h1, e]
theorem zLs.set2 {X : zX} {μ : zM} {n : Nat} {la la' : Array Slot} {ls : List (Option zV)} {i : Nat} {v : zV} (h : zLs X μ n la ls) (hv : zok μ v) (h' : lv_has la' n ((i, zrv X v) :: (zprs X ls).filter (fun q => !(q.1 == i) && (!(q.1 == i + 1) && !(q.1 + 1 == i && q.2.category == 2))))) : zLs X μ n la' (zset2 i v ls) := by
  refine ⟨h'.1, h'.2.1, fun j w hj => ?_⟩
  rcases zset2_at v ls i j w hj with ⟨rfl, rfl⟩ | ⟨h1, h0, h2, h3⟩
  · exact ⟨h'.2.2 _ List.mem_cons_self, hv⟩
  · refine ⟨h'.2.2 (j, zrv X w) (List.mem_cons_of_mem _ (List.mem_filter.mpr ⟨zprs_mem h2, ?_⟩)), (h.2.2 j w h2).2⟩
    rw [zrv_cat]
    by_cases e : w.1 = 1
    · have : ¬ j + 1 = i := fun q => h3 ⟨q, e⟩
      simp [h1, h0, this]
    · simp [h1, h0, e]
section
variable {X : zX} {g : Bool} {l : Launch} {d bc bs : Nat} {y : zMt} {pc pc' : Nat} {ls ls' : List (Option zV)} {st st' : List zV} {μ : zM} {Q : Option zV → zM → Prop}
theorem zE_mask (ms : List Bool) (h : zmask ms ls = ls') (k : zE X g l d bc bs y pc ls' st μ Q) : zE X g l d bc bs y pc ls st μ Q := by
  subst h
  intro p e R s m args below meth c H locs la cells slots hE hR hS hM hL hst
  exact k p e R s m args below meth c H locs la cells slots hE hR hS hM ⟨hL.1, hL.2.1, fun i v h => hL.2.2 i v (zmask_at ms ls i v h)⟩ hst
theorem zE_istore_n {k : Fin 4} {x : Int} (hd : zI y.2.1 pc (.istore_n k) 1 pc') (hl : zset1 k (0, 0, x) ls = ls') (hn : (k : Nat) < y.2.2.1) (kk : zE X g l d bc bs y pc' ls' st μ Q) : zE X g l d bc bs y pc ls ((0, 0, x) :: st) μ Q := by
  obtain ⟨hd, rfl⟩ := hd
  subst hl
  intro p e R s m args below meth c H locs la cells slots hE hR hS hM hL hst
  exact lv_istore_n hE.1 hE.2.1 hd rfl hL.has hn rfl (fun la' h' => kk p e R s m args below meth c H locs la' cells slots hE hR hS hM (hL.set1 (zcons hst).1 h') (zcons hst).2)
theorem zE_istore {i : Nat} {x : Int} (hd : zI y.2.1 pc (.istore i) 2 pc') (hl : zset1 i (0, 0, x) ls = ls') (hn : i < y.2.2.1) (kk : zE X g l d bc bs y pc' ls' st μ Q) : zE X g l d bc bs y pc ls ((0, 0, x) :: st) μ Q := by
  obtain ⟨hd, rfl⟩ := hd
  subst hl
  intro p e R s m args below meth c H locs la cells slots hE hR hS hM hL hst
  exact lv_istore hE.1 hE.2.1 hd hL.has hn rfl (fun la' h' => kk p e R s m args below meth c H locs la' cells slots hE hR hS hM (hL.set1 (zcons hst).1 h') (zcons hst).2)
theorem zE_lstore_n {k : Fin 4} {x : Int} (hd : zI y.2.1 pc (.lstore_n k) 1 pc') (hl : zset2 k (1, 0, x) ls = ls') (hn : (k : Nat) + 1 < y.2.2.1) (kk : zE X g l d bc bs y pc' ls' st μ Q) : zE X g l d bc bs y pc ls ((1, 0, x) :: st) μ Q := by
  obtain ⟨hd, rfl⟩ := hd
  subst hl
  intro p e R s m args below meth c H locs la cells slots hE hR hS hM hL hst
  exact lv_lstore_n hE.1 hE.2.1 hd rfl hL.has hn rfl (fun la' h' => kk p e R s m args below meth c H locs la' cells slots hE hR hS hM (hL.set2 (zcons hst).1 h') (zcons hst).2)
theorem zE_lstore {i : Nat} {x : Int} (hd : zI y.2.1 pc (.lstore i) 2 pc') (hl : zset2 i (1, 0, x) ls = ls') (hn : i + 1 < y.2.2.1) (kk : zE X g l d bc bs y pc' ls' st μ Q) : zE X g l d bc bs y pc ls ((1, 0, x) :: st) μ Q := by
  obtain ⟨hd, rfl⟩ := hd
  subst hl
  intro p e R s m args below meth c H locs la cells slots hE hR hS hM hL hst
  exact lv_lstore hE.1 hE.2.1 hd hL.has hn rfl (fun la' h' => kk p e R s m args below meth c H locs la' cells slots hE hR hS hM (hL.set2 (zcons hst).1 h') (zcons hst).2)
theorem zE_astore_n {k : Fin 4} {t L : Nat} {x : Int} (hd : zI y.2.1 pc (.astore_n k) 1 pc') (hl : zset1 k (t + 2, L, x) ls = ls') (hn : (k : Nat) < y.2.2.1) (kk : zE X g l d bc bs y pc' ls' st μ Q) (ht : t + 2 < 100 := by decide) : zE X g l d bc bs y pc ls ((t + 2, L, x) :: st) μ Q := by
  obtain ⟨hd, rfl⟩ := hd
  subst hl
  intro p e R s m args below meth c H locs la cells slots hE hR hS hM hL hst
  have e0 := zrv_ref (X := X) (k := t) (L := L) (zok_pos (zcons hst).1 ht)
  rw [List.map_cons, e0]
  exact lv_astore_n hE.1 hE.2.1 hd rfl hL.has hn rfl (fun la' h' => kk p e R s m args below meth c H locs la' cells slots hE hR hS hM (hL.set1 (zcons hst).1 (by rw [e0]; exact h')) (zcons hst).2)
theorem zE_astore {i : Nat} {t L : Nat} {x : Int} (hd : zI y.2.1 pc (.astore i) 2 pc') (hl : zset1 i (t + 2, L, x) ls = ls') (hn : i < y.2.2.1) (kk : zE X g l d bc bs y pc' ls' st μ Q) (ht : t + 2 < 100 := by decide) : zE X g l d bc bs y pc ls ((t + 2, L, x) :: st) μ Q := by
  obtain ⟨hd, rfl⟩ := hd
  subst hl
  intro p e R s m args below meth c H locs la cells slots hE hR hS hM hL hst
  have e0 := zrv_ref (X := X) (k := t) (L := L) (zok_pos (zcons hst).1 ht)
  rw [List.map_cons, e0]
  exact lv_astore hE.1 hE.2.1 hd hL.has hn rfl (fun la' h' => kk p e R s m args below meth c H locs la' cells slots hE hR hS hM (hL.set1 (zcons hst).1 (by rw [e0]; exact h')) (zcons hst).2)
theorem zE_iinc {i : Nat} {n x : Int} (hd : zI y.2.1 pc (.iinc i n) 3 pc') (hx : ls[i]? = some (some (0, 0, x))) (hl : zset1 i (0, 0, zw (x + n)) ls = ls') (hn : i < y.2.2.1) (kk : zE X g l d bc bs y pc' ls' st μ Q) : zE X g l d bc bs y pc ls st μ Q := by
  obtain ⟨hd, rfl⟩ := hd
  subst hl
  intro p e R s m args below meth c H locs la cells slots hE hR hS hM hL hst
  have ev : Int32.ofInt x + Int32.ofInt n = Int32.ofInt (zw (x + n)) := by rw [zw_i, Int32.ofInt_add]
  have h0 := hL.has
  obtain ⟨j, hj⟩ := List.getElem?_of_mem (zprs_mem (X := X) hx)
  exact lv_iinc (k := j) hE.1 hE.2.1 hd h0 hj ev hn rfl (fun la' h' => kk p e R s m args below meth c H locs la' cells slots hE hR hS hM (hL.set1 (v := (0, 0, zw (x + n))) (zok_i' _) h') hst)
/-! long arithmetic and conversions -/
theorem zE_lop2 {a b r : Int} {i : Instr} (hd : zI y.2.1 pc i 1 pc') (h : ∃ v : Int64, r = v.toInt ∧ ∀ (p : Program) (e : Env) (R : Room) (s : State) (m : MethodId) (args : Array Value) (below : List Frame) (meth : Method) (c : Code) (H : Heap) (locs : List Loc) (la : Array Slot) (cells slots : Nat) (Z : State → Prop) (rest : List Value), p.tables.exec = Jvm.exec → c.code = y.2.1 → zok μ (1, 0, a) → zok μ (1, 0, b) →
      W p l e R s m args below meth c H locs cells slots Z (F0 m (pc + 1) la (.long v :: rest)) → W p l e R s m args below meth c H locs cells slots Z (F0 m pc la (.long (Int64.ofInt b) :: .long (Int64.ofInt a) :: rest)))
    (k : zE X g l d bc bs y pc' ls ((1, 0, r) :: st) μ Q) : zE X g l d bc bs y pc ls ((1, 0, b) :: (1, 0, a) :: st) μ Q := by
  obtain ⟨hd, rfl⟩ := hd
  obtain ⟨v, rfl, h⟩ := h
  refine zE_stk (fun p e R s m args below meth c H locs la cells slots Z hx hb _ _ _ ho kk => h p e R s m args below meth c H locs la cells slots Z _ hx hb (zcons (zcons ho).2).1 (zcons ho).1 ?_) (Or.inr trivial) (fun h _ => zmk (zok_l' v) (zcons (zcons h).2).2) k
  have e : zrv X (1, 0, v.toInt) = .long v := by
    show Value.long (Int64.ofInt v.toInt) = _
    rw [Int64.ofInt_toInt]
  rw [List.map_cons, e] at kk
  exact kk
theorem zE_ladd {a b : Int} (hd : zI y.2.1 pc .ladd 1 pc') (k : zE X g l d bc bs y pc' ls ((1, 0, zwl (a + b)) :: st) μ Q) : zE X g l d bc bs y pc ls ((1, 0, b) :: (1, 0, a) :: st) μ Q :=
  zE_lop2 hd ⟨Int64.ofInt a + Int64.ofInt b, by rw [zwl, Int64.ofInt_add], fun p e R s m args below meth c H locs la cells slots Z rest hx hb _ _ kk => lv_ladd hx hb hd.1 kk⟩ k
theorem zE_lsub {a b : Int} (hd : zI y.2.1 pc .lsub 1 pc') (k : zE X g l d bc bs y pc' ls ((1, 0, zwl (a - b)) :: st) μ Q) : zE X g l d bc bs y pc ls ((1, 0, b) :: (1, 0, a) :: st) μ Q :=
  zE_lop2 hd ⟨Int64.ofInt a - Int64.ofInt b, by rw [zwl, Int64.ofInt_sub], fun p e R s m args below meth c H locs la cells slots Z rest hx hb _ _ kk => lv_lsub hx hb hd.1 kk⟩ k
theorem zE_lmul {a b : Int} (hd : zI y.2.1 pc .lmul 1 pc') (k : zE X g l d bc bs y pc' ls ((1, 0, zwl (a * b)) :: st) μ Q) : zE X g l d bc bs y pc ls ((1, 0, b) :: (1, 0, a) :: st) μ Q :=
  zE_lop2 hd ⟨Int64.ofInt a * Int64.ofInt b, by rw [zwl, Int64.ofInt_mul], fun p e R s m args below meth c H locs la cells slots Z rest hx hb _ _ kk => lv_lmul hx hb hd.1 kk⟩ k
def zdivl (a b : Int) : Int := (Int64.ofInt a / Int64.ofInt b).toInt
def zreml (a b : Int) : Int := (Int64.ofInt a - Int64.ofInt a / Int64.ofInt b * Int64.ofInt b).toInt
def zdivi (a b : Int) : Int := (Int32.ofInt a / Int32.ofInt b).toInt
def zremi (a b : Int) : Int := (Int32.ofInt a - Int32.ofInt a / Int32.ofInt b * Int32.ofInt b).toInt
theorem zE_ldiv {a b : Int} (hd : zI y.2.1 pc .ldiv 1 pc') (h0 : b ≠ 0) (k : zE X g l d bc bs y pc' ls ((1, 0, zdivl a b) :: st) μ Q) : zE X g l d bc bs y pc ls ((1, 0, b) :: (1, 0, a) :: st) μ Q :=
  zE_lop2 hd ⟨Int64.ofInt a / Int64.ofInt b, rfl, fun p e R s m args below meth c H locs la cells slots Z rest hx hb _ hv kk => lv_ldiv hx hb hd.1 (fun q => h0 ((zl_eq (zok_lr hv) (by omega)).mp (q.trans rfl))) kk⟩ k
theorem zE_lrem {a b : Int} (hd : zI y.2.1 pc .lrem 1 pc') (h0 : b ≠ 0) (k : zE X g l d bc bs y pc' ls ((1, 0, zreml a b) :: st) μ Q) : zE X g l d bc bs y pc ls ((1, 0, b) :: (1, 0, a) :: st) μ Q :=
  zE_lop2 hd ⟨Int64.ofInt a - Int64.ofInt a / Int64.ofInt b * Int64.ofInt b, rfl, fun p e R s m args below meth c H locs la cells slots Z rest hx hb _ hv kk => lv_lrem hx hb hd.1 (fun q => h0 ((zl_eq (zok_lr hv) (by omega)).mp (q.trans rfl))) kk⟩ k
theorem zE_op2r {a b : Int} {v : Int32} {i : Instr} (hd : zI y.2.1 pc i 1 pc') (h : ∀ (p : Program) (e : Env) (R : Room) (s : State) (m : MethodId) (args : Array Value) (below : List Frame) (meth : Method) (c : Code) (H : Heap) (locs : List Loc) (la : Array Slot) (cells slots : Nat) (Z : State → Prop) (rest : List Value), p.tables.exec = Jvm.exec → c.code = y.2.1 → zok μ (0, 0, a) → zok μ (0, 0, b) →
      W p l e R s m args below meth c H locs cells slots Z (F0 m (pc + 1) la (.int v :: rest)) → W p l e R s m args below meth c H locs cells slots Z (F0 m pc la (.int (Int32.ofInt b) :: .int (Int32.ofInt a) :: rest)))
    (k : zE X g l d bc bs y pc' ls ((0, 0, v.toInt) :: st) μ Q) : zE X g l d bc bs y pc ls ((0, 0, b) :: (0, 0, a) :: st) μ Q := by
  obtain ⟨hd, rfl⟩ := hd
  refine zE_stk (fun p e R s m args below meth c H locs la cells slots Z hx hb _ _ _ ho kk => h p e R s m args below meth c H locs la cells slots Z _ hx hb (zcons (zcons ho).2).1 (zcons ho).1 ?_) (Or.inr trivial) (fun h _ => zmk (zok_i' v) (zcons (zcons h).2).2) k
  have e : zrv X (0, 0, v.toInt) = .int v := by
    show Value.int (Int32.ofInt v.toInt) = _
    rw [Int32.ofInt_toInt]
  rw [List.map_cons, e] at kk
  exact kk
theorem zE_idiv {a b : Int} (hd : zI y.2.1 pc .idiv 1 pc') (h0 : b ≠ 0) (k : zE X g l d bc bs y pc' ls ((0, 0, zdivi a b) :: st) μ Q) : zE X g l d bc bs y pc ls ((0, 0, b) :: (0, 0, a) :: st) μ Q :=
  zE_op2r hd (fun p e R s m args below meth c H locs la cells slots Z rest hx hb _ hv kk => lv_idiv hx hb hd.1 (fun q => h0 ((z_eq (zok_ir hv) (by omega)).mp (q.trans rfl))) kk) k
theorem zE_irem {a b : Int} (hd : zI y.2.1 pc .irem 1 pc') (h0 : b ≠ 0) (k : zE X g l d bc bs y pc' ls ((0, 0, zremi a b) :: st) μ Q) : zE X g l d bc bs y pc ls ((0, 0, b) :: (0, 0, a) :: st) μ Q :=
  zE_op2r hd (fun p e R s m args below meth c H locs la cells slots Z rest hx hb _ hv kk => lv_irem hx hb hd.1 (fun q => h0 ((z_eq (zok_ir hv) (by omega)).mp (q.trans rfl))) kk) k
end

/-! arrays of arrays: the machine's own step for an array of three arrays of five ints, word by word (no row of single members is used) -/
section
variable {E : CtlPost} {e : Env} {d : Bool} {acts : List Action} {s : State}
/-- five ints -/
def zqi (ci : ClassId) : Cell := { cls := ci, slots := Array.replicate 5 (.int 0), vm := .none }
/-- three places, empty at first -/
def zqo (cA : ClassId) : Cell := { cls := cA, slots := Array.replicate 3 .null, vm := .none }
/-- one more array of five, and its place in the outer cell -/
def zqs (U : State) (h : Nat) (ci : ClassId) (cell : Cell) : State := (U.pushCell (zqi ci)).setCell h cell
def zq1 (cA : ClassId) (h : Nat) : Cell := (zqo cA).setSlot 0 (.ref (h + 1))
def zq2 (cA : ClassId) (h : Nat) : Cell := (zq1 cA h).setSlot 1 (.ref (h + 2))
def zq3 (cA : ClassId) (h : Nat) : Cell := (zq2 cA h).setSlot 2 (.ref (h + 3))
/-- all four -/
def zqt (U : State) (cA ci : ClassId) : State :=
  zqs (zqs (zqs (U.pushCell (zqo cA)) U.heap.size ci (zq1 cA U.heap.size)) U.heap.size ci (zq2 cA U.heap.size)) U.heap.size ci (zq3 cA U.heap.size)
theorem zqs_facts {U : State} {h : Nat} {ci : ClassId} {cell c0 : Cell} (hc : U.heap[h]? = some c0) :
    (zqs U h ci cell).heap.size = U.heap.size + 1 ∧ (zqs U h ci cell).heap[h]? = some cell ∧ (zqs U h ci cell).heap[U.heap.size]? = some (zqi ci) ∧
    (∀ a, a < U.heap.size → a ≠ h → (zqs U h ci cell).heap[a]? = U.heap[a]?) ∧ (zqs U h ci cell).vm = U.vm ∧ (zqs U h ci cell).slotsUsed = U.slotsUsed + 5 := by
  have hl : h < U.heap.size := (Array.getElem?_eq_some_iff.mp hc).1
  have hp : (U.pushCell (zqi ci)).heap[h]? = some c0 := (State.heap_pushCell_of_lt U (zqi ci) hl).trans hc
  refine ⟨?_, State.heap_setCell_self hp, ?_, fun a ha hne => ?_, rfl, ?_⟩
  · show ((U.pushCell (zqi ci)).heap.setIfInBounds h cell).size = _
    rw [Array.size_setIfInBounds, State.heap_size_pushCell]
  · exact (State.heap_setCell_other (Nat.ne_of_lt hl)).trans (State.heap_pushCell_size U (zqi ci))
  · exact (State.heap_setCell_other (fun q => hne q.symm)).trans (State.heap_pushCell_of_lt U (zqi ci) ha)
  · show U.slotsUsed + (zqi ci).slots.size = _
    rw [show (zqi ci).slots.size = 5 from rfl]
theorem zqo_facts (U : State) (cA : ClassId) : (U.pushCell (zqo cA)).heap.size = U.heap.size + 1 ∧ (U.pushCell (zqo cA)).heap[U.heap.size]? = some (zqo cA) ∧
    (∀ a, a < U.heap.size → (U.pushCell (zqo cA)).heap[a]? = U.heap[a]?) ∧ (U.pushCell (zqo cA)).vm = U.vm ∧ (U.pushCell (zqo cA)).slotsUsed = U.slotsUsed + 3 :=
  ⟨State.heap_size_pushCell U (zqo cA), State.heap_pushCell_size U (zqo cA), fun _ ha => State.heap_pushCell_of_lt U (zqo cA) ha, rfl, rfl⟩
theorem zqt_facts (U : State) (cA ci : ClassId) : (zqt U cA ci).heap.size = U.heap.size + 4 ∧ (zqt U cA ci).heap[U.heap.size]? = some (zq3 cA U.heap.size) ∧
    (∀ a, a < U.heap.size → (zqt U cA ci).heap[a]? = U.heap[a]?) ∧ (∀ j, j < 3 → (zqt U cA ci).heap[U.heap.size + 1 + j]? = some (zqi ci)) := by
  obtain ⟨a1, a2, a3, -, -⟩ := zqo_facts U cA
  obtain ⟨b1, b2, b3, b4, -, -⟩ := zqs_facts (ci := ci) (cell := zq1 cA U.heap.size) a2
  obtain ⟨c1, c2, c3, c4, -, -⟩ := zqs_facts (ci := ci) (cell := zq2 cA U.heap.size) b2
  obtain ⟨d1, d2, d3, d4, -, -⟩ := zqs_facts (ci := ci) (cell := zq3 cA U.heap.size) c2
  rw [a1] at b3
  rw [b1, a1] at c3
  rw [c1, b1, a1] at d3
  refine ⟨by show _ = _; unfold zqt; rw [d1, c1, b1, a1], d2, fun a ha => ?_, fun j hj => ?_⟩
  · exact (d4 a (by omega) (by omega)).trans ((c4 a (by omega) (by omega)).trans ((b4 a (by omega) (by omega)).trans (a3 a ha)))
  · obtain rfl | rfl | rfl : j = 0 ∨ j = 1 ∨ j = 2 := by omega
    · exact (d4 _ (by omega) (by omega)).trans ((c4 _ (by omega) (by omega)).trans b3)
    · exact (d4 _ (by omega) (by omega)).trans c3
    · exact d3
/-- a new array of n places, all alike and default -/
theorem zq_new {c comp : ClassId} {k : Class} {ty : FieldType} {n : Nat} {v : Value} {Q : Addr → Pre} (hk : s.vm.classes[c]? = some k) (hkd : k.kind = .array comp ty)
    (hf : fits ty v = true) (hv : v.isDefault = true) (h1 : n ≤ e.platform.arrayLengthLimit) (h2 : n * componentBytes ty ≤ e.platform.maxHeapBytes)
    (h3 : s.heap.size + 1 ≤ e.platform.maxCells) (h4 : s.slotsUsed + n ≤ e.platform.maxSlots)
    (q : Q s.heap.size d acts (s.pushCell { cls := c, slots := Array.replicate n v, vm := .none })) : wp (Jvm.newArray c n v) Q E e d acts s := by
  have ha : allocActs (Array.replicate n v) s.heap.size acts = acts := by
    unfold allocActs
    refine if_pos ?_
    rw [Array.all_eq_true]
    intro i hi
    rw [Array.getElem_replicate]
    exact hv
  unfold Jvm.newArray Jvm.arrayFits
  simp only [wp_bind', W.ask, W.ite, wp_pure', W.theClass, W.alloc, W.stop, hk, hkd, Option.some.injEq, exists_eq_left', Array.size_replicate, ha]
  rw [if_neg (Nat.not_lt.mpr h1)]
  rw [if_neg (Nat.not_lt.mpr h2)]
  rw [if_neg (by omega)]
  refine ⟨by omega, h4, fun i w hw => ?_, q⟩
  obtain ⟨hi, rfl⟩ := Array.getElem?_eq_some_iff.mp hw
  rw [Array.getElem_replicate]
  unfold State.fitsSlot State.slotType?
  simp only [hk, hkd, Option.bind_eq_bind, Option.bind_some]
  exact hf
/-- five ints -/
theorem zq_five {ci cc : ClassId} {k : Class} {Q : Addr → Pre} (hk : s.vm.classes[ci]? = some k) (hkd : k.kind = .array cc .int) (h1 : 5 ≤ e.platform.arrayLengthLimit) (h2 : 5 * 4 ≤ e.platform.maxHeapBytes)
    (h3 : s.heap.size + 1 ≤ e.platform.maxCells) (h4 : s.slotsUsed + 5 ≤ e.platform.maxSlots) (q : Q s.heap.size d acts (s.pushCell (zqi ci))) : wp (multianewarray.make ci [Int32.ofInt 5]) Q E e d acts s := by
  rw [multianewarray.make]
  simp only [W.ite, show ¬ Int32.ofInt 5 < 0 by decide, if_false, wp_bind', W.theClass]
  refine ⟨k, hk, ?_⟩
  rw [hkd]
  exact zq_new hk hkd rfl rfl h1 h2 h3 h4 q
/-- one turn of the loop: five more, and their place -/
theorem zq_turn {ci cc : ClassId} {k k2 : Class} {cell : Cell} {h i : Nat} {Q : ForInStep PUnit → Pre} (hk : s.vm.classes[ci]? = some k) (hkd : k.kind = .array cc .int) (hk2 : s.vm.classes[cell.cls]? = some k2) (hkd2 : k2.kind = .array ci (.array .int))
    (hc : s.heap[h]? = some cell) (hv : cell.vm = .none) (hi : i < cell.slots.size) (h1 : 5 ≤ e.platform.arrayLengthLimit) (h2 : 5 * 4 ≤ e.platform.maxHeapBytes)
    (h3 : s.heap.size + 1 ≤ e.platform.maxCells) (h4 : s.slotsUsed + 5 ≤ e.platform.maxSlots)
    (q : ∀ acts', Q (ForInStep.yield PUnit.unit) true acts' (zqs s h ci (cell.setSlot i (.ref s.heap.size)))) : wp (multianewarray.make ci [Int32.ofInt 5]) (fun a => wp (Jvm.writeLoc h i (.ref a) >>= fun _ => (Pure.pure (ForInStep.yield PUnit.unit) : Sem (ForInStep PUnit))) Q E e) E e d acts s := by
  refine zq_five hk hkd h1 h2 h3 h4 ?_
  have hl : h < s.heap.size := (Array.getElem?_eq_some_iff.mp hc).1
  rw [wp_bind', W.writeLoc]
  refine ⟨cell, (State.heap_pushCell_of_lt s (zqi ci) hl).trans hc, (by rw [hv]; intro w; cases w), hi, ?_, q _⟩
  rw [hv]
  unfold State.fitsSlot State.slotType?
  rw [State.vm_pushCell]
  simp only [hk2, hkd2, Option.bind_eq_bind, Option.bind_some]
  rfl
end
section
variable {E : CtlPost} {e : Env} {d : Bool} {acts : List Action} {s : State}
/-- three times five -/
theorem zq_make {cA ci cc : ClassId} {k k2 : Class} {Q : Addr → Pre} (hk : s.vm.classes[ci]? = some k) (hkd : k.kind = .array cc .int) (hk2 : s.vm.classes[cA]? = some k2) (hkd2 : k2.kind = .array ci (.array .int))
    (h1 : 5 ≤ e.platform.arrayLengthLimit) (h2 : 5 * 4 ≤ e.platform.maxHeapBytes) (h3 : s.heap.size + 4 ≤ e.platform.maxCells) (h4 : s.slotsUsed + 18 ≤ e.platform.maxSlots)
    (q : ∀ d' acts', Q s.heap.size d' acts' (zqt s cA ci)) : wp (multianewarray.make cA [Int32.ofInt 3, Int32.ofInt 5]) Q E e d acts s := by
  obtain ⟨a1, a2, -, a4, a5⟩ := zqo_facts s cA
  obtain ⟨b1, b2, -, -, b5, b6⟩ := zqs_facts (ci := ci) (cell := zq1 cA s.heap.size) a2
  obtain ⟨c1, c2, -, -, c5, c6⟩ := zqs_facts (ci := ci) (cell := zq2 cA s.heap.size) b2
  have e3 : ∀ f : Nat → PUnit → Sem (ForInStep PUnit), forIn ([0:(Int32.ofInt 3).toNatClampNeg] : Std.Legacy.Range) PUnit.unit f = forIn [0, 1, 2] PUnit.unit f := by
    intro f
    rw [Std.Legacy.Range.forIn_eq_forIn_range']
    rfl
  rw [multianewarray.make]
  simp only [W.ite, show ¬ Int32.ofInt 3 < 0 by decide, if_false, wp_bind', W.theClass]
  refine ⟨k2, hk2, ?_⟩
  rw [hkd2]
  simp only [wp_bind', W.ite, show (Int32.ofInt 3 == 0) = false by decide, Bool.false_eq_true, if_false]
  refine zq_new (n := 3) hk2 hkd2 rfl rfl (by omega) (by show 3 * 4 ≤ _; omega) (by omega) (by omega) ?_
  rw [e3]
  simp only [List.forIn_cons, List.forIn_nil, wp_bind', wp_pure']
  refine zq_turn (s := s.pushCell (zqo cA)) (i := 0) (cell := zqo cA) (k := k) (k2 := k2) hk hkd hk2 hkd2 a2 rfl (by simp [zqo]) h1 h2 (by rw [show (s.pushCell (zqo cA)).heap.size = _ from a1]; omega) (by rw [show (s.pushCell (zqo cA)).slotsUsed = _ from a5]; omega) (fun acts1 => ?_)
  have g1 : (zqo cA).setSlot 0 (.ref (s.pushCell (zqo cA)).heap.size) = zq1 cA s.heap.size := by rw [a1]; rfl
  rw [g1]
  simp only [wp_bind']
  refine zq_turn (s := zqs (s.pushCell (zqo cA)) s.heap.size ci (zq1 cA s.heap.size)) (i := 1) (cell := zq1 cA s.heap.size) (k := k) (k2 := k2) hk hkd hk2 hkd2 b2 rfl (by simp [zq1, zqo, Cell.setSlot]) h1 h2 (by rw [b1, a1]; omega) (by rw [b6, a5]; omega) (fun acts2 => ?_)
  have g2 : (zq1 cA s.heap.size).setSlot 1 (.ref (zqs (s.pushCell (zqo cA)) s.heap.size ci (zq1 cA s.heap.size)).heap.size) = zq2 cA s.heap.size := by rw [b1, a1]; rfl
  rw [g2]
  simp only [wp_bind']
  refine zq_turn (s := zqs (zqs (s.pushCell (zqo cA)) s.heap.size ci (zq1 cA s.heap.size)) s.heap.size ci (zq2 cA s.heap.size)) (i := 2) (cell := zq2 cA s.heap.size) (k := k) (k2 := k2) hk hkd hk2 hkd2 c2 rfl (by simp [zq2, zq1, zqo, Cell.setSlot]) h1 h2 (by rw [c1, b1, a1]; omega) (by rw [c6, b6, a5]; omega) (fun acts3 => ?_)
  have g3 : (zq2 cA s.heap.size).setSlot 2 (.ref (zqs (zqs (s.pushCell (zqo cA)) s.heap.size ci (zq1 cA s.heap.size)) s.heap.size ci (zq2 cA s.heap.size)).heap.size) = zq3 cA s.heap.size := by rw [c1, b1, a1]; rfl
  rw [g3]
  exact q _ _
end
section
/-- the array of arrays stands over the array of ints -/
theorem zq_over {A : Array Value} {U : State} (h : (Cond.arrayOver (.array .int)).before A U = true) :
    ∃ (ci cA : ClassId) (k : Class), U.vm.findClass "[I" = some ci ∧ U.vm.findClass "[[I" = some cA ∧ U.vm.classes[cA]? = some k ∧ k.kind = .array ci (.array .int) := by
  have e1 : (FieldType.array FieldType.int).toString = "[I" := by decide
  have e2 : "[" ++ "[I" = "[[I" := by decide
  unfold Cond.before Cond.holds at h
  simp only [Cond.value, e1, e2] at h
  rw [beq_iff_eq] at h
  obtain ⟨ci, h1, h⟩ := Option.bind_eq_some_iff.mp h
  obtain ⟨cA, h2, h⟩ := Option.bind_eq_some_iff.mp h
  obtain ⟨k, h3, h⟩ := Option.map_eq_some_iff.mp h
  obtain ⟨hl, hp, -⟩ := Array.findIdx?_eq_some_iff_getElem.mp h2
  have hk : U.vm.classes[cA] = k := Option.some.inj ((Array.getElem?_eq_getElem hl).symm.trans h3)
  rw [hk] at hp
  cases hq : k.kind with
  | array a ty =>
    rw [hq] at h hp
    have hp' : a = ci := beq_iff_eq.mp hp
    have h' := Bool.and_eq_true_iff.mp h
    have t1 : ty = .array .int := of_decide_eq_true h'.1
    have t2 : U.vm.findClass "[[I" = some cA := of_decide_eq_true h'.2
    exact ⟨ci, cA, k, h1, t2, h3, by rw [hq, hp', t1]⟩
  | _ => rw [hq] at h; cases h
variable {p : Program} {l : Launch} {e : Env} {R : Room} {s : State} {m : MethodId} {args : Array Value} {below : List Frame} {meth : Method} {c : Code} {T : State} {locs : List Loc} {cells slots : Nat}
theorem zq_stand (X : Stand p l e R s m args below meth c T locs cells slots) (cA ci : ClassId) : Stand p l e R s m args below meth c (zqt T cA ci) locs (cells + 4) (slots + 18) := by
  obtain ⟨a1, a2, -, a4, a5⟩ := zqo_facts T cA
  obtain ⟨b1, b2, -, -, b5, b6⟩ := zqs_facts (ci := ci) (cell := zq1 cA T.heap.size) a2
  obtain ⟨c1, c2, -, -, c5, c6⟩ := zqs_facts (ci := ci) (cell := zq2 cA T.heap.size) b2
  have one : ∀ {U : State} {L : List Loc} {x y : Nat} {cell : Cell}, Stand p l e R s m args below meth c U L x y → U.heap[T.heap.size]? = some cell → ∀ (i : Nat) (v : Value),
      Stand p l e R s m args below meth c (zqs U T.heap.size ci (cell.setSlot i v)) (L ++ [⟨T.heap.size, i⟩]) (x + 1) (y + 5) := by
    intro U L x y cell Y hc i v
    have hl : T.heap.size < U.heap.size := (Array.getElem?_eq_some_iff.mp hc).1
    exact (Y.pushed (zqi ci)).stored ((State.heap_pushCell_of_lt U (zqi ci) hl).trans hc) i v
  have Y0 := X.pushed (zqo cA)
  have Y1 := one Y0 a2 0 (.ref (T.heap.size + 1))
  have Y2 := one Y1 b2 1 (.ref (T.heap.size + 2))
  have Y3 := one Y2 c2 2 (.ref (T.heap.size + 3))
  rw [List.append_assoc, List.append_assoc] at Y3
  refine Y3.dropFresh (fun x hx => ?_)
  have g := X.heapGrown
  simp only [List.mem_append, List.mem_singleton] at hx
  obtain rfl | rfl | rfl := hx
  · exact g
  · exact g
  · exact g
theorem zq_multi (X : Stand p l e R s m args below meth c T locs cells slots) (hexec : p.tables.exec = Jvm.exec) {own : String} {index : Nat} (hown : s.vm.findClass own = some m.cls)
    (hcl : (Cond.classLink own index "[[I").before args s = true) (ho : (Cond.arrayOver (.array .int)).before args s = true) (ha : (Cond.arrayClass .int).before args s = true)
    {g : JFrame} (hg : g.method = m) (hd : decode c.code g.pc = .ok (.multianewarray index 2, 4)) {rest : List Value} (hst : g.stack = .int (Int32.ofInt 5) :: .int (Int32.ofInt 3) :: rest)
    (hc : cells + 4 ≤ R.cells) (hs : slots + 18 ≤ R.slots) :
    ∃ (vm₁ : Vm) (cA ci : ClassId), s.vm.findClass "[[I" = some cA ∧ s.vm.findClass "[I" = some ci ∧ Stand p l e R s m args below meth c (zqt (T.setVm vm₁) cA ci) locs (cells + 4) (slots + 18) ∧
      ∀ t, Steps p.tables e below ((zqt (T.setVm vm₁) cA ci).setTop { g with pc := g.pc + 4, stack := .ref T.heap.size :: rest }) t → Steps p.tables e below (T.setTop g) t := by
  subst hg
  obtain ⟨ci, cA, kA, hci, hcA, hkA, hkdA⟩ := zq_over ho
  obtain ⟨ci', kI, cc, hci', hkI, hkdI⟩ := Cond.arrayClass_spec ha
  obtain rfl : ci' = ci := Option.some.inj (hci'.symm.trans hci)
  obtain ⟨cA', hcA', hlk⟩ := Cond.classLink_spec hown hcl e.platform (by rw [X.admits.platform])
  obtain rfl : cA' = cA := Option.some.inj (hcA'.symm.trans hcA)
  obtain ⟨hgv, hwm, -⟩ := State.classEntry (e := e) X.warmed hlk
  generalize T.vm.noted g.method.cls index (.cls cA') = vm₁ at hgv hwm
  have hal : s.vm.Alike vm₁ := hwm.alike
  obtain ⟨kA1, hkA1, eA⟩ := hal.2.2 _ _ hkA
  obtain ⟨kI1, hkI1, eI⟩ := hal.2.2 _ _ hkI
  have hkdA1 : kA1.kind = .array ci' (.array .int) := by rw [eA]; exact hkdA
  have hkdI1 : kI1.kind = .array cc .int := by rw [eI]; exact hkdI
  have X1 := X.noted hwm
  have X2 := zq_stand X1 cA' ci'
  obtain ⟨r1, r2⟩ := X.roomAbove hc hs
  refine ⟨vm₁, cA', ci', hcA, hci, X2, fun t ht => ?_⟩
  have l1 : 5 ≤ e.platform.arrayLengthLimit := by rw [Launch.admits_arrayLengthLimit X.admits]; decide
  have l2 : 5 * 4 ≤ e.platform.maxHeapBytes := by rw [Launch.admits_maxHeapBytes X.admits]; decide
  jvm_step X.here [hexec, hd]
  simp only [multianewarray.sem, wp_bind', W.resolveClassAt_links (State.method?_setTop g X.here.top) hgv]
  show wp (Jvm.popN [Value.int (Int32.ofInt 3), Value.int (Int32.ofInt 5)].length) _ _ _ _ _ ((T.setVm vm₁).setTop g)
  rw [popN_top (s := T.setVm vm₁) (f := g) X.here.top (args := [Value.int (Int32.ofInt 3), Value.int (Int32.ofInt 5)]) (rest := rest) hst]
  simp only [List.mapM_cons, List.mapM_nil, wp_bind', wp_pure']
  refine zq_make (k := kI1) (k2 := kA1) hkI1 hkdI1 hkA1 hkdA1 l1 l2 r1 r2 (fun d' acts' => ?_)
  have ez : zqt ((T.setVm vm₁).setTop { g with stack := rest }) cA' ci' = (zqt (T.setVm vm₁) cA' ci').setTop { g with stack := rest } := rfl
  rw [ez]
  simp only [wp_bind', W.mark, W.pushRef, State.topJava?_setTop' _ X2.here.top, Option.some.injEq, exists_eq_left', State.setTop_setTop, State.heap_setTop]
  intro acts
  simp [jvm, X2.here.top]
  exact ht
end

/-! THE PURE PICTURE. A value: (kind, length, number): kind 0 an int, 1 a long, t + 2 a reference to a cell of shape t (not null), 100 + t one that may be null (below 0). Memory: cell, slot ↦ number; cell -1 slot 0: how many cells there are; cells -2, -3: their shapes, their lengths. -/
abbrev zV : Type := Nat × Nat × Int
abbrev zM : Type := Int → Int → Int
abbrev zMt : Type := MethodName × ByteArray × Nat × Option FieldType
abbrev zX : Type := Nat × (Nat → Nat) × va_G × (Nat → ClassId) × Nat × (Nat → Int32)
def zw (x : Int) : Int := (Int32.ofInt x).toInt
def zwl (x : Int) : Int := (Int64.ofInt x).toInt
def zup (μ : zM) (a i v : Int) : zM := fun b j => if b = a ∧ j = i then v else μ b j
def zad (X : zX) (k : Nat) (x : Int) : Nat := if k < 32 ∨ (100 ≤ k ∧ k < 132) then X.1 + x.toNat else X.2.1 x.toNat
def zrv (X : zX) (v : zV) : Value := match v.1 with
  | 0 => .int (Int32.ofInt v.2.2)
  | 1 => .long (Int64.ofInt v.2.2)
  | _ => if v.2.2 < 0 then .null else .ref (zad X v.1 v.2.2)
def zok (μ : zM) (v : zV) : Prop :=
  (v.1 = 0 → -2147483648 ≤ v.2.2 ∧ v.2.2 < 2147483648) ∧ (v.1 = 1 → -9223372036854775808 ≤ v.2.2 ∧ v.2.2 < 9223372036854775808) ∧
  (2 ≤ v.1 → v.1 < 100 → 0 ≤ v.2.2) ∧ (2 ≤ v.1 → v.1 < 32 → v.2.2 < μ (-1) 0 ∧ μ (-2) v.2.2 = ((v.1 - 2 : Nat) : Int) ∧ μ (-3) v.2.2 = (v.2.1 : Int)) ∧
  (100 ≤ v.1 → v.1 < 132 → 0 ≤ v.2.2 → v.2.2 < μ (-1) 0 ∧ μ (-2) v.2.2 = ((v.1 - 100 : Nat) : Int) ∧ μ (-3) v.2.2 = (v.2.1 : Int))
def zsv (X : zX) (t L : Nat) (f : Int → Int) (i : Nat) : Value := zrv X ((zsk t L i).1, (zsk t L i).2, f i)
def zat (X : zX) (t L : Nat) (f : Int → Int) (k : Nat) (H : Heap) : Prop :=
  if t < 12 then t_OB (X.1 + k) (X.2.2.1.1 t) (zN t) (X.2.2.1.2 t) H (zsv X t L f) else H[X.1 + k]? = some (arrV (X.2.2.2.1 t) L (zsv X t L f))
/-- final references as they are once all constructors are through -/
def zreg (μ : zM) : Prop := ∀ k : Nat, (k : Int) < μ (-1) 0 → (∀ (i : Nat) (o : Int), zof (μ (-2) k).toNat i = some o → μ k i = k + o) ∧ ∀ o s : Int, zst (μ (-2) k).toNat = some (o, s) → ∀ i : Nat, (i : Int) < μ (-3) k → μ k i = k + o + s * i
def zcell (X : zX) (μ : zM) (H : Heap) (k : Nat) : Prop := 0 ≤ μ (-2) k ∧ μ (-2) k < 26 ∧ 0 ≤ μ (-3) k ∧ μ (-3) k < 2147483648 ∧ zat X (μ (-2) k).toNat (μ (-3) k).toNat (μ k) k H ∧ ∀ i : Nat, i < zsn (μ (-2) k).toNat (μ (-3) k).toNat → zok μ ((zsk (μ (-2) k).toNat (μ (-3) k).toNat i).1, (zsk (μ (-2) k).toNat (μ (-3) k).toNat i).2, μ k i)
def zR (X : zX) (g : Bool) (μ : zM) (H : Heap) : Prop := 0 ≤ μ (-1) 0 ∧ H.size = X.1 + (μ (-1) 0).toNat ∧ (∀ k : Nat, (k : Int) < μ (-1) 0 → zcell X μ H k) ∧ (g = true → zreg μ)
def zA (X : zX) : Nat → Prop := fun q => X.1 ≤ q
/-- words that hold in every later state -/
def zgd : Cond → Bool
  | .arrayClass _ => true
  | w => w.onTables && w.keepsH
def ztys (X : zX) : List (ClassId × FieldType) := (List.range 26).map fun t => (X.2.2.2.1 t, zay t)
def zsi (j : Nat) : Nat := [74, 80, 98, 112, 125, 127, 147, 151, 153, 155, 157, 159, 161, 163, 165, 167, 169, 171].getD j 0
def ztx (j : Nat) : String := ["go", "hold", "if", "or", "and", "not", "size", "still", "stirs", "gone", "heard", "friends", "glance", "kind", "afraid", "skill", "asked", "alone"].getD j ""
def zlen : List Nat := [2, 4, 2, 2, 3, 3, 4, 5, 5, 4, 5, 7, 6, 4, 6, 5, 5, 5]
def zbyt : List (List Int32) := [[103, 111], [104, 111, 108, 100], [105, 102], [111, 114], [97, 110, 100], [110, 111, 116], [115, 105, 122, 101], [115, 116, 105, 108, 108], [115, 116, 105, 114, 115], [103, 111, 110, 101], [104, 101, 97, 114, 100], [102, 114, 105, 101, 110, 100, 115], [103, 108, 97, 110, 99, 101], [107, 105, 110, 100], [97, 102, 114, 97, 105, 100], [115, 107, 105, 108, 108], [97, 115, 107, 101, 100], [97, 108, 111, 110, 101]]
def ztens (j : Nat) : Int := [1, 10, 100, 1000, 10000, 100000, 1000000, 10000000, 100000000].getD j 0
def zthrees (j : Nat) : Int := [0, 1, 3, 4, 9, 10, 12, 13, 27, 28, 30, 31, 36, 37, 39, 40, 81, 82, 84, 85, 90, 91, 93, 94, 108, 109, 111, 112, 117, 118, 120, 121].getD j 0
/-- what the tables say, of every state of the run -/
def zKn (X : zX) (U : State) : Prop := (∀ w ∈ lw_tbl, zgd w = true → va_Nw w U) ∧ va_K X.2.2.1 zcl (ztys X) U ∧ (∀ C, C = "SmokeRoom$Plan" ∨ C = "SmokeRoom$Law" ∨ C = "SmokeRoom$Room" ∨ C = "SmokeRoom$Big" → va_AO C U) ∧ (Cond.arrayOver (.array .int)).before #[] U = true ∧ ∀ j : Nat, j < 18 → vk_R "SmokeRoom$Reader" (zsi j) (ztx j) (X.2.1 (10 + j)) U
/-- what lies in the old heap -/
def zOl (X : zX) (U : State) (H : Heap) : Prop :=
  vk_S 18 zlen zbyt (fun j => X.2.1 (10 + j)) (fun j => X.2.1 (40 + j)) (zA X) U H ∧
  (va_Z "SmokeRoom$Big" "TENS" "[I" (.ref (X.2.1 0)) (zA X) U H ∧ va_T .int (X.2.1 0) 9 (fun j => .int (Int32.ofInt (ztens j))) (zA X) U H) ∧
  (va_Z "SmokeRoom$Reckoner" "THREES" "[I" (.ref (X.2.1 1)) (zA X) U H ∧ va_T .int (X.2.1 1) 32 (fun j => .int (Int32.ofInt (zthrees j))) (zA X) U H) ∧
  va_Z "java/lang/String" "COMPACT_STRINGS" "Z" (.int 1) (zA X) U H ∧
  (va_Z "jdk/internal/util/Preconditions" "SIOOBE_FORMATTER" "Ljava/util/function/BiFunction;" .null (zA X) U H ∨ va_Z "jdk/internal/util/Preconditions" "SIOOBE_FORMATTER" "Ljava/util/function/BiFunction;" (.ref (X.2.1 2)) (zA X) U H) ∧
  va_T .int (X.2.1 3) X.2.2.2.2.1 (fun j => .int (X.2.2.2.2.2 j)) (zA X) U H
def zro (X : zX) (r : Option zV) : Option Value := r.map (zrv X)
/-- cells stay what they are -/
def zext (μ ν : zM) : Prop := μ (-1) 0 ≤ ν (-1) 0 ∧ ∀ k : Int, 0 ≤ k → k < μ (-1) 0 → ν (-2) k = μ (-2) k ∧ ν (-3) k = μ (-3) k
def zQ (X : zX) (g : Bool) (ν : zM) (Q : Option zV → zM → Prop) : Array Value → State → Outcome → State → Prop := fun _ st oc t => (∃ (r : Option zV) (μ : zM), oc = .returned (zro X r) ∧ (∀ v, r = some v → zok μ v) ∧ Q r μ ∧ zR X g μ t.heap ∧ zext ν μ) ∧ va_F (zA X) st t
def zEnv (X : zX) (y : zMt) (p : Program) (s : State) (m : MethodId) (meth : Method) (c : Code) : Prop :=
  p.tables.exec = Jvm.exec ∧ c.code = y.2.1 ∧ meth.sig.returnType = y.2.2.2 ∧ c.maxLocals = y.2.2.1 ∧ s.vm.findClass y.1.cls = some m.cls ∧ meth.locks = false ∧ meth.name = y.1.name ∧ X.1 ≤ s.heap.size ∧ zKn X s ∧ zOl X s s.heap
def zRm (d bc bs : Nat) (R : Room) (cells slots : Nat) : Prop := d ≤ R.frames ∧ 64 * d ≤ R.locals ∧ cells + bc ≤ R.cells ∧ slots + bs ≤ R.slots
def zLs (X : zX) (μ : zM) (n : Nat) (la : Array Slot) (ls : List (Option zV)) : Prop := la.size = n ∧ lv_wf la ∧ ∀ (i : Nat) (v : zV), ls[i]? = some (some v) → la[i]? = some (.val (zrv X v)) ∧ zok μ v
/-- FROM HERE the method ends, and Q holds of its answer and of the memory then -/
def zE (X : zX) (g : Bool) (l : Launch) (d bc bs : Nat) (y : zMt) (pc : Nat) (ls : List (Option zV)) (st : List zV) (μ : zM) (Q : Option zV → zM → Prop) : Prop :=
  ∀ (p : Program) (e : Env) (R : Room) (s : State) (m : MethodId) (args : Array Value) (below : List Frame) (meth : Method) (c : Code) (H : Heap) (locs : List Loc) (la : Array Slot) (cells slots : Nat),
    zEnv X y p s m meth c → zRm d bc bs R cells slots → va_S (zA X) s.heap H locs → zR X g μ H → zLs X μ y.2.2.1 la ls → (∀ v ∈ st, zok μ v) →
    W p l e R s m args below meth c H locs cells slots (MQ below (zQ X g μ Q) args s R.cells R.slots (zA X)) (F0 m pc la (st.map (zrv X)))
/-- A CALL with these arguments ends, and Q holds -/
def zC' (X : zX) (g : Bool) (l : Launch) (d bc bs : Nat) (y : zMt) (as : List zV) (μ : zM) (Q : Option zV → zM → Prop) : Prop :=
  ∀ R : Room, d ≤ R.frames → 64 * d ≤ R.locals → R.cells = bc → R.slots = bs → Met l y.1 [.code y.1 y.2.1 y.2.2.1 y.2.2.2] R (va_Pc (as.map (zrv X)) (fun U => (∀ v ∈ as, zok μ v) ∧ X.1 ≤ U.heap.size ∧ zKn X U ∧ zOl X U U.heap ∧ zR X g μ U.heap)) (zQ X g μ Q) bc bs (zA X)
def zI (cc : ByteArray) (pc : Nat) (i : Instr) (n pc' : Nat) : Prop := decode cc pc = .ok (i, n) ∧ pc + n = pc'

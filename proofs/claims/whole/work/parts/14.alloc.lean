def zdf (t L : Nat) : Int → Int := fun i => if 100 ≤ (zsk t L i.toNat).1 then -1 else 0
/-- a new cell -/
def zal (μ : zM) (t L : Nat) : zM := fun a i =>
  if a = -1 then (if i = 0 then μ (-1) 0 + 1 else μ a i) else if a = -2 then (if i = μ (-1) 0 then (t : Int) else μ a i) else if a = -3 then (if i = μ (-1) 0 then (L : Int) else μ a i) else if a = μ (-1) 0 then zdf t L i else μ a i
theorem zal_n (μ : zM) (t L : Nat) : zal μ t L (-1) 0 = μ (-1) 0 + 1 := by simp [zal]
theorem zal_old (μ : zM) (t L : Nat) {k : Nat} (h : (k : Int) < μ (-1) 0) : zal μ t L k = μ k ∧ zal μ t L (-2) k = μ (-2) k ∧ zal μ t L (-3) k = μ (-3) k := by
  refine ⟨funext fun i => ?_, ?_, ?_⟩
  · simp [zal, show ¬ (k : Int) = -1 by omega, show ¬ (k : Int) = -2 by omega, show ¬ (k : Int) = -3 by omega, show ¬ (k : Int) = μ (-1) 0 by omega]
  · simp [zal, show ¬ (k : Int) = μ (-1) 0 by omega]
  · simp [zal, show ¬ (k : Int) = μ (-1) 0 by omega]
theorem zal_new (μ : zM) (t L : Nat) {k : Nat} (h : (k : Int) = μ (-1) 0) : zal μ t L k = zdf t L ∧ zal μ t L (-2) k = t ∧ zal μ t L (-3) k = L := by
  refine ⟨funext fun i => ?_, ?_, ?_⟩
  · have e1 : ¬ μ (-1) 0 = -1 := by omega
    have e2 : ¬ μ (-1) 0 = -2 := by omega
    have e3 : ¬ μ (-1) 0 = -3 := by omega
    rw [h]
    simp [zal, e1, e2, e3]
  · simp [zal, h]
  · simp [zal, h]
theorem zal_ext (μ : zM) (t L : Nat) (h : 0 ≤ μ (-1) 0) : zext μ (zal μ t L) := by
  refine ⟨by rw [zal_n]; omega, fun k h0 h1 => ?_⟩
  obtain ⟨n, rfl⟩ : ∃ n : Nat, k = (n : Int) := ⟨k.toNat, by omega⟩
  exact (zal_old μ t L h1).2
/-- kinds that a slot may have -/
def zkd (k : Nat) : Bool := k == 0 || k == 1 || (100 ≤ k && k < 132)
theorem zsk_kd (t L i : Nat) : zkd (zsk t L i).1 = true := by
  unfold zsk
  split <;> (try split) <;> rfl
theorem zdf_ok {μ : zM} {t L i : Nat} : zok μ ((zsk t L i).1, (zsk t L i).2, zdf t L i) := by
  have h := zsk_kd t L i
  unfold zkd at h
  simp only [Bool.or_eq_true, Bool.and_eq_true, beq_iff_eq, decide_eq_true_eq] at h
  have e : zdf t L i = if 100 ≤ (zsk t L i).1 then -1 else 0 := by simp [zdf]
  generalize zdf t L i = x at e ⊢
  generalize (zsk t L i).1 = k at h e ⊢
  generalize (zsk t L i).2 = m
  subst e
  rcases h with (rfl | rfl) | h
  · exact zok_i (by simp) (by simp)
  · exact zok_l (by simp) (by simp)
  · refine ⟨fun q => absurd (show k = 0 from q) (by omega), fun q => absurd (show k = 1 from q) (by omega), fun _ q => absurd (show k < 100 from q) (by omega), fun _ q => absurd (show k < 32 from q) (by omega), fun _ _ q => ?_⟩
    have q' : (0 : Int) ≤ if 100 ≤ k then -1 else 0 := q
    rw [if_pos h.1] at q'
    omega
theorem zR.alloc {X : zX} {μ : zM} {H H1 : Heap} (h : zR X false μ H) {t L : Nat} (ht : t < 26) (hL : L < 2147483648) (hz : H1.size = H.size + 1) (ho : ∀ q, q < H.size → H1[q]? = H[q]?) (ha : zat X t L (zdf t L) (μ (-1) 0).toNat H1) : zR X false (zal μ t L) H1 := by
  obtain ⟨h1, h2, h3, h4⟩ := h
  have hx := zal_ext μ t L h1
  refine ⟨by rw [zal_n]; omega, by rw [zal_n, hz, h2]; omega, fun k hk => ?_, fun q => by cases q⟩
  rw [zal_n] at hk
  unfold zcell
  by_cases e : (k : Int) = μ (-1) 0
  · obtain ⟨e1, e2, e3⟩ := zal_new μ t L e
    rw [e1, e2, e3]
    simp only [Int.toNat_natCast]
    refine ⟨by omega, by omega, by omega, by omega, ?_, fun i hi => ?_⟩
    · have : (μ (-1) 0).toNat = k := by omega
      rw [this] at ha
      exact ha
    · exact zdf_ok
  · have hk' : (k : Int) < μ (-1) 0 := by omega
    obtain ⟨e1, e2, e3⟩ := zal_old μ t L hk'
    obtain ⟨c1, c2, c3, c4, c5, c6⟩ := h3 k hk'
    rw [e1, e2, e3]
    exact ⟨c1, c2, c3, c4, c5.kept (ho _ (by have := c5.lt; omega)), fun i hi => (c6 i hi).ext hx⟩
theorem zKn.arr {X : zX} {U : State} (h : zKn X U) {ty : FieldType} (hw : Cond.arrayClass ty ∈ lw_tbl) {A : Array Value} : (Cond.arrayClass ty).before A U = true := word_at (State.WarmedH.refl U) (Or.inr ⟨ty, rfl⟩) (h.1 _ hw rfl)
def zdv : FieldType → Nat → Bool
  | .int, k => k == 0
  | .boolean, k => k == 0
  | .long, k => k == 1
  | .object _, k => 100 ≤ k
  | .array _, k => 100 ≤ k
  | _, _ => false
theorem zsk_L (t L i : Nat) : (zsk t L i).1 = (zsk t 0 i).1 := by
  unfold zsk
  split <;> (try split) <;> rfl
theorem zdv_ok : ∀ t, t < 12 → ∀ i, i < zN t → zdv (zY t i) (zsk t 0 i).1 = true := by decide +kernel
theorem zdv_rv {X : zX} {ty : FieldType} {k L : Nat} (h : zdv ty k = true) (hk : zkd k = true) : defaultValue ty = zrv X (k, L, if 100 ≤ k then -1 else 0) := by
  cases ty with
  | int => simp only [zdv, beq_iff_eq] at h; subst h; rfl
  | boolean => simp only [zdv, beq_iff_eq] at h; subst h; rfl
  | long => simp only [zdv, beq_iff_eq] at h; subst h; rfl
  | object c =>
    simp only [zdv, decide_eq_true_eq] at h
    obtain ⟨j, rfl⟩ : ∃ j, k = j + 2 := ⟨k - 2, by omega⟩
    rw [if_pos h]
    rfl
  | array c =>
    simp only [zdv, decide_eq_true_eq] at h
    obtain ⟨j, rfl⟩ : ∃ j, k = j + 2 := ⟨k - 2, by omega⟩
    rw [if_pos h]
    rfl
  | _ => simp [zdv] at h
section
variable {X : zX} {g : Bool} {l : Launch} {d d' bc bs mc ms : Nat} {y q : zMt} {pc pc' : Nat} {ls ls' : List (Option zV)} {st st' rest as : List zV} {μ : zM} {Q : Option zV → zM → Prop}
theorem zok_fresh {t L : Nat} (h : 0 ≤ μ (-1) 0) (ht : t < 30) : zok (zal μ t L) (t + 2, L, μ (-1) 0) := by
  obtain ⟨n, hn⟩ : ∃ n : Nat, μ (-1) 0 = (n : Int) := ⟨(μ (-1) 0).toNat, by omega⟩
  obtain ⟨e1, e2, e3⟩ := zal_new μ t L (k := n) hn.symm
  refine ⟨fun q => by simp at q, fun q => by simp at q, fun _ _ => h, fun _ _ => ?_, fun q => absurd (show 100 ≤ t + 2 from q) (by omega)⟩
  show μ (-1) 0 < zal μ t L (-1) 0 ∧ zal μ t L (-2) (μ (-1) 0) = ((t + 2 - 2 : Nat) : Int) ∧ zal μ t L (-3) (μ (-1) 0) = (L : Int)
  rw [zal_n, hn, e2, e3]
  exact ⟨by omega, by simp, rfl⟩
theorem zE_fresh {t L : Nat} {p : Program} {e : Env} {R : Room} {s : State} {m : MethodId} {args : Array Value} {below : List Frame} {meth : Method} {c : Code} {H H1 : Heap} {locs : List Loc} {la : Array Slot} {cells slots k1 k2 : Nat} (hE : zEnv X y p s m meth c) (hR : zRm d (k1 + bc) (k2 + bs) R cells slots) (hS : va_S (zA X) s.heap H locs) (hM : zR X false μ H) (hL : zLs X μ y.2.2.1 la ls) (hst : ∀ v ∈ st, zok μ v)
    (ht : t < 26) (hLn : L < 2147483648) (hz : H1.size = H.size + 1) (ho : ∀ q, q < H.size → H1[q]? = H[q]?) (ha : zat X t L (zdf t L) (μ (-1) 0).toNat H1) (hk1 : k1 = 1)
    (k : zE X false l d bc bs y pc' ls ((t + 2, L, μ (-1) 0) :: st) (zal μ t L) Q) : W p l e R s m args below meth c H1 locs (cells + 1) (slots + k2) (MQ below (zQ X false μ Q) args s R.cells R.slots (zA X)) (F0 m pc' la (.ref H.size :: st.map (zrv X))) := by
  have hx := zal_ext μ t L hM.1
  have hM1 := hM.alloc ht hLn hz ho ha
  have hr : zrv X (t + 2, L, μ (-1) 0) = .ref H.size := by
    rw [zrv_ref hM.1]
    simp only [zad]
    rw [if_pos (Or.inl (by omega)), hM.2.1]
  have := zW_ext hx <| k p e R s m args below meth c H1 locs la (cells + 1) (slots + k2) hE ⟨hR.1, hR.2.1, by have := hR.2.2.1; omega, by have := hR.2.2.2; omega⟩ ⟨by have := hS.1; omega, fun q q1 q2 => (ho q (Nat.lt_of_lt_of_le q1 hS.1)).trans (hS.2.1 q q1 q2), hS.2.2⟩ hM1 ⟨hL.1, hL.2.1, fun j w hj => ⟨(hL.2.2 j w hj).1, (hL.2.2 j w hj).2.ext hx⟩⟩ (zmk (zok_fresh hM.1 (by omega)) (fun w hw => (hst w hw).ext hx))
  rw [List.map_cons, hr] at this
  exact this
theorem zE_new {n t L : Nat} (hd : zI y.2.1 pc (.new n) 3 pc') (ht : t < 12) (hLn : L < 2147483648) (hcl : Cond.classLink y.1.cls n (zC t) ∈ lw_tbl) (hin : Cond.instantiable (zC t) (zN t) ∈ lw_tbl) (hini : Cond.initialized (zC t) ∈ lw_tbl) (k : zE X false l d bc bs y pc' ls ((t + 2, L, μ (-1) 0) :: st) (zal μ t L) Q) : zE X false l d (1 + bc) (zN t + bs) y pc ls st μ Q := by
  obtain ⟨hd, rfl⟩ := hd
  intro p e R s m args below meth c H locs la cells slots hE hR hS hM hL hst
  have hK : zKn X s := hE.2.2.2.2.2.2.2.2.1
  have hKn := hK.2.1.1 t _ (zcl_at t ht)
  refine W.newcK hE.1 hE.2.1 hE.2.2.2.2.1 (hK.word hcl rfl rfl) (hK.word hin rfl rfl) (hK.word hini rfl rfl) rfl hd (by have := hR.2.2.1; omega) (by have := hR.2.2.2; omega) hKn.2.1 rfl fun H1 kC hkC e1 z1 o1 => ?_
  refine zE_fresh hE hR hS hM hL hst (by omega) hLn z1 o1 ?_ rfl k
  unfold zat
  rw [if_pos ht]
  have e2 : X.1 + (μ (-1) 0).toNat = H.size := hM.2.1.symm
  rw [e2]
  refine (u_born (zY t) (hK.lays ht (args := args)) (fun _ h => h) hKn hkC e1 (zT_y t ht)).to (fun j hj => ?_)
  have h1 := zdv_ok t ht j hj
  rw [← zsk_L t L j] at h1
  have h2 := zdv_rv (X := X) (L := (zsk t L j).2) h1 (zsk_kd t L j)
  rw [h2]
  unfold zsv zdf
  simp
theorem zE_newa {at' : ArrayType} {t : Nat} {n : Int} (hd : zI y.2.1 pc (.newarray at') 2 pc') (h : t = 12 ∧ at' = .int ∨ t = 13 ∧ at' = .long ∨ t = 14 ∧ at' = .boolean) (hn : 0 ≤ n) (hn2 : n < 60000000) (hw : Cond.arrayClass (newarray.typeOf at') ∈ lw_tbl) (k : zE X false l d bc bs y pc' ls ((t + 2, n.toNat, μ (-1) 0) :: st) (zal μ t n.toNat) Q) : zE X false l d (1 + bc) (n.toNat + bs) y pc ls ((0, 0, n) :: st) μ Q := by
  obtain ⟨hd, rfl⟩ := hd
  intro p e R s m args below meth c H locs la cells slots hE hR hS hM hL hst
  have hK : zKn X s := hE.2.2.2.2.2.2.2.2.1
  have hcl : (Int32.ofInt n).toNatClampNeg = n.toNat := by
    show (Int32.ofInt n).toInt.toNat = _
    rw [zi_of (by omega) (by omega)]
  have hneg : ¬ Int32.ofInt n < 0 := by
    rw [z_0, z_lt ⟨by omega, by omega⟩ ⟨by omega, by omega⟩]
    omega
  have hcb : n.toNat * componentBytes (newarray.typeOf at') ≤ 536870912 := by
    rcases h with ⟨-, rfl⟩ | ⟨-, rfl⟩ | ⟨-, rfl⟩ <;> simp [newarray.typeOf, componentBytes] <;> omega
  refine va_newaK hE.1 hE.2.1 (hK.arr hw) rfl hd rfl hneg hcl hcb (by have := hR.2.2.1; omega) (by have := hR.2.2.2; omega) rfl fun H1 cA e1 z1 o1 hAr hNm => ?_
  have ht : t < 26 := by omega
  refine zE_fresh hE hR hS hM hL (zcons hst).2 ht (by omega) z1 o1 ?_ rfl k
  unfold zat
  rw [if_neg (by omega)]
  have e2 : X.1 + (μ (-1) 0).toNat = H.size := hM.2.1.symm
  rw [e2, e1]
  have hRA := (hK.2.1.2 t _ (ztys_at X ht)).2
  have hc : cA = X.2.2.2.1 t := by
    rcases h with ⟨rfl, rfl⟩ | ⟨rfl, rfl⟩ | ⟨rfl, rfl⟩ <;> exact Option.some.inj (hNm.symm.trans hRA)
  rw [hc]
  refine congrArg (fun f => some (arrV _ _ f)) (funext fun j => ?_)
  rcases h with ⟨rfl, rfl⟩ | ⟨rfl, rfl⟩ | ⟨rfl, rfl⟩ <;> rfl
theorem zE_anew {i t t' : Nat} {n : Int} (hd : zI y.2.1 pc (.anewarray i) 3 pc') (ht : 16 ≤ t) (ht2 : t < 26) (hy : zay t = .object (zC t')) (hC : zC t' = "SmokeRoom$Plan" ∨ zC t' = "SmokeRoom$Law" ∨ zC t' = "SmokeRoom$Room" ∨ zC t' = "SmokeRoom$Big") (hk : ∀ L j : Nat, 100 ≤ (zsk t L j).1) (hcl : Cond.classLink y.1.cls i (zC t') ∈ lw_tbl) (hn : 0 ≤ n) (hn2 : n < 60000000) (k : zE X false l d bc bs y pc' ls ((t + 2, n.toNat, μ (-1) 0) :: st) (zal μ t n.toNat) Q) : zE X false l d (1 + bc) (n.toNat + bs) y pc ls ((0, 0, n) :: st) μ Q := by
  obtain ⟨hd, rfl⟩ := hd
  intro p e R s m args below meth c H locs la cells slots hE hR hS hM hL hst
  have hK : zKn X s := hE.2.2.2.2.2.2.2.2.1
  have hcl2 : (Int32.ofInt n).toNatClampNeg = n.toNat := by
    show (Int32.ofInt n).toInt.toNat = _
    rw [zi_of (by omega) (by omega)]
  have hneg : ¬ Int32.ofInt n < 0 := by
    rw [z_0, z_lt ⟨by omega, by omega⟩ ⟨by omega, by omega⟩]
    omega
  refine W.anew hE.1 hE.2.1 hE.2.2.2.2.1 (hK.word hcl rfl rfl) (va_AO.use (hK.2.2.1 _ hC)) rfl hd rfl hneg (by rw [hcl2]; omega) (by have := hR.2.2.1; omega) (by rw [hcl2]; have := hR.2.2.2; omega) fun cA kA comp f1 f2 f3 f4 => ?_
  rw [hcl2]
  generalize hH1 : H.push ({ cls := cA, slots := Array.replicate n.toNat .null, vm := .none } : Cell) = H1
  have z1 : H1.size = H.size + 1 := by rw [← hH1, Array.size_push]
  have e1 : H1[H.size]? = some (arrV cA n.toNat (fun _ => .null)) := by rw [← hH1, Array.getElem?_push_size, ← arrV_new]
  have o1 : ∀ q : Nat, q < H.size → H1[q]? = H[q]? := fun q hq => by rw [← hH1, Array.getElem?_push, if_neg (Nat.ne_of_lt hq)]
  refine zE_fresh hE hR hS hM hL (zcons hst).2 ht2 (by omega) z1 o1 ?_ rfl k
  unfold zat
  rw [if_neg (by omega)]
  have e2 : X.1 + (μ (-1) 0).toNat = H.size := hM.2.1.symm
  rw [e2, e1]
  have hRA := (hK.2.1.2 t _ (ztys_at X ht2)).2
  rw [hy] at hRA
  obtain ⟨kA', comp', r1, r2, r3, r4⟩ := hRA
  have hc : cA = X.2.2.2.1 t := Option.some.inj (f1.symm.trans r4)
  rw [hc]
  refine congrArg (fun f => some (arrV _ _ f)) (funext fun j => ?_)
  unfold zsv zdf
  have h9 := hk n.toNat j
  simp only [Int.toNat_natCast]
  rw [if_pos h9]
  obtain ⟨j', hj'⟩ : ∃ j', (zsk t n.toNat j).1 = j' + 2 := ⟨(zsk t n.toNat j).1 - 2, by omega⟩
  rw [hj']
  rfl
end

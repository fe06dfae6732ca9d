theorem ztys_at (X : zX) {t : Nat} (h : t < 26) : (ztys X)[t]? = some (X.2.2.2.1 t, zay t) := by
  unfold ztys
  rw [List.getElem?_map, List.getElem?_range h]
  rfl
section
variable {X : zX} {g : Bool} {l : Launch} {d bc bs : Nat} {y : zMt} {pc pc' : Nat} {ls ls' : List (Option zV)} {st st' : List zV} {μ : zM} {Q : Option zV → zM → Prop}
/-- what a load needs -/
theorem zE_ald {t L : Nat} {a i : Int} {ins : Instr} {k0 L0 : Nat} (hd : zI y.2.1 pc ins 1 pc') (ht : 12 ≤ t) (ht2 : t < 26) (hk : ∀ j : Nat, zsk t L j = (k0, L0)) (h0 : 0 ≤ i) (h1 : i < L)
    (row : ∀ (p : Program) (e : Env) (R : Room) (s : State) (m : MethodId) (args : Array Value) (below : List Frame) (meth : Method) (c : Code) (H : Heap) (locs : List Loc) (la : Array Slot) (cells slots : Nat) (Z : State → Prop) (rest : List Value) (b : Nat) (cell : Cell) (v : Value) (j : Int32), p.tables.exec = Jvm.exec → c.code = y.2.1 → H[b]? = some cell → s.isArrayOf cell (zay t) → cell.vm ≠ .unknown → ¬ (j < 0 ∨ cell.slots.size ≤ j.toNatClampNeg) → cell.slots[j.toNatClampNeg]? = some v →
      W p l e R s m args below meth c H locs cells slots Z (F0 m (pc + 1) la (v :: rest)) → W p l e R s m args below meth c H locs cells slots Z (F0 m pc la (.int j :: .ref b :: rest)))
    (k : zE X g l d bc bs y pc' ls ((k0, L0, μ a i) :: st) μ Q) : zE X g l d bc bs y pc ls ((0, 0, i) :: (t + 2, L, a) :: st) μ Q := by
  obtain ⟨hd, rfl⟩ := hd
  intro p e R s m args below meth c H locs la cells slots hE hR hS hM hL hst
  have hrest := (zcons (zcons hst).2).2
  obtain ⟨kk, rfl, k1, k2, k3, k4, k5, k6, k7⟩ := hM.cell (zcons (zcons hst).2).1 (by omega)
  obtain ⟨iN, rfl⟩ : ∃ n : Nat, i = (n : Int) := ⟨i.toNat, by omega⟩
  have hK : zKn X s := hE.2.2.2.2.2.2.2.2.1
  have e1 : zrv X (t + 2, L, (kk : Int)) = .ref (X.1 + kk) := by
    rw [zrv_ref (by omega), zad_new (by omega)]
  have h7 := k7 iN (by unfold zsn; rw [if_neg (by omega)]; omega)
  rw [hk] at h7
  obtain ⟨hin, hcl⟩ := z_in (L := L) h0 h1 k5
  unfold zat at k6
  rw [if_neg (by omega)] at k6
  have hA := (hK.2.1.2 t _ (ztys_at X ht2)).1 L (zsv X t L (μ kk))
  rw [List.map_cons, List.map_cons, e1]
  refine row p e R s m args below meth c H locs la cells slots _ _ _ _ (zrv X (k0, L0, μ kk iN)) (Int32.ofInt iN) hE.1 hE.2.1 k6 hA (fun q => by cases q) (by rw [arrV_size]; exact hin) ?_ (k p e R s m args below meth c H locs la cells slots hE hR hS hM hL (zmk h7 hrest))
  rw [hcl, Int.toNat_natCast, arrV_read _ _ (by omega)]
  unfold zsv
  rw [hk]
theorem zE_iald {L : Nat} {a i : Int} (hd : zI y.2.1 pc .iaload 1 pc') (h : 0 ≤ i ∧ i < L) (k : zE X g l d bc bs y pc' ls ((0, 0, μ a i) :: st) μ Q) : zE X g l d bc bs y pc ls ((0, 0, i) :: (14, L, a) :: st) μ Q :=
  zE_ald (t := 12) hd (by omega) (by omega) (fun _ => rfl) h.1 h.2 (fun p e R s m args below meth c H locs la cells slots Z rest b cell v j hx hb q1 q2 q3 q4 q5 kk => W.iald hx hb q1 q2 q3 q4 q5 rfl rfl hd.1 kk) k
theorem zE_lald {L : Nat} {a i : Int} (hd : zI y.2.1 pc .laload 1 pc') (h : 0 ≤ i ∧ i < L) (k : zE X g l d bc bs y pc' ls ((1, 0, μ a i) :: st) μ Q) : zE X g l d bc bs y pc ls ((0, 0, i) :: (15, L, a) :: st) μ Q :=
  zE_ald (t := 13) hd (by omega) (by omega) (fun _ => rfl) h.1 h.2 (fun p e R s m args below meth c H locs la cells slots Z rest b cell v j hx hb q1 q2 q3 q4 q5 kk => W.lald hx hb q1 q2 q3 q4 q5 rfl rfl hd.1 kk) k
theorem zE_zald {L : Nat} {a i : Int} (hd : zI y.2.1 pc .baload 1 pc') (h : 0 ≤ i ∧ i < L) (k : zE X g l d bc bs y pc' ls ((0, 0, μ a i) :: st) μ Q) : zE X g l d bc bs y pc ls ((0, 0, i) :: (16, L, a) :: st) μ Q :=
  zE_ald (t := 14) hd (by omega) (by omega) (fun _ => rfl) h.1 h.2 (fun p e R s m args below meth c H locs la cells slots Z rest b cell v j hx hb q1 q2 q3 q4 q5 kk => W.zald hx hb q1 q2 q3 q4 q5 rfl rfl hd.1 kk) k
theorem zE_aald {t L : Nat} {a i : Int} {k0 L0 : Nat} (hd : zI y.2.1 pc .aaload 1 pc') (ht : 16 ≤ t) (ht2 : t < 26) (hk : ∀ j : Nat, zsk t L j = (k0, L0)) (hy : (zay t).isReference = true) (h : 0 ≤ i ∧ i < L) (k : zE X g l d bc bs y pc' ls ((k0, L0, μ a i) :: st) μ Q) : zE X g l d bc bs y pc ls ((0, 0, i) :: (t + 2, L, a) :: st) μ Q :=
  zE_ald (t := t) hd (by omega) (by omega) hk h.1 h.2 (fun p e R s m args below meth c H locs la cells slots Z rest b cell v j hx hb q1 q2 q3 q4 q5 kk => W.aald hx hb q1 q2 hy q3 q4 q5 rfl rfl hd.1 kk) k
/-- the same once all constructors are through -/
theorem zE_aalr {t L : Nat} {a i : Int} {t' L' : Nat} {o q : Int} (hd : zI y.2.1 pc .aaload 1 pc') (ht : 16 ≤ t) (ht2 : t < 26) (hk : ∀ j : Nat, zsk t L j = (100 + t', L')) (hy : (zay t).isReference = true) (hs : zst t = some (o, q)) (ho : 0 ≤ o ∧ 0 ≤ q) (ht' : t' < 30) (h : 0 ≤ i ∧ i < L) (k : zE X true l d bc bs y pc' ls ((t' + 2, L', a + o + q * i) :: st) μ Q) : zE X true l d bc bs y pc ls ((0, 0, i) :: (t + 2, L, a) :: st) μ Q := by
  intro p e R s m args below meth c H locs la cells slots hE hR hS hM hL hst
  obtain ⟨kk, rfl, k1, k2, k3, k4, k5, k6, k7⟩ := hM.cell (zcons (zcons hst).2).1 (by omega)
  obtain ⟨iN, rfl⟩ : ∃ n : Nat, i = (n : Int) := ⟨i.toNat, by omega⟩
  have hr := (hM.2.2.2 rfl kk k1).2 o q (by rw [k2]; exact hs) iN (by rw [k3]; exact h.2)
  refine zE_aald (g := true) hd ht ht2 hk hy h (zE_nn ?_ ?_ ht') p e R s m args below meth c H locs la cells slots hE hR hS hM hL hst
  · rw [hr]
    have := Int.mul_nonneg ho.2 h.1
    omega
  · rw [hr]; exact k
/-- what a store needs -/
theorem zE_ast {t L : Nat} {a i : Int} {w : zV} {ins : Instr} {k0 L0 : Nat} (hd : zI y.2.1 pc ins 1 pc') (ht : 12 ≤ t) (ht2 : t < 26) (hk : ∀ j : Nat, zsk t L j = (k0, L0)) (hw : zok μ w → zok μ (k0, L0, w.2.2)) (hrv : zok μ w → zrv X (k0, L0, w.2.2) = zrv X w) (hg : g = true → zst t = none) (h0 : 0 ≤ i) (h1 : i < L)
    (row : ∀ (p : Program) (e : Env) (R : Room) (s : State) (m : MethodId) (args : Array Value) (below : List Frame) (meth : Method) (c : Code) (H : Heap) (locs : List Loc) (la : Array Slot) (cells slots : Nat) (Z : State → Prop) (rest : List Value) (b : Nat) (f : Nat → Value) (j : Int32), p.tables.exec = Jvm.exec → c.code = y.2.1 → zKn X s → zR X g μ H → zok μ w → H[b]? = some (arrV (X.2.2.2.1 t) L f) → s.isArrayOf (arrV (X.2.2.2.1 t) L f) (zay t) → ¬ (j < 0 ∨ L ≤ j.toNatClampNeg) →
      (∀ H' : Heap, H'[b]? = some ((arrV (X.2.2.2.1 t) L f).setSlot j.toNatClampNeg (zrv X w)) → H'.size = H.size → (∀ q, q ≠ b → H'[q]? = H[q]?) → W p l e R s m args below meth c H' (locs ++ [⟨b, j.toNatClampNeg⟩]) cells slots Z (F0 m (pc + 1) la rest)) → W p l e R s m args below meth c H locs cells slots Z (F0 m pc la (zrv X w :: .int j :: .ref b :: rest)))
    (k : zE X g l d bc bs y pc' ls st (zup μ a i w.2.2) Q) : zE X g l d bc bs y pc ls (w :: (0, 0, i) :: (t + 2, L, a) :: st) μ Q := by
  obtain ⟨hd, rfl⟩ := hd
  intro p e R s m args below meth c H locs la cells slots hE hR hS hM hL hst
  have hwk := (zcons hst).1
  have hrest := (zcons (zcons (zcons hst).2).2).2
  obtain ⟨kk, rfl, k1, k2, k3, k4, k5, k6, k7⟩ := hM.cell (zcons (zcons (zcons hst).2).2).1 (by omega)
  obtain ⟨iN, rfl⟩ : ∃ n : Nat, i = (n : Int) := ⟨i.toNat, by omega⟩
  have hK : zKn X s := hE.2.2.2.2.2.2.2.2.1
  have e1 : zrv X (t + 2, L, (kk : Int)) = .ref (X.1 + kk) := by
    rw [zrv_ref (by omega), zad_new (by omega)]
  obtain ⟨hin, hcl⟩ := z_in (L := L) h0 h1 k5
  have hsn : iN < zsn t L := by unfold zsn; rw [if_neg (by omega)]; omega
  unfold zat at k6
  rw [if_neg (by omega)] at k6
  have hA := (hK.2.1.2 t _ (ztys_at X ht2)).1 L (zsv X t L (μ kk))
  rw [List.map_cons, List.map_cons, List.map_cons, e1]
  refine row p e R s m args below meth c H locs la cells slots _ _ _ _ (Int32.ofInt iN) hE.1 hE.2.1 hK hM hwk k6 hA hin fun H1 f1 f2 f3 => ?_
  rw [hcl, Int.toNat_natCast, arrV_store] at f1
  have hat : zat X t L (fun j => if j = (iN : Int) then w.2.2 else μ kk j) kk H1 := by
    unfold zat
    rw [if_neg (by omega), f1]
    refine congrArg (fun f => some (arrV _ L f)) (funext fun j => ?_)
    unfold updV zsv
    by_cases e : j = iN
    · subst e
      simp only [if_true]
      rw [hk]
      exact (hrv hwk).symm
    · have : ¬ (j : Int) = (iN : Int) := by omega
      simp only [if_neg e, if_neg this]
  have hzn : zof t iN = none := by
    unfold zof
    split <;> first | omega | rfl
  have hM1 := hM.store k1 k2 k3 hsn (v := w.2.2) (by rw [hk]; exact hw hwk) (fun q => ⟨hzn, hg q⟩) f2 f3 hat
  exact zW_ext (zext_up (by omega)) <| k p e R s m args below meth c H1 _ la cells slots hE hR (hS.put f2 f3 (by unfold zA; omega)) hM1 ⟨hL.1, hL.2.1, fun j v hj => ⟨(hL.2.2 j v hj).1, (zok_up (by omega) v).mpr (hL.2.2 j v hj).2⟩⟩ (fun v hv => (zok_up (by omega) v).mpr (hrest v hv))
theorem zE_iast {L : Nat} {a i v : Int} (hd : zI y.2.1 pc .iastore 1 pc') (h : 0 ≤ i ∧ i < L) (k : zE X g l d bc bs y pc' ls st (zup μ a i v) Q) : zE X g l d bc bs y pc ls ((0, 0, v) :: (0, 0, i) :: (14, L, a) :: st) μ Q :=
  zE_ast (t := 12) hd (by omega) (by omega) (fun _ => rfl) (fun h => h) (fun _ => rfl) (fun _ => rfl) h.1 h.2 (fun p e R s m args below meth c H locs la cells slots Z rest b f j hx hb _ _ _ q1 q2 q3 kk => W.iast hx hb q1 q2 (fun q => by cases q) (by rw [arrV_size]; exact q3) rfl rfl hd.1 kk) k
theorem zE_last {L : Nat} {a i v : Int} (hd : zI y.2.1 pc .lastore 1 pc') (h : 0 ≤ i ∧ i < L) (k : zE X g l d bc bs y pc' ls st (zup μ a i v) Q) : zE X g l d bc bs y pc ls ((1, 0, v) :: (0, 0, i) :: (15, L, a) :: st) μ Q :=
  zE_ast (t := 13) hd (by omega) (by omega) (fun _ => rfl) (fun h => h) (fun _ => rfl) (fun _ => rfl) h.1 h.2 (fun p e R s m args below meth c H locs la cells slots Z rest b f j hx hb _ _ _ q1 q2 q3 kk => W.last hx hb q1 q2 (fun q => by cases q) (by rw [arrV_size]; exact q3) rfl rfl hd.1 kk) k
theorem zE_zast {L : Nat} {a i v : Int} (hd : zI y.2.1 pc .bastore 1 pc') (hv : v = 0 ∨ v = 1) (h : 0 ≤ i ∧ i < L) (k : zE X g l d bc bs y pc' ls st (zup μ a i v) Q) : zE X g l d bc bs y pc ls ((0, 0, v) :: (0, 0, i) :: (16, L, a) :: st) μ Q :=
  zE_ast (t := 14) hd (by omega) (by omega) (fun _ => rfl) (fun h => h) (fun _ => rfl) (fun _ => rfl) h.1 h.2 (fun p e R s m args below meth c H locs la cells slots Z rest b f j hx hb _ _ _ q1 q2 q3 kk => W.zast hx hb q1 q2 (fun q => by cases q) (by rw [arrV_size]; exact q3) rfl rfl hd.1 (fun H' f1 f2 f3 => kk H' (by rw [f1]; rcases hv with rfl | rfl <;> rfl) f2 f3)) k
/-- a reference into an array of references to objects (constructors alone) -/
theorem zE_aast {t L : Nat} {a i v : Int} {t' L' : Nat} (hd : zI y.2.1 pc .aastore 1 pc') (ht : 16 ≤ t) (ht2 : t < 26) (hk : ∀ j : Nat, zsk t L j = (100 + t', L')) (hy : zay t = .object (zC t')) (ht' : t' < 12) (h : 0 ≤ i ∧ i < L) (k : zE X false l d bc bs y pc' ls st (zup μ a i v) Q) : zE X false l d bc bs y pc ls ((t' + 2, L', v) :: (0, 0, i) :: (t + 2, L, a) :: st) μ Q := by
  refine zE_ast (t := t) hd (by omega) (by omega) hk (fun h => ?_) (fun h => ?_) (fun q => by cases q) h.1 h.2 (fun p e R s m args below meth c H locs la cells slots Z rest b f j hx hb hK hM hwk q1 q2 q3 kk => ?_) k
  · have h0 := zok_pos h (by omega)
    have h1 := h.2.2.2.1 (by simp) (by show t' + 2 < 32; omega)
    exact ⟨fun q => by simp at q, fun q => by simp at q; omega, fun q q2 => by simp at q2; omega, fun q q2 => by simp at q2; omega, fun _ _ _ => ⟨h1.1, by rw [h1.2.1]; simp, h1.2.2⟩⟩
  · have h0 := zok_pos h (by omega)
    rw [zrv_ref h0, show 100 + t' = (98 + t') + 2 by omega, zrv_ref h0]
    simp [zad, show t' + 2 < 32 by omega, show 98 + t' + 2 < 132 by omega]
  · obtain ⟨kv, rfl, k1, k2, k3, k4, k5, k6, k7⟩ := hM.cell hwk (by omega)
    unfold zat at k6
    rw [if_pos ht'] at k6
    obtain ⟨cellV, g1, g2, g3, -⟩ := k6
    have hcls := (hK.2.1.1 t' _ (zcl_at t' ht')).2
    have hRA := (hK.2.1.2 t _ (ztys_at X ht2)).2
    rw [hy] at hRA
    obtain ⟨kA, comp, r1, r2, r3, -⟩ := hRA
    have hcomp : comp = X.2.2.1.1 t' := Option.some.inj (r3.symm.trans hcls.1)
    subst hcomp
    obtain ⟨kC, hkC, -⟩ := id hcls.2
    have e1 : zrv X (t' + 2, L', (kv : Int)) = .ref (X.1 + kv) := by
      rw [zrv_ref (by omega), zad_new (by omega)]
    rw [e1] at kk ⊢
    refine W.aast hx hb q1 (fun q h => by cases h) (fun h => by cases h) r1 r2 rfl hkC ⟨fun q => q3 (Or.inl q), by rw [arrV_size]; exact Nat.not_le.mp fun q => q3 (Or.inr q)⟩ g1 (fun q h => by rw [g3] at h; cases h) (by rw [g2]; exact hkC) (by rw [g2]; exact va_assign hcls) rfl rfl hd.1 kk
theorem zE_alen {t L : Nat} {a : Int} (hd : zI y.2.1 pc .arraylength 1 pc') (ht : 12 ≤ t) (ht2 : t < 26) (k : zE X g l d bc bs y pc' ls ((0, 0, (L : Int)) :: st) μ Q) : zE X g l d bc bs y pc ls ((t + 2, L, a) :: st) μ Q := by
  obtain ⟨hd, rfl⟩ := hd
  intro p e R s m args below meth c H locs la cells slots hE hR hS hM hL hst
  obtain ⟨kk, rfl, k1, k2, k3, k4, k5, k6, k7⟩ := hM.cell (zcons hst).1 (by omega)
  have hK : zKn X s := hE.2.2.2.2.2.2.2.2.1
  have e1 : zrv X (t + 2, L, (kk : Int)) = .ref (X.1 + kk) := by
    rw [zrv_ref (by omega), zad_new (by omega)]
  unfold zat at k6
  rw [if_neg (by omega)] at k6
  have hA := (hK.2.1.2 t _ (ztys_at X ht2)).1 L (zsv X t L (μ kk))
  rw [List.map_cons, e1]
  exact W.alen hE.1 hE.2.1 k6 hA (n := Int32.ofInt (L : Int)) (by rw [arrV_size]; rfl) rfl rfl hd (k p e R s m args below meth c H locs la cells slots hE hR hS hM hL (zmk (zok_i (by omega) (by omega)) (zcons hst).2))
end
